section P45
variable {N N0 S S0 : vM} {i p z m : Nat} {F T C : Nat → Nat}
theorem c_coA {s : Nat} (hP : v_isP p) (hs : s < 20) : fX3_costAt N p (nI s) = rI (N.1 (p + 1) s) N := by
  unfold fX3_costAt
  rw [e_at (len := 20) (by rw [(v_LP hP).2.2.1.1]) hs (by decide), bi_I]
theorem c_stA {s : Nat} (hP : v_isP p) (hs : s < 20) : fX3_startAt N p (nI s) = rI (N.1 (p + 2) s) N := by
  unfold fX3_startAt
  rw [e_at (len := 20) (by rw [(v_LP hP).2.2.1.2.1]) hs (by decide), bi_I]
theorem c_enA {s : Nat} (hP : v_isP p) (hs : s < 20) : fX3_endAt N p (nI s) = rI (N.1 (p + 3) s) N := by
  unfold fX3_endAt
  rw [e_at (len := 20) (by rw [(v_LP hP).2.2.1.2.2.1]) hs (by decide), bi_I]
theorem sh1 : ∀ s, s < 31 → (1 : Int32) <<< (nI s &&& 31) = nI (2 ^ s) := by decide +kernel
theorem or20 {b s : Nat} (hb : b < 1048576) (hs : s < 20) : b ||| 2 ^ s < 1048576 := Nat.or_lt_two_pow (n := 20) hb (Nat.pow_lt_pow_right (by decide) hs)
/-! a net: its steps lead from F to T and cost C; the last place is z -/
def wlk (F T C : Nat → Nat) (m z : Nat) : Nat → Nat → Nat → Nat → List Nat
  | 0, _, _, _ => []
  | d + 1, v, c, b => if v = z then [c * 1048576 + b] else catF (fun s => if F s = v then wlk F T C m z d (T s) (c + C s) (b ||| 2 ^ s) else []) m 0
def netS (F T C : Nat → Nat) (m z : Nat) : Prop := z ≤ 11 ∧ m ≤ 20 ∧ ∀ s, s < m → F s < T s ∧ T s ≤ z ∧ C s ≤ 999
def cNet (N : vM) (p m z : Nat) (F T C : Nat → Nat) : Prop := N.1 p 1 = nI (z + 1) ∧ N.1 p 4 = nI m ∧ ∀ s, s < m → N.1 (p + 2) s = nI (F s) ∧ N.1 (p + 3) s = nI (T s) ∧ N.1 (p + 1) s = nI (C s)
def rNet (S : vM) (i m z : Nat) (F T C : Nat → Nat) : Prop := S.1 133 i = nI (z + 1) ∧ S.1 136 i = nI m ∧ ∀ s, s < m → S.1 139 (20 * i + s) = nI (F s) ∧ S.1 140 (20 * i + s) = nI (T s) ∧ S.1 141 (20 * i + s) = nI (C s)
theorem c_w31 {self : vM → Nat → Int32 → Int32 → Int32 → Int32 → Option (vR × vM)} {d v c b dep : Nat} (hi : i < 6) (hP : v_isP p) (h0 : N0.2.2 (qw i) 0 - 1 = p) (hS : netS F T C m z) (hN : cNet N0 p m z F T C) (hv : v ≤ 11)
    (hself : ∀ (s : Nat) (L : List Nat) (N : vM), s < m → F s = v → cWy N0 N (qw i) L → L.length + (wlk F T C m z d (T s) (c + C s) (b ||| 2 ^ s)).length ≤ 1458 → ∃ N', self N (qw i) (nI (T s)) (nI (b ||| 2 ^ s)) (nI (c + C s)) (nI (dep + 1)) = rV N' ∧ cWy N0 N' (qw i) (L ++ wlk F T C m z d (T s) (c + C s) (b ||| 2 ^ s))) :
    ∀ (n f s : Nat) (L : List Nat) (N : vM), n < f → s + n = m → cWy N0 N (qw i) L → L.length + (catF (fun s => if F s = v then wlk F T C m z d (T s) (c + C s) (b ||| 2 ^ s) else []) n s).length ≤ 1458 →
      ∃ N', fX9_walk_31 self f N (qw i) (nI v) (nI b) (nI c) (nI dep) (nI s) = rV N' ∧ cWy N0 N' (qw i) (L ++ catF (fun s => if F s = v then wlk F T C m z d (T s) (c + C s) (b ||| 2 ^ s) else []) n s) := by
  obtain ⟨hz, hm, hst⟩ := hS
  intro n
  induction n with
  | zero =>
    intro f s L N hf hs hW hL
    cases f with
    | zero => exact absurd hf (Nat.not_lt_zero _)
    | succ f =>
      have e0 : N.2.2 (qw i) 0 - 1 = p := by rw [hW.2.2.2.2.1]; exact h0
      have e1 : N.1 p = N0.1 p := hW.2.2.1 p (plan_ne hP 0 (by decide) i hi).1
      refine ⟨N, ?_, by show cWy N0 N (qw i) (L ++ []); rw [List.append_nil]; exact hW⟩
      unfold fX9_walk_31
      rw [e0, e1, hN.2.1, if_pos (nI_le (by omega) (by omega))]
  | succ n ih =>
    intro f s L N hf hs hW hL
    cases f with
    | zero => exact absurd hf (Nat.not_lt_zero _)
    | succ f =>
      have e0 : N.2.2 (qw i) 0 - 1 = p := by rw [hW.2.2.2.2.1]; exact h0
      have e1 : N.1 p = N0.1 p := hW.2.2.1 p (plan_ne hP 0 (by decide) i hi).1
      have e2 : N.1 (p + 1) = N0.1 (p + 1) := hW.2.2.1 _ (plan_ne hP 1 (by decide) i hi).1
      have e3 : N.1 (p + 2) = N0.1 (p + 2) := hW.2.2.1 _ (plan_ne hP 2 (by decide) i hi).1
      have e4 : N.1 (p + 3) = N0.1 (p + 3) := hW.2.2.1 _ (plan_ne hP 3 (by decide) i hi).1
      obtain ⟨t1, t2, t3⟩ := hN.2.2 s (by omega)
      have hs2 := hst s (by omega)
      unfold fX9_walk_31
      rw [e0, e1, hN.2.1, if_neg (nI_ge (by omega) (by omega)), c_stA hP (by omega), bi_I, e3, t1]
      by_cases q : F s = v
      · have eg : catF (fun s => if F s = v then wlk F T C m z d (T s) (c + C s) (b ||| 2 ^ s) else []) (n + 1) s = wlk F T C m z d (T s) (c + C s) (b ||| 2 ^ s) ++ catF (fun s => if F s = v then wlk F T C m z d (T s) (c + C s) (b ||| 2 ^ s) else []) n (s + 1) := by
          show (if F s = v then wlk F T C m z d (T s) (c + C s) (b ||| 2 ^ s) else []) ++ _ = _
          rw [if_pos q]
        rw [eg, List.length_append] at hL
        obtain ⟨N1, s1, s2⟩ := hself s L N (by omega) q hW (by omega)
        obtain ⟨N', u1, u2⟩ := ih f (s + 1) (L ++ wlk F T C m z d (T s) (c + C s) (b ||| 2 ^ s)) N1 (by omega) (by omega) s2 (by rw [List.length_append]; omega)
        refine ⟨N', ?_, by rw [eg, ← List.append_assoc]; exact u2⟩
        rw [if_pos (congrArg nI q), e0, c_enA hP (by omega), bi_I, e0, c_coA hP (by omega), bi_I, e4, t2, e2, t3, sh1 s (by omega), fa_or, nI_add, nI_1, s1, bv_V, nI_1]
        exact u1
      · have eg : catF (fun s => if F s = v then wlk F T C m z d (T s) (c + C s) (b ||| 2 ^ s) else []) (n + 1) s = catF (fun s => if F s = v then wlk F T C m z d (T s) (c + C s) (b ||| 2 ^ s) else []) n (s + 1) := by
          show (if F s = v then wlk F T C m z d (T s) (c + C s) (b ||| 2 ^ s) else []) ++ _ = _
          rw [if_neg q, List.nil_append]
        rw [eg] at hL ⊢
        obtain ⟨N', u1, u2⟩ := ih f (s + 1) L N (by omega) (by omega) hW hL
        refine ⟨N', ?_, u2⟩
        rw [if_neg (fun e => q ((nI_eq (by omega) (by omega)).mp e)), nI_1]
        exact u1
theorem c_walk (hi : i < 6) (hP : v_isP p) (h0 : N0.2.2 (qw i) 0 - 1 = p) (hS : netS F T C m z) (hN : cNet N0 p m z F T C) : ∀ (d v c b dep : Nat) (L : List Nat) (N : vM), z < v + d → v ≤ z → dep ≤ v → c ≤ 999 * v → b < 1048576 → cWy N0 N (qw i) L → L.length + (wlk F T C m z d v c b).length ≤ 1458 →
    ∃ N', fX9_walk_r d N (qw i) (nI v) (nI b) (nI c) (nI dep) = rV N' ∧ cWy N0 N' (qw i) (L ++ wlk F T C m z d v c b) := by
  have hS' := hS
  obtain ⟨hz, hm, hst⟩ := hS'
  intro d
  induction d with
  | zero => intro v c b dep L N h1 h2; omega
  | succ d ih =>
    intro v c b dep L N h1 h2 h3 h4 h5 hW hL
    have e0 : N.2.2 (qw i) 0 - 1 = p := by rw [hW.2.2.2.2.1]; exact h0
    have e1 : N.1 p = N0.1 p := hW.2.2.1 p (plan_ne hP 0 (by decide) i hi).1
    have hLay : (v_LAY (qw i + 7)).2.2 = 1458 := by rw [(v_LW (v_isW_qw hi)).2.2.1]
    unfold fX9_walk_r fX9_walk_b
    rw [e0, e1, hN.1, nI_pred]
    by_cases q : v = z
    · have eg : wlk F T C m z (d + 1) v c b = [c * 1048576 + b] := if_pos q
      rw [eg] at hL ⊢
      rw [List.length_singleton] at hL
      obtain ⟨N', u1, u2⟩ := c_add hLay hW (by omega) (show c ≤ 1048575 by omega) h5
      refine ⟨N', ?_, u2⟩
      rw [if_pos (congrArg nI q), u1, bv_V]
    · have eg : wlk F T C m z (d + 1) v c b = catF (fun s => if F s = v then wlk F T C m z d (T s) (c + C s) (b ||| 2 ^ s) else []) m 0 := if_neg q
      rw [eg] at hL ⊢
      rw [if_neg (fun e => q ((nI_eq (by omega) (by omega)).mp e)), if_pos (show nI dep < 12 from nI_lt (show dep < 12 by omega) (by decide))]
      exact c_w31 (d := d) hi hP h0 hS hN (by omega) (fun s L' N' a1 a2 a3 a4 => by
        have hs := hst s a1
        exact ih (T s) (c + C s) (b ||| 2 ^ s) (dep + 1) L' N' (by omega) hs.2.1 (by omega) (by omega) (or20 h5 (by omega)) a3 a4) m FU 0 L N (FU_lt (by omega)) (Nat.zero_add m) hW hL
theorem r_w24 {self : vM → Int32 → Int32 → Int32 → Int32 → Option (vR × vM)} {d v c b : Nat} (hi : i < 6) (hS : netS F T C m z) (hN : rNet S0 i m z F T C) (hv : v ≤ 11)
    (hself : ∀ (s : Nat) (L : List Nat) (S : vM), s < m → F s = v → rWy S0 S i L → L.length + (wlk F T C m z d (T s) (c + C s) (b ||| 2 ^ s)).length ≤ 1458 → ∃ S', self S (nI i) (nI (T s)) (nI (c + C s)) (nI (b ||| 2 ^ s)) = rV S' ∧ rWy S0 S' i (L ++ wlk F T C m z d (T s) (c + C s) (b ||| 2 ^ s))) :
    ∀ (n f s : Nat) (L : List Nat) (S : vM), n < f → s + n = m → rWy S0 S i L → L.length + (catF (fun s => if F s = v then wlk F T C m z d (T s) (c + C s) (b ||| 2 ^ s) else []) n s).length ≤ 1458 →
      ∃ S', fX11_walk_24 self f S (nI i) (nI v) (nI c) (nI b) (nI s) = rV S' ∧ rWy S0 S' i (L ++ catF (fun s => if F s = v then wlk F T C m z d (T s) (c + C s) (b ||| 2 ^ s) else []) n s) := by
  obtain ⟨hz, hm, hst⟩ := hS
  have e20 : ∀ s, (20 : Int32) * nI i + nI s = nI (20 * i + s) := fun s => by rw [show (20 : Int32) = nI 20 from rfl, nI_mul, nI_add]
  intro n
  induction n with
  | zero =>
    intro f s L S hf hs hW hL
    cases f with
    | zero => exact absurd hf (Nat.not_lt_zero _)
    | succ f =>
      refine ⟨S, ?_, by show rWy S0 S i (L ++ []); rw [List.append_nil]; exact hW⟩
      unfold fX11_walk_24
      rw [if_pos (v_in_nI (by omega) (by decide)), nI_clamp (by omega), hW.2.2.2.1 136 (by decide) (by decide) (by decide), hN.2.1, if_pos (nI_le (by omega) (by omega))]
  | succ n ih =>
    intro f s L S hf hs hW hL
    cases f with
    | zero => exact absurd hf (Nat.not_lt_zero _)
    | succ f =>
      have k4 := hW.2.2.2.1
      obtain ⟨t1, t2, t3⟩ := hN.2.2 s (by omega)
      have hs2 := hst s (by omega)
      have hin : v_in (nI (20 * i + s)) 240 = true := v_in_nI (by omega) (by decide)
      unfold fX11_walk_24
      rw [if_pos (v_in_nI (by omega) (by decide)), nI_clamp (n := i) (by omega), k4 136 (by decide) (by decide) (by decide), hN.2.1, if_neg (nI_ge (by omega) (by omega)), e20, if_pos hin, nI_clamp (n := 20 * i + s) (by omega), k4 139 (by decide) (by decide) (by decide), t1]
      by_cases q : F s = v
      · have eg : catF (fun s => if F s = v then wlk F T C m z d (T s) (c + C s) (b ||| 2 ^ s) else []) (n + 1) s = wlk F T C m z d (T s) (c + C s) (b ||| 2 ^ s) ++ catF (fun s => if F s = v then wlk F T C m z d (T s) (c + C s) (b ||| 2 ^ s) else []) n (s + 1) := by
          show (if F s = v then wlk F T C m z d (T s) (c + C s) (b ||| 2 ^ s) else []) ++ _ = _
          rw [if_pos q]
        rw [eg, List.length_append] at hL
        obtain ⟨S1, s1, s2⟩ := hself s L S (by omega) q hW (by omega)
        obtain ⟨S', u1, u2⟩ := ih f (s + 1) (L ++ wlk F T C m z d (T s) (c + C s) (b ||| 2 ^ s)) S1 (by omega) (by omega) s2 (by rw [List.length_append]; omega)
        refine ⟨S', ?_, by rw [eg, ← List.append_assoc]; exact u2⟩
        rw [if_pos (congrArg nI q), if_pos hin, if_pos hin, k4 140 (by decide) (by decide) (by decide), t2, k4 141 (by decide) (by decide) (by decide), t3, sh1 s (by omega), fa_or, nI_add, s1, bv_V, nI_1]
        exact u1
      · have eg : catF (fun s => if F s = v then wlk F T C m z d (T s) (c + C s) (b ||| 2 ^ s) else []) (n + 1) s = catF (fun s => if F s = v then wlk F T C m z d (T s) (c + C s) (b ||| 2 ^ s) else []) n (s + 1) := by
          show (if F s = v then wlk F T C m z d (T s) (c + C s) (b ||| 2 ^ s) else []) ++ _ = _
          rw [if_neg q, List.nil_append]
        rw [eg] at hL ⊢
        obtain ⟨S', u1, u2⟩ := ih f (s + 1) L S (by omega) (by omega) hW hL
        refine ⟨S', ?_, u2⟩
        rw [if_neg (fun e => q ((nI_eq (by omega) (by omega)).mp e)), nI_1]
        exact u1
theorem r_walk (hi : i < 6) (hS : netS F T C m z) (hN : rNet S0 i m z F T C) : ∀ (d v c b : Nat) (L : List Nat) (S : vM), z < v + d → v ≤ z → c ≤ 999 * v → b < 1048576 → rWy S0 S i L → L.length + (wlk F T C m z d v c b).length ≤ 1458 →
    ∃ S', fX11_walk_r d S (nI i) (nI v) (nI c) (nI b) = rV S' ∧ rWy S0 S' i (L ++ wlk F T C m z d v c b) := by
  have hS' := hS
  obtain ⟨hz, hm, hst⟩ := hS'
  intro d
  induction d with
  | zero => intro v c b L S h1 h2; omega
  | succ d ih =>
    intro v c b L S h1 h2 h4 h5 hW hL
    unfold fX11_walk_r fX11_walk_b
    rw [if_pos (v_in_nI (by omega) (by decide)), nI_clamp (n := i) (by omega), hW.2.2.2.1 133 (by decide) (by decide) (by decide), hN.1, nI_pred]
    by_cases q : v = z
    · have eg : wlk F T C m z (d + 1) v c b = [c * 1048576 + b] := if_pos q
      rw [eg] at hL ⊢
      rw [List.length_singleton] at hL
      obtain ⟨S', u1, u2⟩ := r_add hi hW (by omega) (show c ≤ 1048575 by omega) h5
      refine ⟨S', ?_, u2⟩
      rw [if_pos (congrArg nI q), u1, bv_V]
    · have eg : wlk F T C m z (d + 1) v c b = catF (fun s => if F s = v then wlk F T C m z d (T s) (c + C s) (b ||| 2 ^ s) else []) m 0 := if_neg q
      rw [eg] at hL ⊢
      rw [if_neg (fun e => q ((nI_eq (by omega) (by omega)).mp e))]
      exact r_w24 (d := d) hi hS hN (by omega) (fun s L' S' a1 a2 a3 a4 => by
        have hs := hst s a1
        exact ih (T s) (c + C s) (b ||| 2 ^ s) L' S' (by omega) hs.2.1 (by omega) (or20 h5 (by omega)) a3 a4) m FU 0 L S (FU_lt (by omega)) (Nat.zero_add m) hW hL
/-! how many ways a net can have -/
def gW (m : Nat) : Nat := ([1, 1, 2, 3, 4, 6, 9, 12, 18, 27, 36, 54, 81, 108, 162, 243, 324, 486, 729, 972, 1458] : List Nat).getD m 1458
theorem gW_ok : ((List.range 21).all fun m => (List.range 21).all fun k => decide (m < k) || decide (k * gW (m - k) ≤ gW m ∧ gW (m - k) ≤ gW m ∧ 1 ≤ gW m ∧ gW m ≤ 1458)) = true := by decide +kernel
theorem gW_k {m k : Nat} (hm : m ≤ 20) (hk : k ≤ m) : k * gW (m - k) ≤ gW m ∧ gW (m - k) ≤ gW m ∧ 1 ≤ gW m ∧ gW m ≤ 1458 := by
  have h := List.all_eq_true.mp (List.all_eq_true.mp gW_ok m (List.mem_range.mpr (by omega))) k (List.mem_range.mpr (by omega))
  rw [Bool.or_eq_true, decide_eq_true_eq, decide_eq_true_eq] at h
  exact h.resolve_left (by omega)
theorem cnt_sp (F : Nat → Nat) (v : Nat) : ∀ n s, cntF (fun s => v ≤ F s) n s = cntF (fun s => F s = v) n s + cntF (fun s => v + 1 ≤ F s) n s
  | 0, _ => rfl
  | n + 1, s => by
    have := cnt_sp F v n (s + 1)
    show (if v ≤ F s then 1 else 0) + _ = ((if F s = v then 1 else 0) + _) + ((if v + 1 ≤ F s then 1 else 0) + _)
    by_cases q1 : v ≤ F s
    · by_cases q2 : F s = v
      · rw [if_pos q1, if_pos q2, if_neg (by omega)]
        omega
      · rw [if_pos q1, if_neg q2, if_pos (by omega)]
        omega
    · rw [if_neg q1, if_neg (by omega), if_neg (by omega)]
      omega
theorem cnt_mo {p q : Nat → Prop} [DecidablePred p] [DecidablePred q] (h : ∀ s, p s → q s) : ∀ n s, cntF p n s ≤ cntF q n s
  | 0, _ => Nat.le_refl _
  | n + 1, s => by
    have := cnt_mo h n (s + 1)
    show (if p s then 1 else 0) + _ ≤ (if q s then 1 else 0) + _
    by_cases z : p s
    · rw [if_pos z, if_pos (h s z)]
      omega
    · rw [if_neg z]
      split <;> omega
theorem wlk_len (hm : m ≤ 20) (hst : ∀ s, s < m → F s < T s) : ∀ d v c b, (wlk F T C m z d v c b).length ≤ gW (cntF (fun s => v ≤ F s) m 0) := by
  intro d
  induction d with
  | zero => intro v c b; exact Nat.zero_le _
  | succ d ih =>
    intro v c b
    have hc := cnt_le (fun s => v ≤ F s) m 0
    by_cases q : v = z
    · rw [show wlk F T C m z (d + 1) v c b = [c * 1048576 + b] from if_pos q, List.length_singleton]
      exact (gW_k (k := 0) (by omega) (Nat.zero_le _)).2.2.1
    · rw [show wlk F T C m z (d + 1) v c b = catF (fun s => if F s = v then wlk F T C m z d (T s) (c + C s) (b ||| 2 ^ s) else []) m 0 from if_neg q]
      have h1 := cat_len (g := fun s => if F s = v then wlk F T C m z d (T s) (c + C s) (b ||| 2 ^ s) else []) (p := fun s => F s = v) (B := gW (cntF (fun s => v + 1 ≤ F s) m 0)) m 0 (fun t a1 a2 => by
        show (if F t = v then wlk F T C m z d (T t) (c + C t) (b ||| 2 ^ t) else []).length ≤ _
        by_cases q2 : F t = v
        · rw [if_pos q2, if_pos q2]
          have h2 := ih (T t) (c + C t) (b ||| 2 ^ t)
          have h3 := hst t (by omega)
          have h4 := cnt_mo (p := fun s => T t ≤ F s) (q := fun s => v + 1 ≤ F s) (fun s h => by omega) m 0
          have h5 := cnt_le (fun s => v + 1 ≤ F s) m 0
          have h6 := (gW_k (m := cntF (fun s => v + 1 ≤ F s) m 0) (k := cntF (fun s => v + 1 ≤ F s) m 0 - cntF (fun s => T t ≤ F s) m 0) (by omega) (by omega)).2.1
          rw [show cntF (fun s => v + 1 ≤ F s) m 0 - (cntF (fun s => v + 1 ≤ F s) m 0 - cntF (fun s => T t ≤ F s) m 0) = cntF (fun s => T t ≤ F s) m 0 by omega] at h6
          omega
        · rw [if_neg q2, if_neg q2]
          exact Nat.le_refl _)
      have h2 := cnt_sp F v m 0
      have h3 := (gW_k (m := cntF (fun s => v ≤ F s) m 0) (k := cntF (fun s => F s = v) m 0) (by omega) (by omega)).1
      rw [show cntF (fun s => v ≤ F s) m 0 - cntF (fun s => F s = v) m 0 = cntF (fun s => v + 1 ≤ F s) m 0 by omega] at h3
      omega
theorem wlk_1458 (hm : m ≤ 20) (hst : ∀ s, s < m → F s < T s) (d v c b : Nat) : (wlk F T C m z d v c b).length ≤ 1458 := by
  have h1 := wlk_len (C := C) (z := z) hm hst d v c b
  have hc := cnt_le (fun s => v ≤ F s) m 0
  have h2 := (gW_k (m := cntF (fun s => v ≤ F s) m 0) (k := 0) (by omega) (Nat.zero_le _)).2.2.2
  omega
/-! their marks: all different, and small -/
theorem tb_or (b s t : Nat) : (b ||| 2 ^ s).testBit t = (b.testBit t || decide (t = s)) := fb_bit_set b s t
theorem wlk_mem (hst : ∀ s, s < m → F s < T s) : ∀ d v c b x, b < 1048576 → m ≤ 20 → x ∈ wlk F T C m z d v c b → ∀ s, s < m → F s < v → (x % 1048576).testBit s = b.testBit s := by
  intro d
  induction d with
  | zero => intro v c b x _ _ hx; cases hx
  | succ d ih =>
    intro v c b x hb hm hx s hs hF
    by_cases q : v = z
    · rw [show wlk F T C m z (d + 1) v c b = [c * 1048576 + b] from if_pos q] at hx
      rw [List.mem_singleton.mp hx, show (c * 1048576 + b) % 1048576 = b by omega]
    · rw [show wlk F T C m z (d + 1) v c b = catF (fun s => if F s = v then wlk F T C m z d (T s) (c + C s) (b ||| 2 ^ s) else []) m 0 from if_neg q] at hx
      obtain ⟨t, t1, t2, t3⟩ := cat_mem m 0 x hx
      have t3' : x ∈ (if F t = v then wlk F T C m z d (T t) (c + C t) (b ||| 2 ^ t) else []) := t3
      by_cases q2 : F t = v
      · rw [if_pos q2] at t3'
        have h := hst t (by omega)
        rw [ih (T t) (c + C t) (b ||| 2 ^ t) x (or20 hb (by omega)) hm t3' s hs (by omega), tb_or, decide_eq_false (show ¬ s = t by intro e; rw [e] at hF; omega), Bool.or_false]
      · rw [if_neg q2] at t3'
        cases t3'
theorem wlk_pw (hst : ∀ s, s < m → F s < T s) (hm : m ≤ 20) : ∀ d v c b, b < 1048576 → (∀ s, s < m → v ≤ F s → b.testBit s = false) → (wlk F T C m z d v c b).Pairwise mkR := by
  intro d
  induction d with
  | zero => intro v c b _ _; exact List.Pairwise.nil
  | succ d ih =>
    intro v c b hb hB
    by_cases q : v = z
    · rw [show wlk F T C m z (d + 1) v c b = [c * 1048576 + b] from if_pos q]
      exact List.pairwise_singleton _ _
    · rw [show wlk F T C m z (d + 1) v c b = catF (fun s => if F s = v then wlk F T C m z d (T s) (c + C s) (b ||| 2 ^ s) else []) m 0 from if_neg q]
      refine cat_pw m 0 (fun t a1 a2 => ?_) (fun t t' a1 a2 a3 x hx y hy => ?_)
      · show (if F t = v then wlk F T C m z d (T t) (c + C t) (b ||| 2 ^ t) else []).Pairwise mkR
        by_cases q2 : F t = v
        · rw [if_pos q2]
          have h := hst t (by omega)
          refine ih (T t) (c + C t) (b ||| 2 ^ t) (or20 hb (by omega)) (fun s hs h2 => ?_)
          rw [tb_or, hB s hs (by omega), decide_eq_false (show ¬ s = t by intro e; rw [e] at h2; omega)]
          rfl
        · rw [if_neg q2]
          exact List.Pairwise.nil
      · have hx' : x ∈ (if F t = v then wlk F T C m z d (T t) (c + C t) (b ||| 2 ^ t) else []) := hx
        have hy' : y ∈ (if F t' = v then wlk F T C m z d (T t') (c + C t') (b ||| 2 ^ t') else []) := hy
        by_cases q2 : F t = v
        · by_cases q3 : F t' = v
          · rw [if_pos q2] at hx'
            rw [if_pos q3] at hy'
            have h1 := hst t (by omega)
            have h2 := hst t' (by omega)
            have b1 := wlk_mem hst d (T t) (c + C t) (b ||| 2 ^ t) x (or20 hb (by omega)) hm hx' t (by omega) (by omega)
            have b2 := wlk_mem hst d (T t') (c + C t') (b ||| 2 ^ t') y (or20 hb (by omega)) hm hy' t (by omega) (by omega)
            rw [tb_or, decide_eq_true rfl, Bool.or_true] at b1
            rw [tb_or, hB t (by omega) (by omega), decide_eq_false (show ¬ t = t' by omega)] at b2
            intro e
            rw [e, b2] at b1
            cases b1
          · rw [if_neg q3] at hy'
            cases hy'
        · rw [if_neg q2] at hx'
          cases hx'
theorem wlk_sm (hS : netS F T C m z) : ∀ d v c b x, v ≤ z → c ≤ 999 * v → b < 1048576 → x ∈ wlk F T C m z d v c b → x < 1099511627776 := by
  obtain ⟨hz, hm, hst⟩ := hS
  intro d
  induction d with
  | zero => intro v c b x _ _ _ hx; cases hx
  | succ d ih =>
    intro v c b x hv hc hb hx
    by_cases q : v = z
    · rw [show wlk F T C m z (d + 1) v c b = [c * 1048576 + b] from if_pos q] at hx
      rw [List.mem_singleton.mp hx]
      omega
    · rw [show wlk F T C m z (d + 1) v c b = catF (fun s => if F s = v then wlk F T C m z d (T s) (c + C s) (b ||| 2 ^ s) else []) m 0 from if_neg q] at hx
      obtain ⟨t, t1, t2, t3⟩ := cat_mem m 0 x hx
      have t3' : x ∈ (if F t = v then wlk F T C m z d (T t) (c + C t) (b ||| 2 ^ t) else []) := t3
      by_cases q2 : F t = v
      · rw [if_pos q2] at t3'
        have h := hst t (by omega)
        exact ih (T t) (c + C t) (b ||| 2 ^ t) x h.2.1 (by omega) (or20 hb (by omega)) t3'
      · rw [if_neg q2] at t3'
        cases t3'
end P45
