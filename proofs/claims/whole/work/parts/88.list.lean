section P48
variable {N S : vM} {i p kd z m nr fr : Nat} {F T C Kd A B : Nat → Nat}
/-! what is read of one work: its kind, number, items, rules -/
def plV (kd z m nr fr : Nat) (F T C Kd A B : Nat → Nat) : Prop :=
  kd ≤ 2 ∧ z ≤ 12 ∧ nr ≤ 12 ∧ fr < 1048576 ∧ (∀ s, s < m → C s ≤ 999) ∧ (kd = 0 → 2 ≤ z ∧ m ≤ 20 ∧ ∀ s, s < m → F s < T s ∧ T s < z) ∧ (kd = 1 → m ≤ 12) ∧ (kd = 2 → m ≤ 6) ∧ ∀ k, k < nr → A k < m ∧ B k < m ∧ Kd k ≤ 1
/-- as the class has it -/
def plC (N : vM) (p kd z m nr fr : Nat) (F T C Kd A B : Nat → Nat) : Prop :=
  N.1 p 0 = nI kd ∧ N.1 p 1 = nI z ∧ N.1 p 4 = nI m ∧ N.1 p 5 = nI nr ∧ N.1 p 6 = nI fr ∧ (∀ s, s < m → N.1 (p + 1) s = nI (C s)) ∧ (kd = 0 → ∀ s, s < m → N.1 (p + 2) s = nI (F s) ∧ N.1 (p + 3) s = nI (T s)) ∧
  ∀ s, s < 12 → (kd = 1 → N.1 (p + 4) s = nI (ndS Kd A B nr s) ∧ N.1 (p + 5) s = nI (brS Kd A B nr s)) ∧ (kd = 2 → N.1 (p + 4) s = nI (ndO A B nr s))
/-- as the reference has it in row r -/
def plR (S : vM) (r kd z m nr fr : Nat) (F T C Kd A B : Nat → Nat) : Prop :=
  S.1 132 r = nI kd ∧ S.1 133 r = nI z ∧ S.1 136 r = nI m ∧ S.1 137 r = nI fr ∧ S.1 138 r = nI nr ∧ (∀ s, s < m → S.1 141 (20 * r + s) = nI (C s)) ∧ (kd = 0 → ∀ s, s < m → S.1 139 (20 * r + s) = nI (F s) ∧ S.1 140 (20 * r + s) = nI (T s)) ∧
  ∀ k, k < nr → S.1 142 (12 * r + k) = nI (Kd k) ∧ S.1 143 (12 * r + k) = nI (A k) ∧ S.1 144 (12 * r + k) = nI (B k)
/-- all ways, as they come -/
def wayL (kd z m nr : Nat) (F T C Kd A B : Nat → Nat) : List Nat :=
  if kd = 0 then wlk F T C m (z - 1) 14 0 0 0 else if kd = 1 then catF (chG C Kd A B m z nr) (2 ^ m) 0 else lin A B C m nr 8 0 0 0 0
theorem way_ok (h : plV kd z m nr fr F T C Kd A B) : (wayL kd z m nr F T C Kd A B).length ≤ 1458 ∧ (wayL kd z m nr F T C Kd A B).Pairwise mkR ∧ (∀ x, x ∈ wayL kd z m nr F T C Kd A B → x < 1099511627776) ∧ (kd = 1 → ∀ x, x ∈ wayL kd z m nr F T C Kd A B → x % 1048576 < 2 ^ m) := by
  obtain ⟨h1, h2, h3, -, h4, h5, h6, h7, h8⟩ := h
  rcases (show kd = 0 ∨ kd = 1 ∨ kd = 2 by omega) with e | e | e
  · obtain ⟨a1, a2, a3⟩ := h5 e
    have ew : wayL kd z m nr F T C Kd A B = wlk F T C m (z - 1) 14 0 0 0 := if_pos e
    have hS : netS F T C m (z - 1) := ⟨by omega, a2, fun s hs => ⟨(a3 s hs).1, by have := (a3 s hs).2; omega, h4 s hs⟩⟩
    rw [ew]
    exact ⟨wlk_1458 a2 (fun s hs => (a3 s hs).1) 14 0 0 0, wlk_pw (fun s hs => (a3 s hs).1) a2 14 0 0 0 (by decide) (fun s _ _ => Nat.zero_testBit s), fun x hx => wlk_sm hS 14 0 0 0 x (Nat.zero_le _) (Nat.zero_le _) (by decide) hx, fun e1 => by omega⟩
  · have ew : wayL kd z m nr F T C Kd A B = catF (chG C Kd A B m z nr) (2 ^ m) 0 := by
      unfold wayL
      rw [if_neg (by omega), if_pos e]
    rw [ew]
    exact ⟨ch_len (h6 e) h2, ch_pw (h6 e), fun x hx => (ch_mem (h6 e) h4 hx).1, fun _ x hx => (ch_mem (h6 e) h4 hx).2⟩
  · have ew : wayL kd z m nr F T C Kd A B = lin A B C m nr 8 0 0 0 0 := by
      unfold wayL
      rw [if_neg (by omega), if_neg (by omega)]
    have hm := h7 e
    have h0 := ln_0 hm
    have hl := lin_len (A := A) (B := B) (C := C) (nr := nr) hm 8 0 0 0 0 (Nat.two_pow_pos m)
    rw [h0.2] at hl
    have hf := (fct_le hm).1
    rw [ew]
    exact ⟨by omega, lin_pw hm 8 0 0 0 0 (Nat.two_pow_pos m) (by decide) (Nat.zero_and _), fun x hx => lin_sm ⟨hm, h3, h4, fun k hk => ⟨(h8 k hk).1, (h8 k hk).2.1⟩⟩ 8 0 0 0 0 x (Nat.two_pow_pos m) (by decide) (Nat.zero_le _) (Nat.zero_le _) hx, fun e1 => by omega⟩
/-! the class's bits that count for nothing -/
theorem c_lo27 {k17 : vM → Nat → Int32 → Int32 → Option (vR × vM)} {j : Nat} (hj : j < 6) (s : Int32) : ∀ (n f a : Nat), n < f → a + n = j → fX3_looseBits_27 k17 f N p (fbJ (N.1 p 6) j a s) (nI j) (nI a) = k17 N p (fbJ (N.1 p 6) j j s) (nI (j + 1)) := by
  intro n
  induction n with
  | zero =>
    intro f a hf ha
    cases f with
    | zero => exact absurd hf (Nat.not_lt_zero _)
    | succ f =>
      unfold fX3_looseBits_27
      rw [if_pos (nI_le (by omega) (by omega)), nI_1, show a = j by omega]
  | succ n ih =>
    intro f a hf ha
    cases f with
    | zero => exact absurd hf (Nat.not_lt_zero _)
    | succ f =>
      have go := ih f (a + 1) (by omega) (by omega)
      have e : fbJ (N.1 p 6) j (a + 1) s = if (N.1 p 6) >>> (nI a &&& 31) &&& 1 = 0 ∧ (N.1 p 6) >>> (nI j &&& 31) &&& 1 = 0 then fbJ (N.1 p 6) j a s else fbJ (N.1 p 6) j a s ||| ((1 : Int32) <<< (nI (cplN a j) &&& 31)) := rfl
      have h54 : ∀ K : vM → Nat → Int32 → Int32 → Int32 → Option (vR × vM), fX3_looseBits_54 K N p (fbJ (N.1 p 6) j a s) (nI j) (nI a) = K N p (fbJ (N.1 p 6) j a s ||| ((1 : Int32) <<< (nI (cplN a j) &&& 31))) (nI j) (nI (a + 1)) := fun K => by
        unfold fX3_looseBits_54
        rw [c_cpl hj (by omega), bi_I, nI_1, sh1 _ (by have := cpl_lt hj (show a < j by omega); omega)]
      unfold fX3_looseBits_27
      rw [if_neg (nI_ge (by omega) (by omega))]
      by_cases q1 : (N.1 p 6) >>> (nI a &&& 31) &&& 1 = 0
      · by_cases q2 : (N.1 p 6) >>> (nI j &&& 31) &&& 1 = 0
        · rw [if_pos q1, if_pos q2, nI_1]
          rw [if_pos ⟨q1, q2⟩] at e
          rw [← e]
          exact go
        · rw [if_pos q1, if_neg q2, h54]
          rw [if_neg (fun y => q2 y.2)] at e
          rw [← e]
          exact go
      · rw [if_neg q1, h54]
        rw [if_neg (fun y => q1 y.1)] at e
        rw [← e]
        exact go
theorem c_lo17 (h4 : N.1 p 4 = nI m) (hm : m ≤ 6) : ∀ (n f j : Nat), n < f → j + n = m → fX3_looseBits_17 f N p (fbO (N.1 p 6) j) (nI j) = rI (fbO (N.1 p 6) m) N := by
  intro n
  induction n with
  | zero =>
    intro f j hf hj
    cases f with
    | zero => exact absurd hf (Nat.not_lt_zero _)
    | succ f =>
      unfold fX3_looseBits_17
      rw [h4, if_pos (nI_le (by omega) (by omega)), show j = m by omega]
  | succ n ih =>
    intro f j hf hj
    cases f with
    | zero => exact absurd hf (Nat.not_lt_zero _)
    | succ f =>
      have go := ih f (j + 1) (by omega) (by omega)
      unfold fX3_looseBits_17
      rw [h4, if_neg (nI_ge (by omega) (by omega))]
      have h := c_lo27 (N := N) (p := p) (k17 := fX3_looseBits_17 f) (show j < 6 by omega) (fbO (N.1 p 6) j) j FU 0 (FU_lt (by omega)) (Nat.zero_add j)
      rw [nI_0] at h
      exact h.trans go
theorem c_loose (h0 : N.1 p 0 = nI kd) (hk : kd ≤ 2) (h4 : N.1 p 4 = nI m) (h6 : N.1 p 6 = nI fr) (hm : kd = 2 → m ≤ 6) : fX3_looseBits N p = rI (fbits (nI kd) (nI fr) m) N := by
  unfold fX3_looseBits fbits
  rw [h0]
  by_cases q : kd = 2
  · have hm6 := hm q
    rw [q, if_pos (show nI 2 = 2 from rfl), if_pos (show nI 2 = 2 from rfl), ← h6]
    cases hm0 : m with
    | zero =>
      obtain ⟨f, hf⟩ : ∃ f, FU = f + 1 := ⟨99999, rfl⟩
      rw [hf]
      unfold fX3_looseBits_17
      rw [h4, hm0, if_pos (by decide)]
      rfl
    | succ m0 =>
      have h := c_lo17 (N := N) (p := p) h4 hm6 m0 FU 1 (FU_lt (by omega)) (by omega)
      rw [hm0] at h
      exact h
  · have hne : ¬ nI kd = 2 := fun e => q ((nI_eq (a := kd) (b := 2) (by omega) (by decide)).mp e)
    rw [if_neg hne, if_neg hne, h6]
/-- the class lists all ways of a work -/
theorem c_list (hi : i < 6) (hP : v_isP p) (h0 : N.2.2 (qw i) 0 - 1 = p) (hV : plV kd z m nr fr F T C Kd A B) (hC : plC N p kd z m nr fr F T C Kd A B) : ∃ N' K, fX9_listWays N (qw i) = rV N' ∧ N'.2.2 = N.2.2 ∧ (∀ c, c ≠ qw i → c ≠ qw i + 8 → N'.1 c = N.1 c) ∧ N'.1 (qw i) 0 = N.1 (qw i) 0 ∧ (∀ c, c ≠ qw i + 7 → N'.2.1 c = N.2.1 c) ∧
    N'.1 (qw i) 1 = nI (wayL kd z m nr F T C Kd A B).length ∧ N'.1 (qw i) 2 = nI (wayL kd z m nr F T C Kd A B).length ∧ N'.1 (qw i) 3 = fbits (nI kd) (nI fr) m ∧ cKy N' (qw i) (wayL kd z m nr F T C Kd A B).length K ∧ pmN (wayL kd z m nr F T C Kd A B).length K (gK (wayL kd z m nr F T C Kd A B)) ∧ stN (wayL kd z m nr F T C Kd A B).length K ∧ ∀ k, k < 1458 → N'.1 (qw i + 8) k = 0 := by
  have hw := way_ok hV
  obtain ⟨h1, h2, h3, -, h4, h5, h6, h7, h8⟩ := hV
  obtain ⟨c0, c1, c4, c5, c6, cc, cn, cs⟩ := hC
  have n0 := (plan_ne hP 0 (by decide) i hi).1
  have n1 := (plan_ne hP 1 (by decide) i hi).1
  have n2 := (plan_ne hP 2 (by decide) i hi).1
  have n3 := (plan_ne hP 3 (by decide) i hi).1
  have n4 := (plan_ne hP 4 (by decide) i hi).1
  have n5 := (plan_ne hP 5 (by decide) i hi).1
  have n08 := (plan_ne hP 0 (by decide) i hi).2.1
  generalize hL : wayL kd z m nr F T C Kd A B = L at hw ⊢
  generalize hN0 : v_si N (qw i) 1 0 = N0
  have z0 : ∀ c, c ≠ qw i → N0.1 c = N.1 c := fun c hc => by rw [← hN0, si_c hc]
  have e0 : N0.2.2 (qw i) 0 - 1 = p := by rw [← hN0]; exact h0
  have W0 : cWy N0 N0 (qw i) [] := ⟨by rw [← hN0, si_s]; exact nI_0.symm, fun k hk => absurd hk (Nat.not_lt_zero _), fun _ _ => rfl, fun _ _ => rfl, rfl, fun _ _ => rfl⟩
  have lst : ∃ N1, fX9_listWays N (qw i) = fX9_listWays_52 N1 (qw i) ∧ cWy N0 N1 (qw i) L := by
    unfold fX9_listWays
    rw [hN0, e0, z0 p n0, c0]
    rcases (show kd = 0 ∨ kd = 1 ∨ kd = 2 by omega) with e | e | e
    · obtain ⟨a1, a2, a3⟩ := h5 e
      have ew : wlk F T C m (z - 1) 14 0 0 0 = L := by rw [← hL]; exact (if_pos e).symm
      obtain ⟨N1, u1, u2⟩ := c_walk (z := z - 1) hi hP e0 ⟨by omega, a2, fun s hs => ⟨(a3 s hs).1, by have := (a3 s hs).2; omega, h4 s hs⟩⟩ (show cNet N0 p m (z - 1) F T C from ⟨by rw [z0 p n0, c1, show z - 1 + 1 = z by omega], by rw [z0 p n0, c4], fun s hs => by
        rw [z0 _ n2, z0 _ n3, z0 _ n1]
        exact ⟨(cn e s hs).1, (cn e s hs).2, cc s hs⟩⟩) 14 0 0 0 0 [] N0 (by omega) (Nat.zero_le _) (Nat.le_refl _) (Nat.zero_le _) (by decide) W0 (by rw [ew, List.length_nil]; omega)
      rw [ew, List.nil_append] at u2
      refine ⟨N1, ?_, u2⟩
      rw [e, if_pos (show nI 0 = 0 from nI_0), show fX9_walk N0 (qw i) 0 0 0 0 = rV N1 from u1, bv_V]
    · have ew : catF (chG C Kd A B m z nr) (2 ^ m) 0 = L := by
        rw [← hL]
        unfold wayL
        rw [if_neg (by omega), if_pos e]
      have h2m : 2 ^ m ≤ 4096 := Nat.pow_le_pow_right (n := 2) (by decide) (h6 e)
      obtain ⟨N1, u1, u2⟩ := c_choose (z := z) (Kd := Kd) hi hP e0 ⟨h6 e, h3, h4, fun k hk => ⟨(h8 k hk).1, (h8 k hk).2.1⟩⟩ h2 (show cSet N0 p m z nr C Kd A B from ⟨by rw [z0 p n0, c1], by rw [z0 p n0, c4], fun s hs => by rw [z0 _ n1]; exact cc s hs, fun s hs => by rw [z0 _ n4, z0 _ n5]; exact (cs s (by have := h6 e; omega)).1 e⟩) (2 ^ m) FU 0 [] N0 (FU_lt (by omega)) (Nat.zero_add _) W0 (by rw [ew, List.length_nil]; omega)
      rw [ew, List.nil_append] at u2
      refine ⟨N1, ?_, u2⟩
      rw [e, if_neg (show ¬ nI 1 = 0 by decide), if_pos (show nI 1 = 1 from rfl), show fX9_choose N0 (qw i) = rV N1 from u1, bv_V]
    · have ew : lin A B C m nr 8 0 0 0 0 = L := by
        rw [← hL]
        unfold wayL
        rw [if_neg (by omega), if_neg (by omega)]
      have hm := h7 e
      have hz := ln_0 hm
      obtain ⟨N1, u1, u2⟩ := c_line hi hP e0 ⟨hm, h3, h4, fun k hk => ⟨(h8 k hk).1, (h8 k hk).2.1⟩⟩ (show cOrd N0 p m nr C A B from ⟨by rw [z0 p n0, c4], fun s hs => by rw [z0 _ n1]; exact cc s hs, fun s hs => by rw [z0 _ n4]; exact (cs s (by omega)).2 e⟩) 8 0 0 0 0 0 [] N0 (by omega) (Nat.two_pow_pos m) (by rw [hz.2]; rfl) (by rw [hz.1]; rfl) (by decide) (Nat.zero_le _) W0 (by rw [ew, List.length_nil]; omega)
      rw [ew, List.nil_append] at u2
      refine ⟨N1, ?_, u2⟩
      rw [e, if_neg (show ¬ nI 2 = 0 by decide), if_neg (show ¬ nI 2 = 1 by decide), show fX9_line N0 (qw i) 0 0 0 0 = rV N1 from u1, bv_V]
  obtain ⟨N1, u1, w1, w2, w3, w4, w5, w6⟩ := lst
  obtain ⟨N2, K, s1, s2, s3, s4, s5⟩ := c_sort hw.1 w1 w2
  have hLay : (v_LAY (qw i + 8)).2.2 = 1458 := by rw [(v_LW (v_isW_qw hi)).2.2.2.1]
  have p2 : N2.1 p = N.1 p := by rw [s3.1, w3 p n0, z0 p n0]
  obtain ⟨N3, x1, x2, x3, x4⟩ := c_un10 (w := qw i) hLay 1458 FU 0 (v_si (v_si N2 (qw i) 3 (fbits (nI kd) (nI fr) m)) (qw i) 2 ((v_si N2 (qw i) 3 (fbits (nI kd) (nI fr) m)).1 (qw i) 1)) (FU_lt (by decide)) rfl (fun j hj => absurd hj (Nat.not_lt_zero _))
  have e1 : N2.2.2 (qw i) 0 - 1 = p := by rw [s3.2.1, w5]; exact e0
  have q1 : (v_si N2 (qw i) 3 (fbits (nI kd) (nI fr) m)).1 (qw i) 1 = nI L.length := by rw [si_n (by decide), s3.1]; exact w1
  refine ⟨N3, K, ?_, ?_, fun c hc1 hc2 => ?_, ?_, fun c hc => ?_, ?_, ?_, ?_, fun k hk => ?_, s4, s5, x4⟩
  · rw [u1]
    unfold fX9_listWays_52
    rw [s1, bv_V, e1, c_loose (N := N2) (p := p) (kd := kd) (m := m) (fr := fr) (by rw [p2]; exact c0) h1 (by rw [p2]; exact c4) (by rw [p2]; exact c6) h7, bi_I]
    unfold fX9_unspendAll
    rw [show fX9_unspendAll_10 FU (v_si (v_si N2 (qw i) 3 (fbits (nI kd) (nI fr) m)) (qw i) 2 ((v_si N2 (qw i) 3 (fbits (nI kd) (nI fr) m)).1 (qw i) 1)) (qw i) 0 = rV N3 from x1, bv_V]
  · rw [x2]
    show N2.2.2 = _
    rw [s3.2.1, w5, ← hN0]
    rfl
  · rw [x3 c hc2, si_c hc1, si_c hc1, s3.1, w3 c hc1, z0 c hc1]
  · rw [x3 (qw i) (by omega), si_n (by decide), si_n (by decide), s3.1, w4 0 (by decide), ← hN0, si_n (by decide)]
  · rw [x2]
    show N2.2.1 c = _
    rw [s3.2.2.1 c hc, w6 c hc, ← hN0]
    rfl
  · rw [x3 (qw i) (by omega), si_n (by decide), q1]
  · rw [x3 (qw i) (by omega), si_s, q1]
  · rw [x3 (qw i) (by omega), si_n (by decide), si_s]
  · rw [x2]
    exact s2 k hk
end P48
