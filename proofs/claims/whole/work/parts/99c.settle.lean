section P62
variable {A N N' S0 S S' : vM} {p r kd z m nr fr w a : Nat} {F T C Kd A' B : Nat → Nat}
theorem plC_c (h : plC N p kd z m nr fr F T C Kd A' B) (hN : ∀ c, p ≤ c → c ≤ p + 5 → N'.1 c = N.1 c) : plC N' p kd z m nr fr F T C Kd A' B := by
  obtain ⟨c0, c1, c4, c5, c6, cc, cn, cs⟩ := h
  have n0 := hN p (by omega) (by omega)
  have n1 := hN (p + 1) (by omega) (by omega)
  have n2 := hN (p + 2) (by omega) (by omega)
  have n3 := hN (p + 3) (by omega) (by omega)
  have n4 := hN (p + 4) (by omega) (by omega)
  have n5 := hN (p + 5) (by omega) (by omega)
  exact ⟨by rw [n0]; exact c0, by rw [n0]; exact c1, by rw [n0]; exact c4, by rw [n0]; exact c5, by rw [n0]; exact c6, fun s hs => by rw [n1]; exact cc s hs, fun hk s hs => by rw [n2, n3]; exact cn hk s hs, fun s hs => by rw [n4, n5]; exact cs s hs⟩
theorem plR_c (hV : plV kd z m nr fr F T C Kd A' B) (h : plR S r kd z m nr fr F T C Kd A' B) (hS : ∀ c j, rwQ r c j → S'.1 c j = S.1 c j) : plR S' r kd z m nr fr F T C Kd A' B := by
  have hm := plV_m hV
  have hn := hV.2.2.1
  obtain ⟨r0, r1, r4, r6, r5, rc, rn, rs⟩ := h
  have s7 : ∀ c, 132 ≤ c → c < 139 → S'.1 c r = S.1 c r := fun c i1 i2 => hS c r (Or.inl ⟨⟨i1, i2⟩, rfl⟩)
  have s20 : ∀ c s, 139 ≤ c → c < 142 → s < m → S'.1 c (20 * r + s) = S.1 c (20 * r + s) := fun c s i1 i2 i3 => hS c _ (Or.inr (Or.inl ⟨⟨i1, i2⟩, by omega, by omega⟩))
  have s12 : ∀ c s, 142 ≤ c → c < 145 → s < nr → S'.1 c (12 * r + s) = S.1 c (12 * r + s) := fun c s i1 i2 i3 => hS c _ (Or.inr (Or.inr ⟨⟨i1, i2⟩, by omega, by omega⟩))
  exact ⟨by rw [s7 132 (by decide) (by decide)]; exact r0, by rw [s7 133 (by decide) (by decide)]; exact r1, by rw [s7 136 (by decide) (by decide)]; exact r4, by rw [s7 137 (by decide) (by decide)]; exact r6, by rw [s7 138 (by decide) (by decide)]; exact r5, fun s hs => by rw [s20 141 s (by decide) (by decide) hs]; exact rc s hs, fun hk s hs => by rw [s20 139 s (by decide) (by decide) hs, s20 140 s (by decide) (by decide) hs]; exact rn hk s hs, fun k hk => by rw [s12 142 k (by decide) (by decide) hk, s12 143 k (by decide) (by decide) hk, s12 144 k (by decide) (by decide) hk]; exact rs k hk⟩
/-! the class's new works -/
def cOut (A N : vM) (a p : Nat) : Prop := ∀ kd z m nr fr F T C Kd A' B, plV kd z m nr fr F T C Kd A' B → plC A p kd z m nr fr F T C Kd A' B → ∃ K, N.1 (qw a) 1 = nI (wayL kd z m nr F T C Kd A' B).length ∧ N.1 (qw a) 2 = nI (wayL kd z m nr F T C Kd A' B).length ∧ N.1 (qw a) 3 = fbits (nI kd) (nI fr) m ∧ cKy N (qw a) (wayL kd z m nr F T C Kd A' B).length K ∧ pmN (wayL kd z m nr F T C Kd A' B).length K (gK (wayL kd z m nr F T C Kd A' B)) ∧ stN (wayL kd z m nr F T C Kd A' B).length K ∧ ∀ k, k < 1458 → N.1 (qw a + 8) k = 0
theorem cOut_c (h : cOut A N a p) (h1 : N'.1 (qw a) = N.1 (qw a)) (h8 : N'.1 (qw a + 8) = N.1 (qw a + 8)) (h7 : N'.2.1 (qw a + 7) = N.2.1 (qw a + 7)) : cOut A N' a p := by
  intro kd z m nr fr F T C Kd A' B hV hC
  obtain ⟨K, k1, k2, k3, k4, k5, k6, k7⟩ := h kd z m nr fr F T C Kd A' B hV hC
  exact ⟨K, by rw [h1]; exact k1, by rw [h1]; exact k2, by rw [h1]; exact k3, fun k hk => by rw [h7]; exact k4 k hk, k5, k6, fun k hk => by rw [h8]; exact k7 k hk⟩
theorem rV_inj {M1 M2 : vM} (h : rV M1 = rV M2) : M1 = M2 := congrArg Prod.snd (Option.some.inj h)
theorem rI_inj {x y : Int32} {M1 M2 : vM} (h : rI x M1 = rI y M2) : x = y ∧ M1 = M2 := by
  have h1 := Option.some.inj h
  exact ⟨Value.int.inj (Option.some.inj (Sum.inr.inj (congrArg Prod.fst h1))), congrArg Prod.snd h1⟩
/-- a work's plan and a spare one change places -/
def swR (N : vM) (i : Nat) : vM := v_sr (v_sr N (qw i) 0 (N.2.2 4 i)) 4 i (N.2.2 (qw i) 0)
theorem swR_w (N : vM) (i a : Nat) : (swR N i).2.2 (qw a) 0 = if a = i then N.2.2 4 i else N.2.2 (qw a) 0 := by
  show (if qw a = 4 ∧ 0 = i then N.2.2 (qw i) 0 else if qw a = qw i ∧ 0 = 0 then N.2.2 4 i else N.2.2 (qw a) 0) = _
  rw [if_neg (by show ¬ (46 + 15 * a = 4 ∧ 0 = i); omega)]
  by_cases q : a = i
  · rw [if_pos q, if_pos ⟨by rw [q], rfl⟩]
  · rw [if_neg q, if_neg (by show ¬ (46 + 15 * a = 46 + 15 * i ∧ 0 = 0); omega)]
theorem swR_s (N : vM) (i a : Nat) : (swR N i).2.2 4 a = if a = i then N.2.2 (qw i) 0 else N.2.2 4 a := by
  show (if 4 = 4 ∧ a = i then N.2.2 (qw i) 0 else if 4 = qw i ∧ a = 0 then N.2.2 4 i else N.2.2 4 a) = _
  by_cases q : a = i
  · rw [if_pos q, if_pos ⟨rfl, q⟩]
  · rw [if_neg q, if_neg (fun y => q y.2), if_neg (by show ¬ (4 = 46 + 15 * i ∧ a = 0); omega)]
theorem rPl_sw {i : Nat} (h : rPl N) (hi : i < 6) : rPl (swR N i) := by
  have hq := qp_P h.1 hi
  have hs := sp_P h.1 hi
  refine ⟨?_, fun a c ha hc e => ?_⟩
  · have h1 := v_WT_plan h.1 (v_isW_qw hi) hs.1
    rw [← hs.2] at h1
    have h2 := v_WT_spare h1 hi hq.1
    rw [← hq.2] at h2
    exact h2
  · have ex : ∀ a, a < 12 → qpl (swR N i) a = if a = i then qpl N (6 + i) else if a = 6 + i then qpl N i else qpl N a := fun a ha => by
      rw [qpl_s, qpl_w N hi]
      by_cases q : a < 6
      · rw [qpl_w _ q, qpl_w N q, swR_w]
        by_cases q2 : a = i
        · rw [if_pos q2, if_pos q2]
        · rw [if_neg q2, if_neg q2, if_neg (by omega)]
      · have e6 : a = 6 + (a - 6) := by omega
        rw [e6, qpl_s, qpl_s, swR_s, if_neg (show ¬ 6 + (a - 6) = i by omega)]
        by_cases q2 : a - 6 = i
        · rw [if_pos q2, if_pos (by omega)]
        · rw [if_neg q2, if_neg (by omega)]
    rw [ex a ha, ex c hc] at e
    have hh := h.2
    by_cases a1 : a = i
    · rw [if_pos a1] at e
      by_cases c1 : c = i
      · omega
      · rw [if_neg c1] at e
        by_cases c2 : c = 6 + i
        · rw [if_pos c2] at e
          have := hh _ _ (by omega) (by omega) e
          omega
        · rw [if_neg c2] at e
          have := hh _ _ (by omega) hc e
          omega
    · rw [if_neg a1] at e
      by_cases a2 : a = 6 + i
      · rw [if_pos a2] at e
        by_cases c1 : c = i
        · rw [if_pos c1] at e
          have := hh _ _ (by omega) (by omega) e
          omega
        · rw [if_neg c1] at e
          by_cases c2 : c = 6 + i
          · omega
          · rw [if_neg c2] at e
            have := hh _ _ (by omega) hc e
            omega
      · rw [if_neg a2] at e
        by_cases c1 : c = i
        · rw [if_pos c1] at e
          have := hh _ _ ha (by omega) e
          omega
        · rw [if_neg c1] at e
          by_cases c2 : c = 6 + i
          · rw [if_pos c2] at e
            have := hh _ _ ha (by omega) e
            omega
          · rw [if_neg c2] at e
            exact hh _ _ ha hc e
def cInv (A : vM) (x : Nat) (N : vM) : Prop :=
  rPl N ∧ (∀ c, (∀ a, a < x → c ≠ qw a ∧ c ≠ qw a + 8) → N.1 c = A.1 c) ∧ (∀ c, (∀ a, a < x → c ≠ qw a + 7) → N.2.1 c = A.2.1 c) ∧ (∀ a, x ≤ a → a < 6 → N.2.2 4 a = A.2.2 4 a ∧ N.2.2 (qw a) 0 = A.2.2 (qw a) 0) ∧ (∀ a, a < x → N.2.2 (qw a) 0 = A.2.2 4 a) ∧ ∀ a, a < x → cOut A N a (sp A a)
theorem c_settle (hA : A.1 0 12 = nI w) (hw : w ≤ 6) (hrP : rPl A) (hpl : ∀ a, a < w → ∃ kd z m nr fr F T C Kd A' B, plV kd z m nr fr F T C Kd A' B ∧ plC A (sp A a) kd z m nr fr F T C Kd A' B) : ∀ (n f x : Nat) (N : vM), n < f → x + n = w → cInv A x N →
    ∃ N', fX10_settleTown_12 f N (nI x) = (bv (fX1_clearForTown N' 6) fun M10 => rV (v_si M10 0 14 0)) ∧ cInv A w N' := by
  intro n
  induction n with
  | zero =>
    intro f x N hf hx hI
    cases f with
    | zero => exact absurd hf (Nat.not_lt_zero _)
    | succ f =>
      refine ⟨N, ?_, by rw [← show x = w by omega]; exact hI⟩
      unfold fX10_settleTown_12
      rw [hI.2.1 0 (fun a ha => by show 0 ≠ 46 + 15 * a ∧ 0 ≠ 46 + 15 * a + 8; omega), hA, if_pos (nI_le (by omega) (by omega))]
  | succ n ih =>
    intro f x N hf hx hI
    cases f with
    | zero => exact absurd hf (Nat.not_lt_zero _)
    | succ f =>
      obtain ⟨i1, i2, i3, i4, i5, i6⟩ := hI
      have hx6 : x < 6 := by omega
      have vin : v_in (nI x) 6 = true := v_in_nI hx6 (by decide)
      have hsA := sp_P hrP.1 hx6
      have hsN := sp_P i1.1 hx6
      have hqN := qp_P i1.1 hx6
      have hqx : qw x = 46 + 15 * x := rfl
      have e4 := (i4 x (Nat.le_refl x) hx6).1
      have eR : v_sr (v_sr N (46 + 15 * x) 0 ((N.2.2 4 x - 1) + 1)) 4 x ((N.2.2 (46 + 15 * x) 0 - 1) + 1) = swR N x := by
        show v_sr (v_sr N (qw x) 0 ((N.2.2 4 x - 1) + 1)) 4 x ((N.2.2 (qw x) 0 - 1) + 1) = _
        rw [hsN.2, hqN.2, Nat.add_sub_cancel, Nat.add_sub_cancel, ← hsN.2, ← hqN.2]
        rfl
      have eP : (swR N x).2.2 (qw x) 0 - 1 = sp A x := by
        rw [swR_w, if_pos rfl, e4]
        rfl
      have pc : ∀ a', a' < 6 → ∀ c, sp A x ≤ c → c ≤ sp A x + 5 → c ≠ qw a' ∧ c ≠ qw a' + 8 := fun a' ha' c j1 j2 => by
        have m0 := plan_ne hsA.1 0 (by decide) a' ha'
        have m1 := plan_ne hsA.1 1 (by decide) a' ha'
        have m2 := plan_ne hsA.1 2 (by decide) a' ha'
        have m3 := plan_ne hsA.1 3 (by decide) a' ha'
        have m4 := plan_ne hsA.1 4 (by decide) a' ha'
        have m5 := plan_ne hsA.1 5 (by decide) a' ha'
        omega
      have pA : ∀ c, sp A x ≤ c → c ≤ sp A x + 5 → (swR N x).1 c = A.1 c := fun c j1 j2 => i2 c (fun a' ha' => pc a' (by omega) c j1 j2)
      obtain ⟨kd, z, m, nr, fr, F, T, C, Kd, A', B, hV, hC⟩ := hpl x (by omega)
      obtain ⟨N1, K, a1, a2, a3, a4, a5, -⟩ := c_list hx6 hsA.1 eP hV (plC_c hC pA)
      have hI1 : cInv A (x + 1) N1 := by
        refine ⟨rPl_congr (rPl_sw i1 hx6) a2, fun c hc => ?_, fun c hc => ?_, fun a' j1 j2 => ?_, fun a' ha' => ?_, fun a' ha' => ?_⟩
        · rw [a3 c (hc x (by omega)).1 (hc x (by omega)).2]
          exact i2 c (fun a' ha' => hc a' (by omega))
        · rw [a5 c (hc x (by omega))]
          exact i3 c (fun a' ha' => hc a' (by omega))
        · rw [a2, swR_s, swR_w, if_neg (by omega), if_neg (by omega)]
          exact i4 a' (by omega) j2
        · rw [a2, swR_w]
          by_cases q : a' = x
          · rw [if_pos q, q, e4]
          · rw [if_neg q]
            exact i5 a' (by omega)
        · by_cases q : a' = x
          · rw [q]
            intro kd z m nr fr F T C Kd A' B hV' hC'
            obtain ⟨N2, K2, b1, b2, b3, b4, b5, b6, b7, b8, b9, b10, b11, b12⟩ := c_list hx6 hsA.1 eP hV' (plC_c hC' pA)
            have e := rV_inj (a1.symm.trans b1)
            rw [e]
            exact ⟨K2, b6, b7, b8, b9, b10, b11, b12⟩
          · have hq' : qw a' = 46 + 15 * a' := rfl
            exact cOut_c (i6 a' (by omega)) (a3 _ (by omega) (by omega)) (a3 _ (by omega) (by omega)) (a5 _ (by omega))
      obtain ⟨N', y1, y2⟩ := ih f (x + 1) N1 (by omega) (by omega) hI1
      refine ⟨N', ?_, y2⟩
      rw [fX10_settleTown_12, i2 0 (fun a' ha' => by show 0 ≠ 46 + 15 * a' ∧ 0 ≠ 46 + 15 * a' + 8; omega), hA, if_neg (nI_ge (by omega) (by omega)), if_pos vin, if_pos vin, if_pos vin, if_pos vin, if_pos vin, nI_clamp (by omega), eR, show fX9_listWays (swR N x) (46 + 15 * x) = rV N1 from a1, bv_V, nI_1]
      exact y1
/-! the reference's new works -/
def rOut (S0 S : vM) (a r : Nat) : Prop := (∀ c, 132 ≤ c → c < 139 → S.1 c a = S0.1 c r) ∧ (∀ c, 139 ≤ c → c < 142 → ∀ t, t < 20 → S.1 c (20 * a + t) = S0.1 c (20 * r + t)) ∧ S.1 151 a = 0 ∧ S.1 153 a = 0 ∧
  ∀ kd z m nr fr F T C Kd A' B, plV kd z m nr fr F T C Kd A' B → plR S0 r kd z m nr fr F T C Kd A' B → ∃ K, S.1 145 a = nI (wayL kd z m nr F T C Kd A' B).length ∧ rKy S a (wayL kd z m nr F T C Kd A' B).length K ∧ pmN (wayL kd z m nr F T C Kd A' B).length K (gK (wayL kd z m nr F T C Kd A' B)) ∧ stN (wayL kd z m nr F T C Kd A' B).length K ∧ ∀ k, k < (wayL kd z m nr F T C Kd A' B).length → S.1 148 (2000 * a + k) = 0
theorem rOut_c (h : rOut S0 S a r) (hS : ∀ c j, rwB a c j → S'.1 c j = S.1 c j) : rOut S0 S' a r := by
  obtain ⟨h1, h2, h3, h4, h5⟩ := h
  refine ⟨fun c i1 i2 => ?_, fun c i1 i2 t ht => ?_, ?_, ?_, fun kd z m nr fr F T C Kd A' B hV hR => ?_⟩
  · rw [hS c a (Or.inl ⟨by omega, rfl⟩)]
    exact h1 c i1 i2
  · rw [hS c _ (Or.inr (Or.inl ⟨by omega, by omega, by omega⟩))]
    exact h2 c i1 i2 t ht
  · rw [hS 151 a (Or.inl ⟨by omega, rfl⟩)]
    exact h3
  · rw [hS 153 a (Or.inl ⟨by omega, rfl⟩)]
    exact h4
  · obtain ⟨K, k1, k2, k3, k4, k5⟩ := h5 kd z m nr fr F T C Kd A' B hV hR
    have hl := (way_ok hV).1
    have hk : ∀ c k, 146 ≤ c → c < 149 → k < (wayL kd z m nr F T C Kd A' B).length → S'.1 c (2000 * a + k) = S.1 c (2000 * a + k) := fun c k i1 i2 i3 => hS c _ (Or.inr (Or.inr (Or.inr ⟨by omega, by omega, by omega⟩)))
    refine ⟨K, ?_, fun k hk1 => ?_, k3, k4, fun k hk1 => ?_⟩
    · rw [hS 145 a (Or.inl ⟨by omega, rfl⟩)]
      exact k1
    · rw [hk 146 k (by decide) (by decide) hk1, hk 147 k (by decide) (by decide) hk1]
      exact k2 k hk1
    · rw [hk 148 k (by decide) (by decide) hk1]
      exact k5 k hk1
def rInv (S0 : vM) (x : Nat) (S : vM) : Prop := S.2 = S0.2 ∧ (∀ c j, (∀ a, a < x → ¬ rwB a c j) → S.1 c j = S0.1 c j) ∧ ∀ a, a < x → rOut S0 S a (6 + a)
theorem r_takes (h2 : S0.1 130 2 = nI w) (h21 : S0.1 130 21 = 0) (hw : w ≤ 6) (hpl : ∀ a, a < w → ∃ kd z m nr fr F T C Kd A' B, plV kd z m nr fr F T C Kd A' B ∧ plR S0 (6 + a) kd z m nr fr F T C Kd A' B) : ∀ (n f x : Nat) (S : vM), n < f → x + n = w → rInv S0 x S →
    ∃ S', fX11_town_123 f S (nI x) = fX11_town_144 FU S' 0 ∧ rInv S0 w S' := by
  have n130 : ∀ a j, ¬ rwB a 130 j := fun a j h => by
    unfold rwB at h
    omega
  intro n
  induction n with
  | zero =>
    intro f x S hf hx hI
    cases f with
    | zero => exact absurd hf (Nat.not_lt_zero _)
    | succ f =>
      refine ⟨S, ?_, by rw [← show x = w by omega]; exact hI⟩
      unfold fX11_town_123
      rw [hI.2.1 130 2 (fun a _ => n130 a 2), h2, if_pos (nI_le (by omega) (by omega))]
  | succ n ih =>
    intro f x S hf hx hI
    cases f with
    | zero => exact absurd hf (Nat.not_lt_zero _)
    | succ f =>
      obtain ⟨i1, i2, i3⟩ := hI
      have hx6 : x < 6 := by omega
      have pR : ∀ c j, rwQ (6 + x) c j → S.1 c j = S0.1 c j := fun c j hq => i2 c j (fun a' ha' hb => by
        unfold rwQ at hq
        unfold rwB at hb
        omega)
      have hb21 : S.1 130 21 = 0 := by rw [i2 130 21 (fun a _ => n130 a 21)]; exact h21
      obtain ⟨kd, z, m, nr, fr, F, T, C, Kd, A', B, hV, hR⟩ := hpl x (by omega)
      obtain ⟨S1, K, a1, a2, a3, a4, a5, -, -, -, -, -, a6, a7⟩ := r_take hx6 (rfl : 6 + x = 6 + x) hV (plR_c hV hR pR) hb21
      have hI1 : rInv S0 (x + 1) S1 := by
        refine ⟨a2.trans i1, fun c j hc => ?_, fun a' ha' => ?_⟩
        · rw [a3 c j (hc x (by omega))]
          exact i2 c j (fun a' ha' => hc a' (by omega))
        · by_cases q : a' = x
          · rw [q]
            refine ⟨fun c j1 j2 => ?_, fun c j1 j2 t ht => ?_, a6, a7, fun kd z m nr fr F T C Kd A' B hV' hR' => ?_⟩
            · rw [a4 c j1 j2]
              exact pR c _ (Or.inl ⟨⟨j1, j2⟩, rfl⟩)
            · rw [a5 c j1 j2 t ht]
              exact pR c _ (Or.inr (Or.inl ⟨⟨j1, j2⟩, by omega, by omega⟩))
            · obtain ⟨S2, K2, b1, b2, b3, b4, b5, b6, b7, b8, b9, b10, -, -⟩ := r_take hx6 (rfl : 6 + x = 6 + x) hV' (plR_c hV' hR' pR) hb21
              have e := rV_inj (a1.symm.trans b1)
              rw [e]
              exact ⟨K2, b6, b7, b8, b9, b10⟩
          · refine rOut_c (i3 a' (by omega)) (fun c j hb => a3 c j (fun hb2 => ?_))
            unfold rwB at hb hb2
            omega
      obtain ⟨S', y1, y2⟩ := ih f (x + 1) S1 (by omega) (by omega) hI1
      refine ⟨S', ?_, y2⟩
      rw [fX11_town_123, i2 130 2 (fun a _ => n130 a 2), h2, if_neg (nI_ge (by omega) (by omega)), a1, bv_V, nI_1]
      exact y1
theorem r_144 : ∀ (n f k : Nat) (S : vM), n < f → k + n = 100 → (∀ y, y < k → S.1 155 y = 1) →
    ∃ S', fX11_town_144 f S (nI k) = rI 0 (v_si S' 130 51 0) ∧ S'.2 = S.2 ∧ (∀ c, c ≠ 155 → S'.1 c = S.1 c) ∧ ∀ y, y < 100 → S'.1 155 y = 1 := by
  intro n
  induction n with
  | zero =>
    intro f k S hf hk hy
    cases f with
    | zero => exact absurd hf (Nat.not_lt_zero _)
    | succ f =>
      refine ⟨S, ?_, rfl, fun _ _ => rfl, fun y h9 => hy y (by omega)⟩
      unfold fX11_town_144
      rw [if_pos (show (100 : Int32) ≤ nI k from nI_le (show 100 ≤ k by omega) (by omega))]
  | succ n ih =>
    intro f k S hf hk hy
    cases f with
    | zero => exact absurd hf (Nat.not_lt_zero _)
    | succ f =>
      obtain ⟨S', a1, a2, a3, a4⟩ := ih f (k + 1) (v_si S 155 k 1) (by omega) (by omega) (fun y h9 => by
        by_cases q : y = k
        · rw [q, si_s]
        · rw [si_n q]
          exact hy y (by omega))
      refine ⟨S', ?_, a2, fun c hc => by rw [a3 c hc, si_c hc], a4⟩
      rw [fX11_town_144, if_neg (show ¬ (100 : Int32) ≤ nI k from nI_ge (show k < 100 by omega) (by decide)), if_pos (v_in_nI (by omega) (by decide)), nI_clamp (by omega), nI_1]
      exact a1
end P62
