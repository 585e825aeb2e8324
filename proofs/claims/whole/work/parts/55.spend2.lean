section P15
variable {M N : vM} {i : Nat}
theorem plan_ne {p : Nat} (h : v_isP p) : ∀ t, t < 6 → ∀ a, a < 6 → p + t ≠ qw a ∧ p + t ≠ qw a + 8 ∧ p + t ≠ qw a + 7 := by
  obtain ⟨q, hq, rfl⟩ := h
  have := (show ((List.range 12).all fun q => (List.range 6).all fun t => (List.range 6).all fun a => decide (v_plan q + t ≠ 46 + 15 * a ∧ v_plan q + t ≠ 46 + 15 * a + 8 ∧ v_plan q + t ≠ 46 + 15 * a + 7)) = true by decide +kernel)
  intro t ht a ha
  exact of_decide_eq_true (List.all_eq_true.mp (List.all_eq_true.mp (List.all_eq_true.mp this q (List.mem_range.mpr hq)) t (List.mem_range.mpr ht)) a (List.mem_range.mpr ha))
/-- what is spent has changed, on both sides alike -/
theorem Rel_sp (h : Rel M) {Q : vM} (h2 : Q.2.2 = M.2.2) (hl : ∀ c, 40 ≤ c → c < 130 → Q.2.1 c = M.2.1 c)
    (hc : ∀ c, (c < 3 ∨ 6 ≤ c ∧ c < 24 ∨ 40 ≤ c ∧ c < 130 ∨ 132 ≤ c ∧ c < 158 ∨ 166 ≤ c ∧ c < 174) → (∀ a, a < 6 → c ≠ qw a ∧ c ≠ qw a + 8) → c ≠ 148 → Q.1 c = M.1 c) (hm : ∀ j, j = 2 ∨ j = 21 ∨ j = 31 ∨ j = 40 ∨ j = 51 ∨ j = 52 → Q.1 130 j = M.1 130 j)
    (hw : ∀ a, a < qW M → ∀ j, j ≠ 2 → Q.1 (qw a) j = M.1 (qw a) j) (hs : ∀ a, a < qW M → ∀ k, k < qC M a → Q.1 (qw a + 8) k = Q.1 148 (2000 * a + k) ∧ (Q.1 148 (2000 * a + k) = 0 ∨ Q.1 148 (2000 * a + k) = 1)) (hu : ∀ a, a < qW M → Q.1 (qw a) 2 = nI (fb_ct (fun k => Q.1 148 (2000 * a + k) = 0) (qC M a))) : Rel Q := by
  have eW : qW Q = qW M := by simp only [qW, hm 2 (by simp)]
  have hW : qW M ≤ 6 := h.wks.2.2
  have sm : ∀ c, c < 46 ∨ 130 ≤ c → ∀ a, a < 6 → c ≠ qw a ∧ c ≠ qw a + 8 := fun c h1 a ha => by
    show c ≠ 46 + 15 * a ∧ c ≠ 46 + 15 * a + 8
    omega
  have cc : ∀ c, (c < 3 ∨ 6 ≤ c ∧ c < 24 ∨ 132 ≤ c ∧ c < 158 ∨ 166 ≤ c ∧ c < 174) → c ≠ 148 → Q.1 c = M.1 c := fun c h1 h3 => hc c (by omega) (sm c (by omega)) h3
  refine ⟨rPl_congr h.pl h2, rTape_congr h.tape (hm 31 (by simp)) (by rw [cc 1 (by omega) (by decide)]) (cc 157 (by omega) (by decide)) (cc 2 (by omega) (by decide)), ?_, ?_, fun i hi => ?_, ?_, ?_, ?_, fun h1 => ?_⟩
  · rw [cc 0 (by omega) (by decide), hm 40 (by simp)]
    exact h.flt
  · rw [cc 0 (by omega) (by decide), hm 2 (by simp)]
    exact h.wks
  · rw [eW] at hi
    have hP := (qp_P h.pl.1 (show i < 6 by omega)).1
    have hb := v_isP_b hP
    have e0 : qp Q i = qp M i := by simp only [qp, h2]
    have pc : ∀ t, t < 6 → Q.1 (qp M i + t) = M.1 (qp M i + t) := fun t ht => hc _ (by omega) (fun a ha => ⟨(plan_ne hP t ht a ha).1, (plan_ne hP t ht a ha).2.1⟩) (by omega)
    have p0 := pc 0 (by decide)
    rw [Nat.add_zero] at p0
    have eC : qC Q i = qC M i := by simp only [qC, cc 145 (by omega) (by decide)]
    have eI : qit Q i = qit M i := by simp only [qit, cc 136 (by omega) (by decide)]
    have eco : ∀ k, qco Q i k = qco M i k := fun k => by simp only [qco, cc 146 (by omega) (by decide)]
    have emk : ∀ k, qmk Q i k = qmk M i k := fun k => by simp only [qmk, cc 147 (by omega) (by decide)]
    obtain ⟨a1, a2, a3, a4, a5, a6, a7, a8, a9, a10, a11, -, -⟩ := h.wk hi
    have w1 := hw i hi 1 (by decide)
    have w3 := hw i hi 3 (by decide)
    have l7 := hl (qw i + 7) (by show 40 ≤ 46 + 15 * i + 7; omega) (by show 46 + 15 * i + 7 < 130; omega)
    unfold rWk
    rw [e0, p0, pc 1 (by decide), pc 2 (by decide), pc 3 (by decide), eC, eI, w1, w3, l7, cc 132 (by omega) (by decide), cc 133 (by omega) (by decide), cc 134 (by omega) (by decide), cc 135 (by omega) (by decide), cc 136 (by omega) (by decide), cc 137 (by omega) (by decide), cc 139 (by omega) (by decide), cc 140 (by omega) (by decide), cc 141 (by omega) (by decide), cc 145 (by omega) (by decide), cc 146 (by omega) (by decide), cc 147 (by omega) (by decide)]
    refine ⟨a1, a2, a3, a4, a5, a6, a7, a8, a9, a10, ?_, hs i hi, hu i hi⟩
    simp only [eco, emk]
    exact a11
  · rw [eW]
    exact rLed_congr h.led (fun j hj => cc _ (by omega) (by omega)) (fun j hj => cc _ (by omega) (by omega)) (hm 21 (by simp)) (cc 145 (by omega) (by decide))
  · rw [cc 0 (by omega) (by decide), hm 51 (by simp)]
    exact h.img.1
  · rw [hm 51 (by simp)]
    exact h.img.2.1
  · rw [hm 51 (by simp)] at h1
    rw [eW]
    exact rLed_congr (h.img.2.2 h1) (fun j hj => cc _ (by omega) (by omega)) (fun j hj => cc _ (by omega) (by omega)) (hm 52 (by simp)) (cc 145 (by omega) (by decide))
/-! a way's like ones, set -/
theorem k_has {w c : Nat} {co mk : Nat → Nat} (h : kOK N w c co mk) {k : Nat} (hk : k < c) : fX9_has N w (nI k) = rI 1 N := by
  have hc := h.2.1
  unfold fX9_has
  rw [if_neg (nI_pos (by omega)), h.1, if_neg (nI_ge hk (by omega)), if_neg (show ¬ (1458 : Int32) ≤ nI k from nI_ge (show k < 1458 by omega) (by decide))]
theorem k_markOf {w c : Nat} {co mk : Nat → Nat} (h : kOK N w c co mk) {k : Nat} (hk : k < c) : fX9_markOf N w (nI k) = rI (nI (mk k)) N := by
  have hc := h.2.1
  obtain ⟨k1, k2, k3⟩ := h.2.2 k hk
  unfold fX9_markOf
  rw [k_has h hk, bi_I, if_neg (by decide), if_pos (v_in_nI (by omega) (by decide)), nI_clamp (by omega), k1, lN_and20 (by omega)]
end P15
