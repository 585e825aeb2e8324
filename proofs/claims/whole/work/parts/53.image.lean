section P13
variable {M M' : vM} {i : Nat}
theorem cp_s {c0 c1 k j : Nat} (h : j < k) : (v_cpM M c0 c1 k).1 c1 j = M.1 c0 j := if_pos ⟨rfl, h⟩
theorem cp_c {c0 c1 k c : Nat} (h : c ≠ c1) : (v_cpM M c0 c1 k).1 c = M.1 c := by
  funext j
  exact if_neg (fun z => h z.1)
/-- eight rows copied -/
def cp8 (M : vM) (s d : Nat) : vM := v_cpM (v_cpM (v_cpM (v_cpM (v_cpM (v_cpM (v_cpM (v_cpM M s d 400) (s + 1) (d + 1) 400) (s + 2) (d + 2) 6) (s + 3) (d + 3) 600) (s + 4) (d + 4) 6) (s + 5) (d + 5) 72) (s + 6) (d + 6) 100) (s + 7) (d + 7) 4
def lens (t : Nat) : Nat := [400, 400, 6, 600, 6, 72, 100, 4].getD t 0
theorem cp8_c {s d c : Nat} (h : c < d ∨ d + 8 ≤ c) : (cp8 M s d).1 c = M.1 c := by
  unfold cp8
  rw [cp_c (by omega), cp_c (by omega), cp_c (by omega), cp_c (by omega), cp_c (by omega), cp_c (by omega), cp_c (by omega), cp_c (by omega)]
theorem cp8_s0 {s d : Nat} (hd : d + 8 ≤ s ∨ s + 8 ≤ d) {j : Nat} (hj : j < 400) : (cp8 M s d).1 d j = M.1 s j := by
  unfold cp8
  rw [cp_c (by omega), cp_c (by omega), cp_c (by omega), cp_c (by omega), cp_c (by omega), cp_c (by omega), cp_c (by omega), cp_s hj]
theorem cp8_s {s d : Nat} (hd : d + 8 ≤ s ∨ s + 8 ≤ d) {t j : Nat} (ht : t < 8) (hj : j < lens t) : (cp8 M s d).1 (d + t) j = M.1 (s + t) j := by
  unfold cp8
  match t, ht, hj with
  | 0, _, hj => exact cp8_s0 hd hj
  | 1, _, hj => rw [cp_c (by omega), cp_c (by omega), cp_c (by omega), cp_c (by omega), cp_c (by omega), cp_c (by omega), cp_s (show j < 400 from hj), cp_c (by omega)]
  | 2, _, hj => rw [cp_c (by omega), cp_c (by omega), cp_c (by omega), cp_c (by omega), cp_c (by omega), cp_s (show j < 6 from hj), cp_c (by omega), cp_c (by omega)]
  | 3, _, hj => rw [cp_c (by omega), cp_c (by omega), cp_c (by omega), cp_c (by omega), cp_s (show j < 600 from hj), cp_c (by omega), cp_c (by omega), cp_c (by omega)]
  | 4, _, hj => rw [cp_c (by omega), cp_c (by omega), cp_c (by omega), cp_s (show j < 6 from hj), cp_c (by omega), cp_c (by omega), cp_c (by omega), cp_c (by omega)]
  | 5, _, hj => rw [cp_c (by omega), cp_c (by omega), cp_s (show j < 72 from hj), cp_c (by omega), cp_c (by omega), cp_c (by omega), cp_c (by omega), cp_c (by omega)]
  | 6, _, hj => rw [cp_c (by omega), cp_s (show j < 100 from hj), cp_c (by omega), cp_c (by omega), cp_c (by omega), cp_c (by omega), cp_c (by omega), cp_c (by omega)]
  | 7, _, hj => rw [cp_s (show j < 4 from hj), cp_c (by omega), cp_c (by omega), cp_c (by omega), cp_c (by omega), cp_c (by omega), cp_c (by omega), cp_c (by omega)]
  | n + 8, h, _ => exact absurd h (by omega)
theorem cp8_2 {s d : Nat} : (cp8 M s d).2 = M.2 := rfl
/-- a ledger elsewhere -/
theorem rLed_tr {g r n g' r' n' w : Nat} (hw : w ≤ 6) (h : rLed M g r n w) (a0 : M'.1 g' 0 = M.1 g 0) (b0 : M'.1 130 n' = M.1 130 n) (hc : ∀ t j, t < 8 → j < lens t → M'.1 (g' + 1 + t) j = M.1 (g + 1 + t) j ∧ M'.1 (r' + t) j = M.1 (r + t) j) (hC : M'.1 145 = M.1 145) : rLed M' g' r' n' w := by
  obtain ⟨h1, h2, h3, h4, h5, h6⟩ := h
  have hb : qN (M.1 130 n) ≤ 400 := h1.2.2
  refine ⟨by rw [a0, b0]; exact h1, fun i hi => ?_, fun i hi => ?_, fun i hi => ?_, fun y hy => ?_, fun k hk => ?_⟩
  · rw [b0] at hi
    have l : i < 400 := by omega
    have c1 : M'.1 (g' + 1) i = M.1 (g + 1) i ∧ M'.1 r' i = M.1 r i := hc 0 i (by decide) l
    have c2 := hc 1 i (by decide) l
    have e := h2 i hi
    rw [c1.1, c1.2, show g' + 2 = g' + 1 + 1 from rfl, c2.1, c2.2]
    simp only [qC, hC]
    exact e
  · have l : i < 6 := by omega
    have c1 := hc 2 i (by decide) l
    have e := h3 i hi
    rw [show g' + 3 = g' + 1 + 2 by omega, c1.1, c1.2]
    rw [show g + 3 = g + 1 + 2 by omega] at e
    refine ⟨e.1, e.2.1, fun j hj => ?_⟩
    have : j < 100 := Nat.lt_of_lt_of_le hj e.2.1.2
    have c2 := hc 3 (100 * i + j) (by decide) (show 100 * i + j < 600 by omega)
    rw [show g' + 4 = g' + 1 + 3 by omega, c2.1, c2.2]
    have := e.2.2 j hj
    rw [show g + 4 = g + 1 + 3 by omega] at this
    exact this
  · have l : i < 6 := by omega
    have c1 := hc 4 i (by decide) l
    have e := h4 i hi
    rw [show g' + 5 = g' + 1 + 4 by omega, c1.1, c1.2]
    rw [show g + 5 = g + 1 + 4 by omega] at e
    refine ⟨e.1, e.2.1, fun j hj => ?_⟩
    have : j < 12 := Nat.lt_of_lt_of_le hj e.2.1.2
    have c2 := hc 5 (12 * i + j) (by decide) (show 12 * i + j < 72 by omega)
    rw [show g' + 6 = g' + 1 + 5 by omega, c2.1, c2.2]
    have := e.2.2 j hj
    rw [show g + 6 = g + 1 + 5 by omega] at this
    exact this
  · have c1 := hc 6 y (by decide) hy
    have e := h5 y hy
    rw [show g' + 7 = g' + 1 + 6 by omega, c1.1, c1.2]
    rw [show g + 7 = g + 1 + 6 by omega] at e
    exact e
  · have c1 := hc 7 k (by decide) hk
    have e := h6 k hk
    rw [show g' + 8 = g' + 1 + 7 by omega, c1.1, c1.2]
    rw [show g + 8 = g + 1 + 7 by omega] at e
    exact e
theorem cpM_0 {c0 c1 : Nat} : v_cpM M c0 c1 0 = M := by
  refine Prod.ext ?_ rfl
  funext a b
  exact if_neg (by omega)
theorem cpM_s {c0 c1 k : Nat} (h : c0 ≠ c1) : v_si (v_cpM M c0 c1 k) c1 k ((v_cpM M c0 c1 k).1 c0 k) = v_cpM M c0 c1 (k + 1) := by
  refine Prod.ext ?_ rfl
  funext a b
  rw [cp_c h]
  show (if a = c1 ∧ b = k then M.1 c0 k else if a = c1 ∧ b < k then M.1 c0 b else M.1 a b) = if a = c1 ∧ b < k + 1 then M.1 c0 b else M.1 a b
  by_cases q : a = c1 ∧ b = k
  · rw [if_pos q, if_pos (by omega), q.2]
  · rw [if_neg q]
    by_cases q2 : a = c1 ∧ b < k
    · rw [if_pos q2, if_pos (by omega)]
    · rw [if_neg q2, if_neg (by omega)]
theorem l_be {x0 x1 len : Nat} (h0 : (v_LAY x0).2.2 = len) (h1 : (v_LAY x1).2.2 = len) (hl : len ≤ 99999) (hx : x1 ≠ x0) : ∀ (n f k : Nat), n < f → k + n = len → fX11_be_2 f (v_cpM M x1 x0 k) x0 x1 (nI k) = rV (v_cpM M x1 x0 len) := by
  intro n
  induction n with
  | zero =>
    intro f k hf hk
    cases f with
    | zero => exact absurd hf (Nat.not_lt_zero _)
    | succ f =>
      have : k = len := by omega
      subst this
      unfold fX11_be_2
      rw [h0, if_pos (nI_le (Nat.le_refl _) (by omega))]
  | succ n ih =>
    intro f k hf hk
    cases f with
    | zero => exact absurd hf (Nat.not_lt_zero _)
    | succ f =>
      unfold fX11_be_2
      rw [h0, h1, if_neg (nI_ge (by omega) (by omega)), if_pos (v_in_nI (by omega) (by omega)), if_pos (v_in_nI (by omega) (by omega)), nI_clamp (by omega), cpM_s hx, nI_1]
      exact ih f (k + 1) (by omega) (by omega)
theorem c_be {x0 x1 len : Nat} (h0 : (v_LAY x0).2.2 = len) (h1 : (v_LAY x1).2.2 = len) (hl : len ≤ 99999) (hx : x1 ≠ x0) : fX11_be M x0 x1 = rV (v_cpM M x1 x0 len) := by
  have h := l_be (M := M) h0 h1 hl hx len FU 0 (FU_lt hl) (Nat.zero_add _)
  rw [cpM_0] at h
  exact h
theorem c_copy {g s : Nat} : fX1_copy M g s = rV (cp8 (v_si M g 0 (M.1 s 0)) (s + 1) (g + 1)) := rfl
theorem r_image : fX11_image M = rV (cp8 (v_si (v_si (v_si M 130 1 0) 130 51 1) 130 52 (M.1 130 21)) 149 166) := by
  unfold fX11_image
  rw [c_be (len := 400) rfl rfl (by decide) (by decide), bv_V, c_be (len := 400) rfl rfl (by decide) (by decide), bv_V, c_be (len := 6) rfl rfl (by decide) (by decide), bv_V, c_be (len := 600) rfl rfl (by decide) (by decide), bv_V, c_be (len := 6) rfl rfl (by decide) (by decide), bv_V, c_be (len := 72) rfl rfl (by decide) (by decide), bv_V, c_be (len := 100) rfl rfl (by decide) (by decide), bv_V, c_be (len := 4) rfl rfl (by decide) (by decide), bv_V]
  rfl
theorem o25 (h : Rel M) : okS (fun K => gVo (fX10_image M) (fun M1 => fX11_image M1) K) := by
  have e1 : fX10_image M = rV (v_si (cp8 (v_si M 15 0 (M.1 6 0)) 7 16) 0 14 1) := by
    unfold fX10_image
    rw [c_copy, bv_V]
  generalize hN : v_si (cp8 (v_si M 15 0 (M.1 6 0)) 7 16) 0 14 1 = N at e1
  generalize hQ : cp8 (v_si (v_si (v_si N 130 1 0) 130 51 1) 130 52 (N.1 130 21)) 149 166 = Q
  refine ⟨Q, ?_, fun K => ?_⟩
  · have n1 : ∀ c, c ≠ 0 → c ≠ 15 → (c < 16 ∨ 24 ≤ c) → N.1 c = M.1 c := fun c h1 h2 h3 => by rw [← hN, si_c h1, cp8_c (by omega), si_c h2]
    have q1 : ∀ c, c ≠ 130 → (c < 166 ∨ 174 ≤ c) → Q.1 c = N.1 c := fun c h1 h2 => by rw [← hQ, cp8_c (by omega), si_c h1, si_c h1, si_c h1]
    have m1 : ∀ c, c ≠ 0 → c ≠ 15 → c ≠ 130 → (c < 16 ∨ 24 ≤ c) → (c < 166 ∨ 174 ≤ c) → Q.1 c = M.1 c := fun c h1 h2 h3 h4 h5 => (q1 c h3 h5).trans (n1 c h1 h2 h4)
    have z0 : ∀ j, j ≠ 14 → Q.1 0 j = M.1 0 j := fun j hj => by rw [q1 0 (by decide) (by decide), ← hN, si_n hj, cp8_c (by decide), si_c (by decide)]
    have z14 : Q.1 0 14 = 1 := by rw [q1 0 (by decide) (by decide), ← hN, si_s]
    have y : ∀ j, j ≠ 1 → j ≠ 51 → j ≠ 52 → Q.1 130 j = M.1 130 j := fun j h1 h2 h3 => by rw [← hQ, cp8_c (by decide), si_n h3, si_n h2, si_n h1, n1 130 (by decide) (by decide) (by decide)]
    have y51 : Q.1 130 51 = 1 := by rw [← hQ, cp8_c (by decide), si_n (by decide), si_s]
    have y52 : Q.1 130 52 = M.1 130 21 := by rw [← hQ, cp8_c (by decide), si_s, n1 130 (by decide) (by decide) (by decide)]
    have e22 : Q.2 = M.2 := by rw [← hQ, cp8_2]; show N.2 = _; rw [← hN]; rfl
    have hW : qW Q = qW M := by
      show qN (Q.1 130 2) = _
      rw [y 2 (by decide) (by decide) (by decide)]
      rfl
    have x15 : Q.1 15 0 = M.1 6 0 := by
      rw [q1 15 (by decide) (by decide), ← hN, si_c (by decide), cp8_c (by decide), si_s]
    have hW6 : qW M ≤ 6 := h.wks.2.2
    refine ⟨rPl_congr h.pl (by rw [e22]), rTape_congr h.tape (y 31 (by decide) (by decide) (by decide)) (by rw [m1 1 (by decide) (by decide) (by decide) (by decide) (by decide)]) (m1 157 (by decide) (by decide) (by decide) (by decide) (by decide)) (m1 2 (by decide) (by decide) (by decide) (by decide) (by decide)), by rw [z0 13 (by decide), y 40 (by decide) (by decide) (by decide)]; exact h.flt, by rw [z0 12 (by decide), y 2 (by decide) (by decide) (by decide)]; exact h.wks, fun i hi => ?_, ?_, by rw [z14, y51], Or.inr y51, fun _ => ?_⟩
    · rw [hW] at hi
      exact rWk_congr (h.wk hi) (qp_P h.pl.1 (by omega)).1 (by omega) (by rw [e22]) (fun c h1 h2 => m1 c (by omega) (by omega) (by omega) (by omega) (by omega)) (fun c h1 h2 => m1 c (by omega) (by omega) (by omega) (by omega) (by omega)) (fun c _ _ => by rw [e22])
    · rw [hW]
      exact rLed_congr h.led (fun j hj => m1 _ (by omega) (by omega) (by omega) (by omega) (by omega)) (fun j hj => m1 _ (by omega) (by omega) (by omega) (by omega) (by omega)) (y 21 (by decide) (by decide) (by decide)) (m1 145 (by decide) (by decide) (by decide) (by decide) (by decide))
    · rw [hW]
      refine rLed_tr hW6 h.led x15 y52 (fun t j ht hj => ⟨?_, ?_⟩) (m1 145 (by decide) (by decide) (by decide) (by decide) (by decide))
      · rw [q1 _ (by omega) (by omega), ← hN, si_c (by omega), cp8_s (by decide) ht hj, si_c (by omega)]
      · rw [← hQ, cp8_s (by decide) ht hj, si_c (by omega), si_c (by omega), si_c (by omega), n1 _ (by omega) (by omega) (by omega)]
  · show bv (fX10_image M) (fun M1 => bv (fX11_image M1) K) = K Q
    rw [e1, bv_V, r_image, bv_V, hQ]
end P13
