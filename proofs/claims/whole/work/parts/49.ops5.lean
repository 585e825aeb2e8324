section P9
variable {M M' : vM} {i : Nat}
/-! tell -/
theorem e_isWk1 {N : vM} {w : Nat} (hw : N.1 130 2 = nI w) (hw2 : w ≤ 6) (hi : i < w) : fX11_isWork N (nI i) = rI 1 N := by
  rw [e_isWork hw hw2 (by omega), if_pos hi]
theorem ix_m (a b c : Nat) : nI a * nI b + nI c = nI (a * b + c) := by rw [nI_mul, nI_add]
theorem Rel_tell (h : Rel M) (hi : i < qW M) {t : Nat} (ht : M.1 151 i = nI t) (ht2 : t < 100) {m : Int32} : Rel (v_si (v_si (v_si (v_si M 10 (100 * i + t) m) 9 i (nI (t + 1))) 152 (100 * i + t) m) 151 i (nI (t + 1))) := by
  generalize hM : v_si (v_si (v_si (v_si M 10 (100 * i + t) m) 9 i (nI (t + 1))) 152 (100 * i + t) m) 151 i (nI (t + 1)) = N
  have e : ∀ c, c ≠ 9 → c ≠ 10 → c ≠ 151 → c ≠ 152 → N.1 c = M.1 c := fun c h1 h2 h3 h4 => by rw [← hM, si_c h3, si_c h4, si_c h1, si_c h2]
  have hW : qW M ≤ 6 := h.wks.2.2
  have e9 : ∀ a, N.1 9 a = if a = i then nI (t + 1) else M.1 9 a := by
    intro a
    rw [← hM, si_c (by decide), si_c (by decide)]
    by_cases q : a = i
    · rw [if_pos q, q, si_s]
    · rw [if_neg q, si_n q, si_c (by decide)]
  have e151 : ∀ a, N.1 151 a = if a = i then nI (t + 1) else M.1 151 a := by
    intro a
    rw [← hM]
    by_cases q : a = i
    · rw [if_pos q, q, si_s]
    · rw [if_neg q, si_n q, si_c (by decide), si_c (by decide), si_c (by decide)]
  have e10 : ∀ a, N.1 10 a = if a = 100 * i + t then m else M.1 10 a := by
    intro a
    rw [← hM, si_c (by decide), si_c (by decide), si_c (by decide)]
    by_cases q : a = 100 * i + t
    · rw [if_pos q, q, si_s]
    · rw [if_neg q, si_n q]
  have e152 : ∀ a, N.1 152 a = if a = 100 * i + t then m else M.1 152 a := by
    intro a
    rw [← hM, si_c (by decide)]
    by_cases q : a = 100 * i + t
    · rw [if_pos q, q, si_s]
    · rw [if_neg q, si_n q, si_c (by decide), si_c (by decide)]
  refine Rel_led h (by rw [← hM]; rfl) (fun c _ _ => by rw [← hM]; rfl) (fun c hc => e c (by omega) (by omega) (by omega) (by omega)) (fun j hj => by rw [e 130 (by decide) (by decide) (by decide) (by decide)]) ?_
  have a := L12 (M' := N) h.led (by rw [e 6 (by decide) (by decide) (by decide) (by decide)]) (by rw [e 130 (by decide) (by decide) (by decide) (by decide)]) (e 7 (by decide) (by decide) (by decide) (by decide)) (e 8 (by decide) (by decide) (by decide) (by decide)) (e 149 (by decide) (by decide) (by decide) (by decide)) (e 150 (by decide) (by decide) (by decide) (by decide)) (e 145 (by decide) (by decide) (by decide) (by decide))
  refine ⟨a.1, a.2, fun a ha => ?_, L4 h.led (e 11 (by decide) (by decide) (by decide) (by decide)) (e 12 (by decide) (by decide) (by decide) (by decide)) (e 153 (by decide) (by decide) (by decide) (by decide)) (e 154 (by decide) (by decide) (by decide) (by decide)), L5 h.led (e 13 (by decide) (by decide) (by decide) (by decide)) (e 155 (by decide) (by decide) (by decide) (by decide)), L6 h.led (e 14 (by decide) (by decide) (by decide) (by decide)) (e 156 (by decide) (by decide) (by decide) (by decide))⟩
  obtain ⟨h1, h2, h3⟩ := h.led.2.2.1 a ha
  show N.1 9 a = N.1 151 a ∧ nIb (N.1 151 a) 100 ∧ ∀ j, j < qN (N.1 151 a) → N.1 10 (100 * a + j) = N.1 152 (100 * a + j)
  rw [e9, e151]
  by_cases q : a = i
  · subst q
    rw [if_pos rfl, if_pos rfl]
    refine ⟨rfl, nIb_nI (by omega) (by decide), fun j hj => ?_⟩
    rw [qN_nI (by omega)] at hj
    rw [e10, e152]
    by_cases qj : 100 * a + j = 100 * a + t
    · rw [if_pos qj, if_pos qj]
    · rw [if_neg qj, if_neg qj]
      refine h3 j ?_
      show j < qN (M.1 151 a)
      rw [ht, qN_nI (by omega)]
      omega
  · rw [if_neg q, if_neg q]
    refine ⟨h1, h2, fun j hj => ?_⟩
    rw [e10, e152]
    by_cases qj : 100 * a + j = 100 * i + t
    · rw [if_pos qj, if_pos qj]
    · rw [if_neg qj, if_neg qj]
      exact h3 j hj
theorem c_toldOf (h : Rel M) (hi : i < qW M) : fX1_toldOf M 6 (nI i) = rI (M.1 151 i) M := by
  have hW : qW M ≤ 6 := h.wks.2.2
  unfold fX1_toldOf
  rw [show 6 + 3 = 9 from rfl, e_at (len := 6) rfl (by omega) (by decide), bi_I]
  rw [(h.led.2.2.1 i hi).1]
theorem o11 (h : Rel M) (x m : Int32) : okS (fun K => gWr (fL_tell M x m) (fun M1 => fX11_tell M1 x m) K) := by
  unfold fL_tell
  rcases isWk h x with ⟨a, b⟩ | ⟨i, hi, rfl⟩
  · refine fin_f1 h (by unfold fX10_tell; rw [a]; rfl) rfl ?_
    unfold fX11_tell
    rw [b (v_si M 130 1 0) rfl, bi_I, if_pos rfl]
    rfl
  have h6 : i < 6 := by have := h.W1.2.1; omega
  obtain ⟨t1, t2, -⟩ := h.led.2.2.1 i hi
  obtain ⟨t, ht⟩ : ∃ t, qN (M.1 151 i) = t := ⟨_, rfl⟩
  have e151 : M.1 151 i = nI t := by rw [← ht]; exact t2.1
  have tle : t ≤ 100 := by rw [← ht]; exact t2.2
  have e9 : M.1 9 i = nI t := t1.trans e151
  by_cases q : t < 100
  · refine fin_val (z := nI (t + 1)) (M1 := v_si (v_si M 10 (100 * i + t) m) 9 i (nI (t + 1))) (M2 := v_si (v_si (v_si (v_sl (v_si (v_si M 10 (100 * i + t) m) 9 i (nI (t + 1))) 174 0 (nI (t + 1)).toInt64) 130 1 0) 152 (100 * i + t) m) 151 i (nI (t + 1))) ?_ ?_ ?_ rfl ?_
    · unfold fX10_tell fX1_addTold
      rw [wOf h hi, br_R, c_toldOf h hi, bi_I, e151, if_pos (show nI t < 100 from nI_lt q (by decide)), c_toldOf h hi, bi_I, e151, show (100 : Int32) = nI 100 from rfl, ix_m, show 6 + 4 = 10 from rfl, e_put (len := 600) rfl (show i * 100 + t < 600 by omega) (by decide), bv_V, show 6 + 3 = 9 from rfl, nI_1, e_put (len := 6) rfl h6 (by decide), bv_V, bi_I, Nat.mul_comm i 100]
    · unfold fX11_tell
      have hR : Rel (v_sl M 174 0 (nI (t + 1)).toInt64) := Rel_sl h (by omega)
      have ew : fX11_isWork (v_si (v_sl (v_si (v_si M 10 (100 * i + t) m) 9 i (nI (t + 1))) 174 0 (nI (t + 1)).toInt64) 130 1 0) (nI i) = rI 1 (v_si (v_sl (v_si (v_si M 10 (100 * i + t) m) 9 i (nI (t + 1))) 174 0 (nI (t + 1)).toInt64) 130 1 0) := by
        exact e_isWk1 (w := qW M) h.W1.1 h.W1.2.1 hi
      have hin : v_in (nI i) 6 = true := v_in_nI h6 (by decide)
      have e5 : (v_si (v_sl (v_si (v_si M 10 (100 * i + t) m) 9 i (nI (t + 1))) 174 0 (nI (t + 1)).toInt64) 130 1 0).1 151 i = nI t := e151
      rw [ew, bi_I, if_neg (by decide), if_pos hin, nI_clamp (by omega), e5, if_neg (show ¬ nI t = 100 from fun z => by have := (nI_eq (a := t) (b := 100) (by omega) (by decide)).mp z; omega), if_pos hin, show (100 : Int32) = nI 100 from rfl, ix_m, if_pos (v_in_nI (show 100 * i + t < 600 by omega) (by decide)), if_pos hin, if_pos hin, if_pos hin, nI_clamp (by omega), si_s, si_c (by decide), e5, nI_1]
    · rfl
    · have := c0 (Rel_sl (c := 174) (j := 0) (x := (nI (t + 1)).toInt64) (Rel_tell h hi e151 q (m := m)) (by omega))
      refine Rel_congr this rfl (fun c hc => ?_) (fun j hj => rfl) (fun c _ _ => rfl)
      funext j
      show (if c = 151 ∧ j = i then nI (t + 1) else if c = 152 ∧ j = 100 * i + t then m else if c = 130 ∧ j = 1 then 0 else if c = 9 ∧ j = i then nI (t + 1) else if c = 10 ∧ j = 100 * i + t then m else M.1 c j) = (if c = 130 ∧ j = 1 then 0 else if c = 151 ∧ j = i then nI (t + 1) else if c = 152 ∧ j = 100 * i + t then m else if c = 9 ∧ j = i then nI (t + 1) else if c = 10 ∧ j = 100 * i + t then m else M.1 c j)
      rw [if_neg (show ¬ (c = 130 ∧ j = 1) by omega), if_neg (show ¬ (c = 130 ∧ j = 1) by omega)]
  · have t100 : t = 100 := by omega
    subst t100
    have r1 : M.1 14 2 = M.1 156 2 := h.led.2.2.2.2.2 2 (by decide)
    refine fin_val (z := -1) (M1 := v_si M 14 2 (M.1 14 2 + 1)) (M2 := v_si (v_si (v_sl (v_si M 14 2 (M.1 14 2 + 1)) 174 0 (-1 : Int32).toInt64) 130 1 0) 156 2 (M.1 156 2 + 1)) ?_ ?_ rfl rfl ?_
    · unfold fX10_tell
      rw [wOf h hi, br_R, c_toldOf h hi, bi_I, e151, if_neg (by decide), show (2 : Int32) = nI 2 from rfl, c_refuse (by decide), bv_V]
    · unfold fX11_tell
      have ew : fX11_isWork (v_si (v_sl (v_si M 14 2 (M.1 14 2 + 1)) 174 0 (-1 : Int32).toInt64) 130 1 0) (nI i) = rI 1 (v_si (v_sl (v_si M 14 2 (M.1 14 2 + 1)) 174 0 (-1 : Int32).toInt64) 130 1 0) := by
        exact e_isWk1 (w := qW M) h.W1.1 h.W1.2.1 hi
      have e5 : (v_si (v_sl (v_si M 14 2 (M.1 14 2 + 1)) 174 0 (-1 : Int32).toInt64) 130 1 0).1 151 i = nI 100 := e151
      rw [ew, bi_I, if_neg (by decide), if_pos (v_in_nI h6 (by decide)), nI_clamp (by omega), e5, if_pos (show nI 100 = 100 from rfl), if_pos (by decide), if_pos (by decide)]
      rfl
    · rw [v_si_comm (Or.inl (by decide)), ← r1]
      have := c0 (Rel_sl (c := 174) (j := 0) (x := (-1 : Int32).toInt64) (Rel_ref h (k := 2) (x := M.1 14 2 + 1)) (by omega))
      exact this
end P9
