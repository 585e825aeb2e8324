section P10
variable {M M' : vM} {i : Nat}
/-! person -/
theorem Rel_person (h : Rel M) (hi : i < qW M) {t v : Nat} (ht : M.1 153 i = nI t) (ht2 : t < 12) (hv : v ≤ 9999) : Rel (v_si (v_si (v_si (v_si M 12 (12 * i + t) (nI v)) 11 i (nI (t + 1))) 154 (12 * i + t) (nI v)) 153 i (nI (t + 1))) := by
  generalize hM : v_si (v_si (v_si (v_si M 12 (12 * i + t) (nI v)) 11 i (nI (t + 1))) 154 (12 * i + t) (nI v)) 153 i (nI (t + 1)) = N
  have e : ∀ c, c ≠ 11 → c ≠ 12 → c ≠ 153 → c ≠ 154 → N.1 c = M.1 c := fun c h1 h2 h3 h4 => by rw [← hM, si_c h3, si_c h4, si_c h1, si_c h2]
  have hW : qW M ≤ 6 := h.wks.2.2
  have e9 : ∀ a, N.1 11 a = if a = i then nI (t + 1) else M.1 11 a := by
    intro a
    rw [← hM, si_c (by decide), si_c (by decide)]
    by_cases q : a = i
    · rw [if_pos q, q, si_s]
    · rw [if_neg q, si_n q, si_c (by decide)]
  have e151 : ∀ a, N.1 153 a = if a = i then nI (t + 1) else M.1 153 a := by
    intro a
    rw [← hM]
    by_cases q : a = i
    · rw [if_pos q, q, si_s]
    · rw [if_neg q, si_n q, si_c (by decide), si_c (by decide), si_c (by decide)]
  have e10 : ∀ a, N.1 12 a = if a = 12 * i + t then nI v else M.1 12 a := by
    intro a
    rw [← hM, si_c (by decide), si_c (by decide), si_c (by decide)]
    by_cases q : a = 12 * i + t
    · rw [if_pos q, q, si_s]
    · rw [if_neg q, si_n q]
  have e152 : ∀ a, N.1 154 a = if a = 12 * i + t then nI v else M.1 154 a := by
    intro a
    rw [← hM, si_c (by decide)]
    by_cases q : a = 12 * i + t
    · rw [if_pos q, q, si_s]
    · rw [if_neg q, si_n q, si_c (by decide), si_c (by decide)]
  refine Rel_led h (by rw [← hM]; rfl) (fun c _ _ => by rw [← hM]; rfl) (fun c hc => e c (by omega) (by omega) (by omega) (by omega)) (fun j hj => by rw [e 130 (by decide) (by decide) (by decide) (by decide)]) ?_
  have a := L12 (M' := N) h.led (by rw [e 6 (by decide) (by decide) (by decide) (by decide)]) (by rw [e 130 (by decide) (by decide) (by decide) (by decide)]) (e 7 (by decide) (by decide) (by decide) (by decide)) (e 8 (by decide) (by decide) (by decide) (by decide)) (e 149 (by decide) (by decide) (by decide) (by decide)) (e 150 (by decide) (by decide) (by decide) (by decide)) (e 145 (by decide) (by decide) (by decide) (by decide))
  refine ⟨a.1, a.2, L3 h.led (e 9 (by decide) (by decide) (by decide) (by decide)) (e 10 (by decide) (by decide) (by decide) (by decide)) (e 151 (by decide) (by decide) (by decide) (by decide)) (e 152 (by decide) (by decide) (by decide) (by decide)), fun a ha => ?_, L5 h.led (e 13 (by decide) (by decide) (by decide) (by decide)) (e 155 (by decide) (by decide) (by decide) (by decide)), L6 h.led (e 14 (by decide) (by decide) (by decide) (by decide)) (e 156 (by decide) (by decide) (by decide) (by decide))⟩
  obtain ⟨h1, h2, h3⟩ := h.led.2.2.2.1 a ha
  show N.1 11 a = N.1 153 a ∧ nIb (N.1 153 a) 12 ∧ ∀ j, j < qN (N.1 153 a) → N.1 12 (12 * a + j) = N.1 154 (12 * a + j) ∧ nIb (N.1 154 (12 * a + j)) 9999
  rw [e9, e151]
  by_cases q : a = i
  · subst q
    rw [if_pos rfl, if_pos rfl]
    refine ⟨rfl, nIb_nI (by omega) (by decide), fun j hj => ?_⟩
    rw [qN_nI (by omega)] at hj
    rw [e10, e152]
    by_cases qj : 12 * a + j = 12 * a + t
    · rw [if_pos qj, if_pos qj]
      exact ⟨rfl, nIb_nI hv (by decide)⟩
    · rw [if_neg qj, if_neg qj]
      refine h3 j ?_
      show j < qN (M.1 153 a)
      rw [ht, qN_nI (by omega)]
      omega
  · rw [if_neg q, if_neg q]
    refine ⟨h1, h2, fun j hj => ?_⟩
    have hj12 : j < 12 := Nat.lt_of_lt_of_le hj h2.2
    rw [e10, e152, if_neg (by omega), if_neg (by omega)]
    exact h3 j hj
theorem c_peopleOf (h : Rel M) (hi : i < qW M) : fX1_peopleOf M 6 (nI i) = rI (M.1 153 i) M := by
  have hW : qW M ≤ 6 := h.wks.2.2
  unfold fX1_peopleOf
  rw [show 6 + 5 = 11 from rfl, e_at (len := 6) rfl (by omega) (by decide), bi_I]
  rw [(h.led.2.2.2.1 i hi).1]
theorem o19 (h : Rel M) (x y : Int32) : okS (fun K => gWr (fL_person M x y) (fun M1 => fX11_person M1 x y) K) := by
  unfold fL_person
  rcases isWk h x with ⟨a, b⟩ | ⟨i, hi, rfl⟩
  · refine fin_f1 h (by unfold fX10_person; rw [a]; rfl) rfl ?_
    unfold fX11_person
    rw [b (v_si M 130 1 0) rfl, bi_I, if_pos rfl]
    rfl
  have h6 : i < 6 := by have := h.W1.2.1; omega
  obtain ⟨t1, t2, -⟩ := h.led.2.2.2.1 i hi
  obtain ⟨t, ht⟩ : ∃ t, qN (M.1 153 i) = t := ⟨_, rfl⟩
  have e153 : M.1 153 i = nI t := by rw [← ht]; exact t2.1
  have tle : t ≤ 12 := by rw [← ht]; exact t2.2
  have hin : v_in (nI i) 6 = true := v_in_nI h6 (by decide)
  have refuse : fX10_person M (nI i) y = fX10_person_30 M → (∀ N : vM, N.1 153 i = nI t → N.1 130 2 = M.1 130 2 → fX11_person N (nI i) y = fX11_person_41 (v_si N 130 1 0)) → okS (fun K => gWr (vWi (fX10_person M (nI i) y) (kt1 1)) (fun M1 => fX11_person M1 (nI i) y) K) := by
    intro h1 h2
    have r1 : M.1 14 3 = M.1 156 3 := h.led.2.2.2.2.2 3 (by decide)
    refine fin_val (z := -1) (M1 := v_si M 14 3 (M.1 14 3 + 1)) (M2 := v_si (v_si (v_sl (v_si M 14 3 (M.1 14 3 + 1)) 174 0 (-1 : Int32).toInt64) 130 1 0) 156 3 (M.1 156 3 + 1)) ?_ ?_ rfl rfl ?_
    · rw [h1]
      unfold fX10_person_30
      rw [show (3 : Int32) = nI 3 from rfl, c_refuse (by decide), bv_V]
    · refine (h2 (v_sl (v_si M 14 3 (M.1 14 3 + 1)) 174 0 (-1 : Int32).toInt64) e153 rfl).trans ?_
      unfold fX11_person_41
      rw [if_pos (by decide), if_pos (by decide)]
      rfl
    · rw [v_si_comm (Or.inl (by decide)), ← r1]
      exact c0 (Rel_sl (c := 174) (j := 0) (x := (-1 : Int32).toInt64) (Rel_ref h (k := 3) (x := M.1 14 3 + 1)) (by omega))
  have ref1 : ∀ N : vM, N.1 153 i = nI t → N.1 130 2 = M.1 130 2 → (t = 12 ∨ fX11_isIn (v_si N 130 1 0) y 0 9999 = rI 0 (v_si N 130 1 0)) → fX11_person N (nI i) y = fX11_person_41 (v_si N 130 1 0) := by
    intro N e1 e2 h3
    have e3 : (v_si N 130 1 0).1 153 i = nI t := e1
    unfold fX11_person
    rw [e_isWk1 (N := v_si N 130 1 0) (w := qW M) (e2.trans h.W1.1) h.W1.2.1 hi, bi_I, if_neg (by decide), if_pos hin, nI_clamp (by omega), e3]
    by_cases q : t = 12
    · rw [if_pos (show nI t = 12 by rw [q]; rfl)]
    · rcases h3 with h3 | h3
      · exact absurd h3 q
      · rw [if_neg (show ¬ nI t = 12 from fun z => q ((nI_eq (a := t) (b := 12) (by omega) (by decide)).mp z)), h3, bi_I, if_pos rfl]
  rcases i32 y with hy | ⟨v, hv, rfl⟩
  · exact refuse (by unfold fX10_person; rw [wOf h hi, br_R, if_pos hy]) (fun N e1 e2 => ref1 N e1 e2 (Or.inr (e_isIn0N hy)))
  by_cases qv : v ≤ 9999
  · by_cases q : t < 12
    · refine fin_val (z := nI (t + 1)) (M1 := v_si (v_si M 12 (12 * i + t) (nI v)) 11 i (nI (t + 1))) (M2 := v_si (v_si (v_si (v_sl (v_si (v_si M 12 (12 * i + t) (nI v)) 11 i (nI (t + 1))) 174 0 (nI (t + 1)).toInt64) 130 1 0) 154 (12 * i + t) (nI v)) 153 i (nI (t + 1))) ?_ ?_ ?_ rfl ?_
      · unfold fX10_person fX1_addPerson
        rw [wOf h hi, br_R, if_neg (nI_pos hv), if_neg (show ¬ (9999 : Int32) < nI v from nI_nlt (show v ≤ 9999 from qv) (by decide)), c_peopleOf h hi, bi_I, e153, if_pos (show nI t < 12 from nI_lt q (by decide)), c_peopleOf h hi, bi_I, e153, show (12 : Int32) = nI 12 from rfl, ix_m, show 6 + 6 = 12 from rfl, e_put (len := 72) rfl (show i * 12 + t < 72 by omega) (by decide), bv_V, show 6 + 5 = 11 from rfl, nI_1, e_put (len := 6) rfl h6 (by decide), bv_V, bi_I, Nat.mul_comm i 12]
      · unfold fX11_person
        have e5 : (v_si (v_sl (v_si (v_si M 12 (12 * i + t) (nI v)) 11 i (nI (t + 1))) 174 0 (nI (t + 1)).toInt64) 130 1 0).1 153 i = nI t := e153
        rw [e_isWk1 (N := v_si (v_sl (v_si (v_si M 12 (12 * i + t) (nI v)) 11 i (nI (t + 1))) 174 0 (nI (t + 1)).toInt64) 130 1 0) (w := qW M) h.W1.1 h.W1.2.1 hi, bi_I, if_neg (by decide), if_pos hin, nI_clamp (by omega), e5, if_neg (show ¬ nI t = 12 from fun z => by have := (nI_eq (a := t) (b := 12) (by omega) (by decide)).mp z; omega), show fX11_isIn (v_si (v_sl (v_si (v_si M 12 (12 * i + t) (nI v)) 11 i (nI (t + 1))) 174 0 (nI (t + 1)).toInt64) 130 1 0) (nI v) 0 9999 = rI 1 _ from e_isIn1 (a := 0) (b := 9999) (by omega) qv (by decide), bi_I, if_neg (by decide), if_pos hin, e5, show (12 : Int32) = nI 12 from rfl, ix_m, if_pos (v_in_nI (show 12 * i + t < 72 by omega) (by decide)), if_pos hin, if_pos hin, if_pos hin, nI_clamp (by omega), si_s, si_c (by decide), e5, nI_1]
      · rfl
      · have := c0 (Rel_sl (c := 174) (j := 0) (x := (nI (t + 1)).toInt64) (Rel_person h hi e153 q qv) (by omega))
        refine Rel_congr this rfl (fun c hc => ?_) (fun j hj => rfl) (fun c _ _ => rfl)
        funext j
        show (if c = 153 ∧ j = i then nI (t + 1) else if c = 154 ∧ j = 12 * i + t then nI v else if c = 130 ∧ j = 1 then 0 else if c = 11 ∧ j = i then nI (t + 1) else if c = 12 ∧ j = 12 * i + t then nI v else M.1 c j) = (if c = 130 ∧ j = 1 then 0 else if c = 153 ∧ j = i then nI (t + 1) else if c = 154 ∧ j = 12 * i + t then nI v else if c = 11 ∧ j = i then nI (t + 1) else if c = 12 ∧ j = 12 * i + t then nI v else M.1 c j)
        rw [if_neg (show ¬ (c = 130 ∧ j = 1) by omega), if_neg (show ¬ (c = 130 ∧ j = 1) by omega)]
    · exact refuse (by unfold fX10_person; rw [wOf h hi, br_R, if_neg (nI_pos hv), if_neg (show ¬ (9999 : Int32) < nI v from nI_nlt (show v ≤ 9999 from qv) (by decide)), c_peopleOf h hi, bi_I, e153, if_neg (show ¬ nI t < 12 from nI_nlt (show 12 ≤ t by omega) (by omega))]) (fun N e1 e2 => ref1 N e1 e2 (Or.inl (by omega)))
  · exact refuse (by unfold fX10_person; rw [wOf h hi, br_R, if_neg (nI_pos hv), if_pos (show (9999 : Int32) < nI v from nI_lt (show 9999 < v by omega) hv)]) (fun N e1 e2 => ref1 N e1 e2 (Or.inr (e_isIn2 (a := 0) (b := 9999) (Or.inr (by omega)) hv (by decide) (by decide))))
end P10
