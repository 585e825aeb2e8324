section P8
variable {M M' : vM} {i : Nat}
/-- the ledger alone has changed -/
theorem Rel_led (h : Rel M) (h0 : M'.2.2 = M.2.2) (hl : ∀ c, 40 ≤ c → c < 130 → M'.2.1 c = M.2.1 c) (hc : ∀ c, (c < 3 ∨ 15 ≤ c ∧ c < 24 ∨ 40 ≤ c ∧ c < 130 ∨ 132 ≤ c ∧ c < 149 ∨ c = 157 ∨ 166 ≤ c ∧ c < 174) → M'.1 c = M.1 c) (hm : ∀ j, j = 2 ∨ j = 31 ∨ j = 40 ∨ j = 51 ∨ j = 52 → M'.1 130 j = M.1 130 j) (hL : rLed M' 6 149 21 (qW M)) : Rel M' := by
  have eW : qW M' = qW M := by simp only [qW, hm 2 (by simp)]
  refine ⟨rPl_congr h.pl h0, rTape_congr h.tape (hm 31 (by simp)) (by rw [hc 1 (by omega)]) (hc 157 (by omega)) (hc 2 (by omega)), ?_, ?_, fun i hi => ?_, by rw [eW]; exact hL, ?_, ?_, fun h1 => ?_⟩
  · rw [hc 0 (by omega), hm 40 (by simp)]
    exact h.flt
  · rw [hc 0 (by omega), hm 2 (by simp)]
    exact h.wks
  · rw [eW] at hi
    have hW : qW M ≤ 6 := h.wks.2.2
    exact rWk_congr (h.wk hi) (qp_P h.pl.1 (by omega)).1 (by omega) h0 (fun c h1 h2 => hc c (by omega)) (fun c h1 h2 => hc c (by omega)) hl
  · rw [hc 0 (by omega), hm 51 (by simp)]
    exact h.img.1
  · rw [hm 51 (by simp)]
    exact h.img.2.1
  · rw [hm 51 (by simp)] at h1
    rw [eW]
    exact rLed_congr (h.img.2.2 h1) (fun j hj => hc _ (by omega)) (fun j hj => hc _ (by omega)) (hm 52 (by simp)) (hc 145 (by omega))
/-- parts of the ledger that stand -/
theorem L12 {w : Nat} (h : rLed M 6 149 21 w) (e6 : M'.1 6 0 = M.1 6 0) (en : M'.1 130 21 = M.1 130 21) (e7 : M'.1 7 = M.1 7) (e8 : M'.1 8 = M.1 8) (r9 : M'.1 149 = M.1 149) (r0 : M'.1 150 = M.1 150) (eC : M'.1 145 = M.1 145) : (M'.1 6 0 = M'.1 130 21 ∧ nIb (M'.1 130 21) 400) ∧ (∀ i, i < qN (M'.1 130 21) → M'.1 7 i = M'.1 149 i ∧ M'.1 8 i = M'.1 150 i ∧ nIb (M'.1 149 i) 5 ∧ qN (M'.1 149 i) < w ∧ nIb (M'.1 150 i) 1457 ∧ qN (M'.1 150 i) < qC M' (qN (M'.1 149 i))) := by
  simp only [qC, e6, en, e7, e8, r9, r0, eC]
  exact ⟨h.1, h.2.1⟩
theorem L3 {w : Nat} (h : rLed M 6 149 21 w) (e9 : M'.1 9 = M.1 9) (e10 : M'.1 10 = M.1 10) (r1 : M'.1 151 = M.1 151) (r2 : M'.1 152 = M.1 152) : ∀ i, i < w → M'.1 9 i = M'.1 151 i ∧ nIb (M'.1 151 i) 100 ∧ ∀ j, j < qN (M'.1 151 i) → M'.1 10 (100 * i + j) = M'.1 152 (100 * i + j) := by
  simp only [e9, e10, r1, r2]
  exact h.2.2.1
theorem L4 {w : Nat} (h : rLed M 6 149 21 w) (e9 : M'.1 11 = M.1 11) (e10 : M'.1 12 = M.1 12) (r1 : M'.1 153 = M.1 153) (r2 : M'.1 154 = M.1 154) : ∀ i, i < w → M'.1 11 i = M'.1 153 i ∧ nIb (M'.1 153 i) 12 ∧ ∀ j, j < qN (M'.1 153 i) → M'.1 12 (12 * i + j) = M'.1 154 (12 * i + j) ∧ nIb (M'.1 154 (12 * i + j)) 9999 := by
  simp only [e9, e10, r1, r2]
  exact h.2.2.2.1
theorem L5 {w : Nat} (h : rLed M 6 149 21 w) (e9 : M'.1 13 = M.1 13) (r1 : M'.1 155 = M.1 155) : ∀ y, y < 100 → M'.1 13 y = M'.1 155 y ∧ nIb (M'.1 155 y) 99 := by
  simp only [e9, r1]
  exact h.2.2.2.2.1
theorem L6 {w : Nat} (h : rLed M 6 149 21 w) (e9 : M'.1 14 = M.1 14) (r1 : M'.1 156 = M.1 156) : ∀ k, k < 4 → M'.1 14 k = M'.1 156 k := by
  simp only [e9, r1]
  exact h.2.2.2.2.2
theorem si_s {c j : Nat} {x : Int32} : (v_si M c j x).1 c j = x := if_pos ⟨rfl, rfl⟩
theorem si_n {c j k : Nat} {x : Int32} (h : k ≠ j) : (v_si M c j x).1 c k = M.1 c k := if_neg (fun z => h z.2)
theorem v_si_comm {c j c' j' : Nat} {x x' : Int32} (h : c ≠ c' ∨ j ≠ j') : v_si (v_si M c j x) c' j' x' = v_si (v_si M c' j' x') c j x := by
  refine Prod.ext ?_ rfl
  funext a b
  show (if a = c' ∧ b = j' then x' else if a = c ∧ b = j then x else M.1 a b) = (if a = c ∧ b = j then x else if a = c' ∧ b = j' then x' else M.1 a b)
  by_cases h1 : a = c ∧ b = j
  · rw [if_pos h1, if_neg (by omega), if_pos h1]
  · rw [if_neg h1, if_neg h1]
theorem si_c {c j c' : Nat} {x : Int32} (h : c' ≠ c) : (v_si M c j x).1 c' = M.1 c' := v_si_o h
/-! a refusal more -/
theorem Rel_ref (h : Rel M) {k : Nat} {x : Int32} : Rel (v_si (v_si M 14 k x) 156 k x) := by
  refine Rel_led h rfl (fun c _ _ => rfl) (fun c hc => by rw [si_c (by omega), si_c (by omega)]) (fun j hj => by rw [si_c (by decide), si_c (by decide)]) ?_
  have e : ∀ c, c ≠ 14 → c ≠ 156 → (v_si (v_si M 14 k x) 156 k x).1 c = M.1 c := fun c h1 h2 => by rw [si_c h2, si_c h1]
  have a := L12 (M' := v_si (v_si M 14 k x) 156 k x) h.led (by rw [e 6 (by decide) (by decide)]) (by rw [e 130 (by decide) (by decide)]) (e 7 (by decide) (by decide)) (e 8 (by decide) (by decide)) (e 149 (by decide) (by decide)) (e 150 (by decide) (by decide)) (e 145 (by decide) (by decide))
  refine ⟨a.1, a.2, L3 h.led (e 9 (by decide) (by decide)) (e 10 (by decide) (by decide)) (e 151 (by decide) (by decide)) (e 152 (by decide) (by decide)), L4 h.led (e 11 (by decide) (by decide)) (e 12 (by decide) (by decide)) (e 153 (by decide) (by decide)) (e 154 (by decide) (by decide)), L5 h.led (e 13 (by decide) (by decide)) (e 155 (by decide) (by decide)), fun j hj => ?_⟩
  show (v_si (v_si M 14 k x) 156 k x).1 14 j = (v_si (v_si M 14 k x) 156 k x).1 156 j
  by_cases q : j = k
  · subst q
    rw [si_s, si_c (by decide), si_s]
  · have e1 : (v_si (v_si M 14 k x) 156 k x).1 14 j = M.1 14 j := by rw [si_c (by decide), si_n q]
    have e2 : (v_si (v_si M 14 k x) 156 k x).1 156 j = M.1 156 j := by rw [si_n q, si_c (by decide)]
    rw [e1, e2]
    exact h.led.2.2.2.2.2 j hj
theorem c_refuse {k : Nat} (hk : k < 4) : fX1_refuse M 6 (nI k) = rV (v_si M 14 k (M.1 14 k + 1)) := by
  unfold fX1_refuse
  rw [show 6 + 8 = 14 from rfl, e_at (len := 4) rfl hk (by decide), bi_I, e_put (len := 4) rfl hk (by decide), bv_V]
/-! weight -/
theorem Rel_weight (h : Rel M) {k v : Nat} (hv : v ≤ 99) : Rel (v_si (v_si M 13 k (nI v)) 155 k (nI v)) := by
  refine Rel_led h rfl (fun c _ _ => rfl) (fun c hc => by rw [si_c (by omega), si_c (by omega)]) (fun j hj => by rw [si_c (by decide), si_c (by decide)]) ?_
  have e : ∀ c, c ≠ 13 → c ≠ 155 → (v_si (v_si M 13 k (nI v)) 155 k (nI v)).1 c = M.1 c := fun c h1 h2 => by rw [si_c h2, si_c h1]
  have a := L12 (M' := v_si (v_si M 13 k (nI v)) 155 k (nI v)) h.led (by rw [e 6 (by decide) (by decide)]) (by rw [e 130 (by decide) (by decide)]) (e 7 (by decide) (by decide)) (e 8 (by decide) (by decide)) (e 149 (by decide) (by decide)) (e 150 (by decide) (by decide)) (e 145 (by decide) (by decide))
  refine ⟨a.1, a.2, L3 h.led (e 9 (by decide) (by decide)) (e 10 (by decide) (by decide)) (e 151 (by decide) (by decide)) (e 152 (by decide) (by decide)), L4 h.led (e 11 (by decide) (by decide)) (e 12 (by decide) (by decide)) (e 153 (by decide) (by decide)) (e 154 (by decide) (by decide)), fun j hj => ?_, L6 h.led (e 14 (by decide) (by decide)) (e 156 (by decide) (by decide))⟩
  show (v_si (v_si M 13 k (nI v)) 155 k (nI v)).1 13 j = (v_si (v_si M 13 k (nI v)) 155 k (nI v)).1 155 j ∧ nIb ((v_si (v_si M 13 k (nI v)) 155 k (nI v)).1 155 j) 99
  by_cases q : j = k
  · subst q
    rw [si_s, si_c (by decide), si_s]
    exact ⟨rfl, nIb_nI hv (by decide)⟩
  · have e1 : (v_si (v_si M 13 k (nI v)) 155 k (nI v)).1 13 j = M.1 13 j := by rw [si_c (by decide), si_n q]
    have e2 : (v_si (v_si M 13 k (nI v)) 155 k (nI v)).1 155 j = M.1 155 j := by rw [si_n q, si_c (by decide)]
    rw [e1, e2]
    exact h.led.2.2.2.2.1 j hj
theorem o14 (h : Rel M) (x y : Int32) : okS (fun K => gCm (fX10_weight M x y) (fun M1 => fX11_weight M1 x y) K) := by
  have refuse : fX10_weight M x y = rI 0 M → fX11_weight M x y = rI 0 (v_si M 130 1 0) → okS (fun K => gCm (fX10_weight M x y) (fun M1 => fX11_weight M1 x y) K) :=
    fun h1 h2 => ⟨_, c0 h, fun K => gCm_ok h1 h2⟩
  rcases i32 x with hx | ⟨k, hk, rfl⟩
  · refine refuse (by unfold fX10_weight; rw [if_pos hx]) ?_
    unfold fX11_weight
    rw [e_isIn0N hx, bi_I, if_pos rfl]
  by_cases q : k < 100
  · have e1 : ∀ M1 : vM, fX11_isIn M1 (nI k) 0 99 = rI 1 M1 := fun M1 => e_isIn1 (a := 0) (b := 99) (by omega) (by omega) (by decide)
    rcases i32 y with hy | ⟨v, hv, rfl⟩
    · refine refuse (by unfold fX10_weight; rw [if_neg (nI_pos hk), if_neg (show ¬ (100 : Int32) ≤ nI k from nI_ge q (by decide)), if_pos hy]) ?_
      unfold fX11_weight
      rw [e1, bi_I, if_neg (by decide), e_isIn0N hy, bi_I, if_pos rfl]
    by_cases q2 : v ≤ 99
    · have e2 : ∀ M1 : vM, fX11_isIn M1 (nI v) 0 99 = rI 1 M1 := fun M1 => e_isIn1 (a := 0) (b := 99) (by omega) (by omega) (by decide)
      refine ⟨v_si (v_si (v_si M 13 k (nI v)) 130 1 0) 155 k (nI v), ?_, fun K => gCm_ok (z := 1) (M1 := v_si M 13 k (nI v)) ?_ ?_⟩
      · rw [v_si_comm (Or.inl (by decide))]
        exact c0 (Rel_weight h (k := k) q2)
      · unfold fX10_weight fX1_setWeight
        rw [if_neg (nI_pos hk), if_neg (show ¬ (100 : Int32) ≤ nI k from nI_ge q (by decide)), if_neg (nI_pos hv), if_pos (show nI v ≤ 99 from nI_le q2 (by decide)), show 6 + 7 = 13 from rfl, e_put (len := 100) rfl q (by decide), bv_V, bv_V]
      · unfold fX11_weight
        rw [e1, bi_I, if_neg (by decide), e2, bi_I, if_neg (by decide), if_pos (v_in_nI q (by decide)), nI_clamp hk]
    · refine refuse (by unfold fX10_weight; rw [if_neg (nI_pos hk), if_neg (show ¬ (100 : Int32) ≤ nI k from nI_ge q (by decide)), if_neg (nI_pos hv), if_neg (show ¬ nI v ≤ 99 from nI_ge (show 99 < v by omega) hv)]) ?_
      unfold fX11_weight
      rw [e1, bi_I, if_neg (by decide), show fX11_isIn (v_si M 130 1 0) (nI v) 0 99 = rI 0 _ from e_isIn2 (a := 0) (b := 99) (Or.inr (by omega)) hv (by decide) (by decide), bi_I, if_pos rfl]
  · refine refuse (by unfold fX10_weight; rw [if_neg (nI_pos hk), if_pos (show (100 : Int32) ≤ nI k from nI_le (show 100 ≤ k by omega) hk)]) ?_
    unfold fX11_weight
    rw [show fX11_isIn (v_si M 130 1 0) (nI k) 0 99 = rI 0 _ from e_isIn2 (a := 0) (b := 99) (Or.inr (by omega)) hk (by decide) (by decide), bi_I, if_pos rfl]
end P8
