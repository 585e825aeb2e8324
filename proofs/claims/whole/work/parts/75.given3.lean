section P35
variable {M N : vM} {i : Nat}
theorem csF_g {A B : Nat → Nat → Int32} (h1 : A 148 = B 148) (h2 : A 145 = B 145) (h3 : A 146 = B 146) : csF A i = csF B i := by
  funext r
  unfold csF
  rw [uL_g h1 h2, h3]
theorem rWhat4 {x : Int32} (h : x < 0 ∨ ∃ k, 4 ≤ k ∧ k < 2 ^ 31 ∧ x = nI k) : fX11_isIn N x 0 3 = rI 0 N := by
  rcases h with a | ⟨k, a, b, rfl⟩
  · exact e_isInN (a := 0) a (by decide)
  · exact e_isIn2 (a := 0) (b := 3) (Or.inr (by omega)) b (by decide) (by decide)
theorem o20 (h : Rel M) (x y : Int32) : okS (fun K => gWr (fL_given M x y) (fun M1 => fX11_given M1 x y) K) := by
  unfold fL_given
  rcases isWk h x with ⟨a, b⟩ | ⟨i, hi, rfl⟩
  · refine fin_f1 h (by unfold fX10_given; rw [a]; rfl) rfl ?_
    unfold fX11_given
    rw [b (v_si M 130 1 0) rfl, bi_I, if_pos rfl]
    rfl
  have h6 : i < 6 := by have := h.W1.2.1; omega
  rcases wWhat (M := M) (x := y) (n := 4) (by decide) with ⟨a, b⟩ | ⟨v, hv, rfl⟩
  · refine fin_f1 h (by unfold fX10_given; rw [wOf h hi, br_R, show (4 : Int32) = nI 4 from rfl, a]; rfl) rfl ?_
    unfold fX11_given
    rw [rOf (c0 h) hi, bi_I, if_neg (by decide), rWhat4 b, bi_I, if_pos rfl]
    rfl
  have hwk := h.wk hi
  have hU := uL_le hwk
  obtain ⟨p1, p2, p3⟩ := h.led.2.2.2.1 i hi
  generalize hm : qN (M.1 153 i) = m at p3
  have hm12 : m ≤ 12 := by rw [← hm]; exact p2.le
  have h153 : M.1 153 i = nI m := by rw [← hm]; exact p2.e
  have hgP : ∀ t, t < m → nIb (lnF M.1 i m t) 9999 := lnF_P (A := M.1) (i := i) (P := fun x => nIb x 9999) (m := m) (fun k hk => (p3 k hk).2) m (Nat.le_refl _)
  obtain ⟨N1, a1, a2, a3, a4⟩ := c_l16 (M := M) hm12 h6 m FU 0 (v_si M 34 1 (nI m)) (FU_lt (by omega)) (Nat.zero_add _) si_s (fun j hj => by rw [si_c (by decide)]; exact (p3 j hj).1) (fun t ht => absurd ht (Nat.not_lt_zero _))
  have n1c : ∀ c, c ≠ 34 → c ≠ 35 → N1.1 c = M.1 c := fun c h1 h2 => by rw [a3 c h2, si_c h1]
  have n12 : N1.2 = M.2 := a2
  generalize hQ : v_si (v_si N1 34 2 0) 34 3 0 = Q
  have qc : ∀ c, c ≠ 34 → c ≠ 35 → Q.1 c = M.1 c := fun c h1 h2 => by rw [← hQ, si_c h1, si_c h1]; exact n1c c h1 h2
  have q2 : Q.2 = M.2 := by rw [← hQ]; exact n12
  have hRQ := Rel_34 h q2 qc
  have hiQ : i < qW Q := by show i < qN (Q.1 130 2); rw [qc 130 (by decide) (by decide)]; exact hi
  have euQ : uL Q.1 i = uL M.1 i := uL_g (qc 148 (by decide) (by decide)) (qc 145 (by decide) (by decide))
  obtain ⟨N2, R, A, b1, b2, b3, b4, b5, b6, b7, b8, b9, b10⟩ := c_s18 h hi hm12 (gv := lnF M.1 i m) m FU 0 Q 0 (FU_lt (by omega)) (Nat.zero_add _) (Nat.zero_le _) q2 qc (by rw [← hQ, si_n (by decide), si_n (by decide), a3 34 (by decide), si_s]) (by rw [← hQ, si_n (by decide), si_s]) (by rw [← hQ, si_s]; rfl) (fun t ht => by rw [← hQ, si_c (by decide), si_c (by decide)]; exact a4 t ht)
  obtain ⟨N3, d1, d2, d3, d4, d5, d6, d7⟩ := c_s102 h hi hm12 b2 b3 (gv := lnF M.1 i m) b5 b6 b7 b8 b9 b10
  have hR3 := Rel_34 h d2 d3
  generalize hz : (if v = 0 then A else if v = 1 then nI R else if v = 2 then lpF (lnF M.1 i m) (csF M.1 i) m R else gpF (lnF M.1 i m) (csF M.1 i) (uL M.1 i).length R : Int32) = zz
  have hr : fX10_given M (nI i) (nI v) = rI zz N3 := by
    have e1 : fX2_line M 6 (nI i) = rV N1 := by
      unfold fX2_line
      rw [c_peopleOf h hi, bi_I, h153, if_neg (show ¬ (12 : Int32) < nI m from nI_nlt (show m ≤ 12 from hm12) (by decide))]
      exact a1
    have e2 : fX2_settle N1 (qw i) = rV N3 := by
      unfold fX2_settle
      rw [hQ, c_nx0 (hRQ.wk hiQ), bi_I, euQ]
      exact (show fX2_settle_18 FU Q (qw i) 0 (atL (uL M.1 i) 0) = _ from b4).trans d1
    unfold fX10_given
    rw [wOf h hi, br_R, show fX10_refuseUnlessWhat M (nI v) 4 = rV M from wWhatY (n := 4) hv (by decide), bv_V, e1, bv_V, e2, bv_V, d4, d5, d6, d7, ← hz]
    rcases (show v = 0 ∨ v = 1 ∨ v = 2 ∨ v = 3 by omega) with rfl | rfl | rfl | rfl <;> rfl
  generalize hS : v_si (v_sl N3 174 0 zz.toInt64) 130 1 0 = S
  have hRS : Rel S := by rw [← hS]; exact c0 (Rel_sl hR3 (by omega))
  have sc : ∀ c, c ≠ 34 → c ≠ 35 → c ≠ 130 → S.1 c = M.1 c := fun c h1 h2 h3 => by rw [← hS, si_c h3]; exact d3 c h1 h2
  have hiS : i < qW S := by show i < qN (S.1 130 2); rw [← hS, si_n (by decide)]; show i < qN (N3.1 130 2); rw [d3 130 (by decide) (by decide)]; exact hi
  obtain ⟨T, f1, f2, f3, f4⟩ := r_s2 (M := M) hm12 h6 m FU 0 S (FU_lt (by omega)) (Nat.zero_add _) (by rw [sc 153 (by decide) (by decide) (by decide)]; exact h153) (fun j hj => by rw [sc 154 (by decide) (by decide) (by decide)]) (fun t ht => absurd ht (Nat.not_lt_zero _))
  have hRT : Rel T := Rel_congr hRS (by rw [f2]) (fun c hc => f3 c (by omega)) (fun j _ => by rw [f3 130 (by decide)]) (fun c _ _ => by rw [f2])
  have hiT : i < qW T := by show i < qN (T.1 130 2); rw [f3 130 (by decide)]; exact hiS
  have tc : ∀ c, c ≠ 34 → c ≠ 35 → c ≠ 130 → c ≠ 163 → T.1 c = M.1 c := fun c h1 h2 h3 h4 => by rw [f3 c h4, sc c h1 h2 h3]
  have euT : uL T.1 i = uL M.1 i := uL_g (tc 148 (by decide) (by decide) (by decide) (by decide)) (tc 145 (by decide) (by decide) (by decide) (by decide))
  have ecT : csF T.1 i = csF M.1 i := csF_g (tc 148 (by decide) (by decide) (by decide) (by decide)) (tc 145 (by decide) (by decide) (by decide) (by decide)) (tc 146 (by decide) (by decide) (by decide) (by decide))
  have t153 : T.1 153 i = nI m := by rw [tc 153 (by decide) (by decide) (by decide) (by decide)]; exact h153
  refine fin_val hr ?_ (M2 := T) ?_ ?_ hRT
  · have g1 := r_g38 (hRT.wk hiT) h6 hm12 (gv := lnF M.1 i m) (v := nI v) t153 f4 m FU 0 0 (FU_lt (by omega)) (Nat.zero_add _) (Nat.zero_le _)
    rw [ecT, euT, ← b1] at g1
    have g2 := r_g97 (A := A) (hRT.wk hiT) h6 hm12 hv (gv := lnF M.1 i m) t153 (fun t ht => ⟨f4 t ht, hgP t ht⟩) b2 (by rw [euT]; exact b3)
    rw [ecT, euT, hz] at g2
    unfold fX11_given
    rw [hS, rOf hRS hiS, bi_I, if_neg (by decide), show fX11_isIn S (nI v) 0 3 = rI 1 _ from e_isIn1 (a := 0) (b := 3) (Nat.zero_le _) (by omega) (by decide), bi_I, if_neg (by decide)]
    unfold fX11_sortPeople
    rw [show fX11_sortPeople_2 FU S (nI i) 0 = rV T from f1, bv_V]
    exact g1.trans g2
  · rw [f3 130 (by decide), ← hS, si_s]
  · rw [f2, ← hS]
    rfl
end P35
