section P20
variable {M N : vM} {i : Nat}
theorem fin_valz {f : Option (vR × vM)} {KT : Nat → vM → Option (vR × vM)} {g : vM → Option (vR × vM)} {M1 M2 : vM} {z : Int32} (hz : z = 0 ∨ z = 1) (h1 : f = rI z M1) (h2 : g (v_sl M1 174 0 z.toInt64) = rI z M2) (h3 : M2.1 130 1 = 0) (h4 : M2.2.1 174 = (v_sl M1 174 0 z.toInt64).2.1 174) (hR : Rel M2) : okS (fun K => gWz (vWz f KT) g K) := by
  refine ⟨M2, hR, fun K => ?_⟩
  subst h1
  have h5 : M2.2.1 174 0 = z.toInt64 := by rw [h4]; rfl
  rcases hz with rfl | rfl
  · have e0 : (0 : Int32).toInt64 = 0 := by decide
    rw [e0] at h2 h5
    show bi (if (0 : Int32) = 0 then rI 0 (v_sl M1 174 0 0) else rI 0 (v_sl M1 174 0 1)) _ = _
    rw [if_pos rfl, bi_I, h2, bi_I]
    unfold fX11_thrown
    rw [bi_I, h3, if_pos rfl, if_pos rfl, if_pos rfl, h5, if_pos]
    decide
  · have e0 : (1 : Int32).toInt64 = 1 := by decide
    rw [e0] at h2 h5
    show bi (if (1 : Int32) = 0 then rI 0 (v_sl M1 174 0 0) else rI 0 (v_sl M1 174 0 1)) _ = _
    rw [if_neg (by decide), bi_I, h2, bi_I]
    unfold fX11_thrown
    rw [bi_I, h3, if_pos rfl, if_pos rfl, if_neg (by decide), h5, if_pos]
    decide
theorem fin_f1z (h : Rel M) {f : Option (vR × vM)} {KT : Nat → vM → Option (vR × vM)} {g : vM → Option (vR × vM)} (h1 : f = rT 1 M) (hk : KT 1 M = rI 1 M) (h2 : g M = rI 0 (v_si (v_si M 130 1 0) 130 1 1)) : okS (fun K => gWz (vWz f KT) g K) := by
  refine ⟨v_si (v_si M 130 1 0) 130 1 1, Rel_si (c0 h) (by omega), fun K => ?_⟩
  subst h1
  show bi (KT 1 M) _ = _
  rw [hk, bi_I, h2, bi_I]
  unfold fX11_thrown
  rw [bi_I, show (v_si (v_si M 130 1 0) 130 1 1).1 130 1 = 1 from rfl, if_pos rfl, if_neg (by decide)]
theorem si_id {c j : Nat} {x : Int32} (h : N.1 c j = x) : v_si N c j x = N := by
  refine Prod.ext ?_ rfl
  funext a b
  show (if a = c ∧ b = j then x else N.1 a b) = N.1 a b
  by_cases q : a = c ∧ b = j
  · rw [if_pos q, q.1, q.2, h]
  · rw [if_neg q]
theorem c_full {n : Nat} (hB : M.1 6 0 = nI n) (hn : n ≤ 400) : fX1_bookIsFull M 6 = rI (if n < 400 then 0 else 1) M := by
  unfold fX1_bookIsFull
  rw [hB]
  by_cases q : n < 400
  · rw [if_pos q, if_pos (show nI n < 400 from nI_lt q (by decide))]
  · rw [if_neg q, if_neg (show ¬ nI n < 400 from nI_nlt (show 400 ≤ n by omega) (by omega))]
theorem o8 (h : Rel M) (x y : Int32) : okS (fun K => gWz (fL_done M x y) (fun M1 => fX11_done M1 x y) K) := by
  unfold fL_done
  rcases isWk h x with ⟨a, b⟩ | ⟨i, hi, rfl⟩
  · refine fin_f1z h (by unfold fX10_done; rw [a]; rfl) rfl ?_
    unfold fX11_done fX11_isWay
    rw [b (v_si M 130 1 0) rfl, bi_I, if_pos rfl, bi_I, if_pos rfl]
  have h6 : i < 6 := by have := h.W1.2.1; omega
  rcases isWy h hi y with ⟨a, b⟩ | ⟨way, hw, rfl⟩
  · refine fin_f1z h (by unfold fX10_done; rw [wOf h hi, br_R, a]; rfl) rfl ?_
    unfold fX11_done
    rw [b _ (c0 h) (Or.inr rfl), bi_I, if_pos rfl]
  have hb := h.B1
  have hwk := h.wk hi
  have hc := wkC hwk
  have h14 : v_in 1 4 = true := by decide
  have refuse : fX10_done M (nI i) (nI way) = fX10_done_29 M → (qB M = 400 ∨ ¬ M.1 148 (2000 * i + way) = 0) → okS (fun K => gWz (vWz (fX10_done M (nI i) (nI way)) (kt1 1)) (fun M1 => fX11_done M1 (nI i) (nI way)) K) := by
    intro h1 h2
    have r1 : M.1 14 1 = M.1 156 1 := h.led.2.2.2.2.2 1 (by decide)
    refine fin_valz (z := 0) (M1 := v_si M 14 1 (M.1 14 1 + 1)) (M2 := v_si (v_si (v_sl (v_si M 14 1 (M.1 14 1 + 1)) 174 0 (0 : Int32).toInt64) 130 1 0) 156 1 (M.1 156 1 + 1)) (Or.inl rfl) ?_ ?_ rfl rfl ?_
    · rw [h1]
      unfold fX10_done_29
      rw [show fX1_refuse M 6 1 = rV (v_si M 14 1 (M.1 14 1 + 1)) from c_refuse (k := 1) (by decide), bv_V]
    · have ew := r_isWay1 (N := v_si (v_sl (v_si M 14 1 (M.1 14 1 + 1)) 174 0 (0 : Int32).toInt64) 130 1 0) (w := qW M) h.W1.1 h.W1.2.1 hi (c := qC M i) hc.2.2 hc.2.1 hw
      have ee : fX11_enter (v_si (v_sl (v_si M 14 1 (M.1 14 1 + 1)) 174 0 (0 : Int32).toInt64) 130 1 0) (nI i) (nI way) = rI 0 (v_si (v_sl (v_si M 14 1 (M.1 14 1 + 1)) 174 0 (0 : Int32).toInt64) 130 1 0) := by
        unfold fX11_enter
        rw [show (v_si (v_sl (v_si M 14 1 (M.1 14 1 + 1)) 174 0 (0 : Int32).toInt64) 130 1 0).1 130 21 = nI (qB M) from hb.1]
        by_cases q : qB M = 400
        · rw [if_pos (show nI (qB M) = 400 by rw [q]; rfl)]
        · rw [if_neg (show ¬ nI (qB M) = 400 from fun z => q ((nI_eq (a := qB M) (b := 400) (by omega) (by decide)).mp z)), e_ix, if_pos (r_in h6 (by omega)), nI_clamp (by omega), if_neg (show ¬ (v_si (v_sl (v_si M 14 1 (M.1 14 1 + 1)) 174 0 (0 : Int32).toInt64) 130 1 0).1 148 (2000 * i + way) = 0 from h2.resolve_left q)]
      unfold fX11_done
      rw [ew, bi_I, if_neg (by decide), ee, bi_I, if_pos h14, if_pos rfl, if_pos h14, if_pos (by decide)]
      rfl
    · rw [v_si_comm (Or.inl (by decide)), ← r1]
      exact c0 (Rel_sl (c := 174) (j := 0) (x := (0 : Int32).toInt64) (Rel_ref h (k := 1) (x := M.1 14 1 + 1)) (by omega))
  by_cases hs : M.1 148 (2000 * i + way) = 0
  · by_cases hB : qB M < 400
    · obtain ⟨N1, N2, e1, e2, ac, ao⟩ := c_do (N := M) h hi hw hB ⟨fun _ _ => rfl, rfl⟩
      generalize hS : v_si (v_sl N2 174 0 (1 : Int32).toInt64) 130 1 0 = S
      have s1 : ∀ c, c ≠ 130 → S.1 c = N2.1 c := fun c h1 => by rw [← hS, si_c h1]; rfl
      have s2 : ∀ j, j ≠ 1 → S.1 130 j = N2.1 130 j := fun j h1 => by rw [← hS, si_n h1]; rfl
      have ar : agR S M := ⟨fun c h1 h2 h3 => by rw [s1 c (by omega), ao c (by omega)], fun j hj => by rw [s2 j (by omega), ao 130 (by decide)]⟩
      obtain ⟨N3, e3, ar3, n2, nl, n130⟩ := r_do (N := S) h hi hw hB hs ar
      refine fin_valz (z := 1) (M1 := N2) (M2 := N3) (Or.inr rfl) ?_ ?_ ?_ ?_ ?_
      · unfold fX10_done
        rw [wOf h hi, br_R, wyOf h hi hw, bv_V, e_isSp hwk hw, bi_I, if_pos hs, c_full hb.2.2 hb.2.1, if_pos hB, bi_I, if_pos rfl, e1, bv_V, e2, bv_V]
      · have ew := r_isWay1 (N := S) (w := qW M) ((ar.2 2 (by omega)).trans h.W1.1) h.W1.2.1 hi (c := qC M i) (by rw [ar.1 145 (by decide) (by decide) (by decide)]; exact hc.2.2) hc.2.1 hw
        unfold fX11_done
        rw [hS, ew, bi_I, if_neg (by decide), e3, bi_I, if_pos h14, if_neg (by decide), if_pos h14, if_pos (by decide), si_id]
        exact (Int32.add_zero _).symm
      · rw [n130 1 (by decide), ← hS, si_s]
      · rw [n2, ← hS]
        rfl
      · refine Rel_ag (Rel_nx h hi hw hB) (fun c hcc => by rw [nl c (Or.inl hcc), s1 c (by omega), ac.1 c hcc]) ar3 ?_ (fun c h1 h2 => ?_)
        · rw [n2, ← hS]
          show N2.2.2 = _
          rw [ac.2]
        · rw [n2, ← hS]
          show (v_sl N2 174 0 _).2.1 c = _
          rw [v_sl_o (by omega), ac.2]
    · refine refuse ?_ (Or.inl (by omega))
      unfold fX10_done
      rw [wOf h hi, br_R, wyOf h hi hw, bv_V, e_isSp hwk hw, bi_I, if_pos hs, c_full hb.2.2 hb.2.1, if_neg hB, bi_I, if_neg (by decide)]
  · refine refuse ?_ (Or.inr hs)
    unfold fX10_done
    rw [wOf h hi, br_R, wyOf h hi hw, bv_V, e_isSp hwk hw, bi_I, if_neg hs]
end P20
