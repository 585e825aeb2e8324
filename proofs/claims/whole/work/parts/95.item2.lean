section P55
variable {N S : vM} {L t e q p r kd z lw ot m nr fr : Nat} {b F T C Kd A B : Nat → Nat}
theorem plX_c2 {N' S' : vM} (h : plX N S p r kd z lw ot m nr fr F T C Kd A B) (hN : ∀ c, p ≤ c → c ≤ p + 5 → N'.1 c = N.1 c) (hS : ∀ c j, rwQ r c j → ¬ ((139 ≤ c ∧ c < 142) ∧ 20 * r + m ≤ j) → ¬ ((142 ≤ c ∧ c < 145) ∧ 12 * r + nr ≤ j) → S'.1 c j = S.1 c j) : plX N' S' p r kd z lw ot m nr fr F T C Kd A B := by
  have hdec : ∀ c j, Decidable (rwQ r c j ∧ ¬ ((139 ≤ c ∧ c < 142) ∧ 20 * r + m ≤ j) ∧ ¬ ((142 ≤ c ∧ c < 145) ∧ 12 * r + nr ≤ j)) := fun c j => Classical.propDecidable _
  generalize hQ : ((fun c j => if rwQ r c j ∧ ¬ ((139 ≤ c ∧ c < 142) ∧ 20 * r + m ≤ j) ∧ ¬ ((142 ≤ c ∧ c < 145) ∧ 12 * r + nr ≤ j) then S'.1 c j else S.1 c j, S.2) : vM) = Q
  have q1 : plX N' Q p r kd z lw ot m nr fr F T C Kd A B := plX_c h hN (fun c j hj => by
    rw [← hQ]
    show (if rwQ r c j ∧ ¬ ((139 ≤ c ∧ c < 142) ∧ 20 * r + m ≤ j) ∧ ¬ ((142 ≤ c ∧ c < 145) ∧ 12 * r + nr ≤ j) then S'.1 c j else S.1 c j) = S.1 c j
    split
    · rename_i z
      exact hS c j z.1 z.2.1 z.2.2
    · rfl)
  have qe : ∀ c j, rwQ r c j → ¬ ((139 ≤ c ∧ c < 142) ∧ 20 * r + m ≤ j) → ¬ ((142 ≤ c ∧ c < 145) ∧ 12 * r + nr ≤ j) → S'.1 c j = Q.1 c j := fun c j a1 a2 a3 => by
    rw [← hQ]
    exact (if_pos ⟨a1, a2, a3⟩).symm
  have hm := plV_m q1.1
  have hn := q1.1.2.2.1
  obtain ⟨hV, hC, hR, h1, h2, h3⟩ := q1
  obtain ⟨r0, r1, r4, r6, r5, rc, rn, rs⟩ := hR
  have s7 : ∀ c, 132 ≤ c → c < 139 → S'.1 c r = Q.1 c r := fun c a d => qe c r (Or.inl ⟨⟨a, d⟩, rfl⟩) (by omega) (by omega)
  have s20 : ∀ c s, 139 ≤ c → c < 142 → s < m → S'.1 c (20 * r + s) = Q.1 c (20 * r + s) := fun c s a d f => qe c _ (Or.inr (Or.inl ⟨⟨a, d⟩, by omega, by omega⟩)) (by omega) (by omega)
  have s12 : ∀ c s, 142 ≤ c → c < 145 → s < nr → S'.1 c (12 * r + s) = Q.1 c (12 * r + s) := fun c s a d f => qe c _ (Or.inr (Or.inr ⟨⟨a, d⟩, by omega, by omega⟩)) (by omega) (by omega)
  exact ⟨hV, hC, ⟨by rw [s7 132 (by decide) (by decide)]; exact r0, by rw [s7 133 (by decide) (by decide)]; exact r1, by rw [s7 136 (by decide) (by decide)]; exact r4, by rw [s7 137 (by decide) (by decide)]; exact r6, by rw [s7 138 (by decide) (by decide)]; exact r5, fun s hs => by rw [s20 141 s (by decide) (by decide) hs]; exact rc s hs, fun hk s hs => by rw [s20 139 s (by decide) (by decide) hs, s20 140 s (by decide) (by decide) hs]; exact rn hk s hs, fun k hk => by rw [s12 142 k (by decide) (by decide) hk, s12 143 k (by decide) (by decide) hk, s12 144 k (by decide) (by decide) hk]; exact rs k hk⟩, h1, ⟨by rw [s7 134 (by decide) (by decide)]; exact h2.1, by rw [s7 135 (by decide) (by decide)]; exact h2.2⟩, h3⟩
theorem b_cost (hr : r < 12) (hb : ¬ S.1 130 38 = 0) (h6 : S.1 136 r = nI m) (hm : m < 20) : ∃ S', fX11_readCost S (nI r) = rV S' ∧ frQ r S S' ∧ S'.1 130 = S.1 130 := by
  have v12 : v_in (nI r) 12 = true := v_in_nI (by omega) (by decide)
  have e20 : (20 : Int32) * nI r + nI m = nI (20 * r + m) := by rw [show (20 : Int32) = nI 20 from rfl, nI_mul, nI_add]
  have b1 : ¬ (v_si S 141 (20 * r + m) 0).1 130 38 = 0 := by rw [si_c (by decide)]; exact hb
  have b2 : ¬ (v_si (v_si S 141 (20 * r + m) 0) 136 r (nI (m + 1))).1 130 38 = 0 := by rw [si_c (by decide), si_c (by decide)]; exact hb
  refine ⟨v_si (v_si S 141 (20 * r + m) 0) 136 r (nI (m + 1)), ?_, frQ_t (frQ_s (Or.inr (Or.inl ⟨by omega, by omega, by omega⟩))) (frQ_s (Or.inl ⟨by omega, rfl⟩)), by rw [si_c (by decide), si_c (by decide)]⟩
  unfold fX11_readCost
  rw [if_pos v12, b_num hb, bi_I, nI_clamp (n := r) (by omega), h6, e20, if_pos (v_in_nI (by omega) (by decide)), nI_clamp (n := 20 * r + m) (by omega), b_pass b1, bi_I, if_pos rfl]
  unfold fX11_readCost_50
  rw [if_pos v12, if_pos v12, nI_clamp (n := r) (by omega), si_c (by decide), h6, nI_1, b_semi b2, bv_V]
def rItm (kd : Nat) (S : vM) (r : Nat) : Option (vR × vM) := if kd = 0 then fX11_readStep S (nI r) else if kd = 1 then fX11_readItem S (nI r) 12 else fX11_readItem S (nI r) 6
theorem c_most {kd : Nat} (h0 : N.1 p 0 = nI kd) (hk : kd ≤ 2) : fX3_mostItems N p = rI (nI (lim kd)) N := by
  unfold fX3_mostItems
  rw [h0]
  rcases (show kd = 0 ∨ kd = 1 ∨ kd = 2 by omega) with rfl | rfl | rfl
  · rfl
  · rfl
  · rfl
theorem rItm_16 (hr : r < 12) (hk : kd ≤ 2) (h6 : S.1 136 r = nI m) (hm : m ≤ lim kd) : rItm kd S r = bv (if m = lim kd then fX11_wrong S 2 else rV S) fun M => if kd = 0 then fX11_readStep_16 M (nI r) else fX11_readItem_15 M (nI r) := by
  have v12 : v_in (nI r) 12 = true := v_in_nI (by omega) (by decide)
  unfold rItm
  rcases (show kd = 0 ∨ kd = 1 ∨ kd = 2 by omega) with rfl | rfl | rfl
  · unfold fX11_readStep
    rw [if_pos rfl, if_pos v12, nI_clamp (by omega), h6]
    by_cases q : m = 20
    · rw [if_pos (show nI m = 20 by rw [q]; rfl), if_pos (show m = lim 0 from q)]
      rfl
    · have hm2 : m ≤ 20 := hm
      rw [if_neg (show ¬ nI m = 20 from fun z => q ((nI_eq (b := 20) (by omega) (by decide)).mp z)), if_neg (show ¬ m = lim 0 from q)]
      rfl
  · unfold fX11_readItem
    rw [if_neg (by decide), if_pos rfl, if_pos v12, nI_clamp (by omega), h6]
    by_cases q : m = 12
    · rw [if_pos (show nI m = 12 by rw [q]; rfl), if_pos (show m = lim 1 from q)]
      rfl
    · have hm2 : m ≤ 12 := hm
      rw [if_neg (show ¬ nI m = 12 from fun z => q ((nI_eq (b := 12) (by omega) (by decide)).mp z)), if_neg (show ¬ m = lim 1 from q)]
      rfl
  · unfold fX11_readItem
    rw [if_neg (by decide), if_neg (by decide), if_pos v12, nI_clamp (by omega), h6]
    by_cases q : m = 6
    · rw [if_pos (show nI m = 6 by rw [q]; rfl), if_pos (show m = lim 2 from q)]
      rfl
    · have hm2 : m ≤ 6 := hm
      rw [if_neg (show ¬ nI m = 6 from fun z => q ((nI_eq (b := 6) (by omega) (by decide)).mp z)), if_neg (show ¬ m = lim 2 from q)]
      rfl
theorem plV_lim (h : plV kd z m nr fr F T C Kd A B) : m ≤ lim kd := by
  obtain ⟨h1, -, -, -, -, h5, h6, h7, -⟩ := h
  unfold lim
  rcases (show kd = 0 ∨ kd = 1 ∨ kd = 2 by omega) with q | q | q
  · rw [if_pos q]
    exact (h5 q).2.1
  · rw [if_neg (by omega), if_pos q]
    exact h6 q
  · rw [if_neg (by omega), if_neg (by omega)]
    exact h7 q
theorem one_F {v : Nat} (hv : v ≤ 9999) (X Y : Option (vR × vM)) : (if nI v ≤ (-1 : Int32) then X else if nI v = (-1 : Int32) then X else Y) = if False then X else Y := by
  rw [if_neg (fun h => nI_pos (show v < 2 ^ 31 by omega) (Int32.lt_of_le_of_lt h (by decide))), if_neg (nI_ne1 (by omega)), if_neg (fun h => h)]
theorem two_F (v : Nat) (X Y : Option (vR × vM)) : (if (-1 : Int32) = -1 then Y else if (0 : Int32) = 0 then (if nI v = (-1 : Int32) then X else Y) else if (-1 : Int32) < nI v then Y else X) = if False then X else Y := by
  rw [if_pos rfl, if_neg (fun h => h)]
/-- an item: the word's token, the places of a step, what stands behind -/
theorem rdItem (hP : v_isP p) (hr : r < 12) (h : gd N S L b t e q) (hX : plX N S p r kd z lw ot m nr fr F T C Kd A B) :
    ∃ N' S' x, fX4_readItem N p = rI x N' ∧ rItm kd S r = rV S' ∧ frP p N N' ∧ frQ r S S' ∧ ((x = 1 ∧ (∃ t' e' q', gd N' S' L b t' e' q' ∧ q ≤ e') ∧ plE N' S' p r) ∨ (x = 0 ∧ bd N' S')) := by
  have hpb := v_isP_b hP
  have hV := hX.1
  have hml := plV_lim hV
  have hk2 : kd ≤ 2 := hV.1
  have hz : z ≤ 12 := hV.2.1
  have c0 : N.1 p 0 = nI kd := hX.2.1.1
  have c1 : N.1 p 1 = nI z := hX.2.1.2.1
  have c4 : N.1 p 4 = nI m := hX.2.1.2.2.1
  have r3 : S.1 133 r = nI z := hX.2.2.1.2.1
  have r6 : S.1 136 r = nI m := hX.2.2.1.2.2.1
  have v12 : v_in (nI r) 12 = true := v_in_nI (by omega) (by decide)
  have e20 : ∀ k : Nat, (20 : Int32) * nI r + nI k = nI (20 * r + k) := fun k => by rw [show (20 : Int32) = nI 20 from rfl, nI_mul, nI_add]
  have hlim : lim kd ≤ 20 := by
    unfold lim
    split
    · decide
    · split <;> decide
  unfold fX4_readItem
  rw [c_most c0 hk2, bi_I, c4, rItm_16 hr hk2 r6 hml]
  by_cases hm : m = lim kd
  · have hb := mkbad h (k := 2) (by decide) (by decide)
    have nb := bd_b hb.2.2.1
    refine ⟨_, _, 0, ?_, ?_, frP_A hb.2.2.2.1, frQ_B hb.2.2.2.2, Or.inr ⟨rfl, hb.2.2.1⟩⟩
    · rw [if_neg (nI_nlt (by omega) (by omega)), show fX4_fail N 2 = rI 0 (v_si N 3 7 (nI 2)) from hb.1, bi_I, if_pos (show v_nz 0 = 0 by decide)]
    · rw [if_pos hm, show fX11_wrong S 2 = rV (v_si (v_si S 130 38 (nI 2)) 130 39 (nI e)) from hb.2.1, bv_V]
      unfold fX11_readStep_16 fX11_readItem_15
      rw [if_neg nb.1, if_neg nb.1, ite_self]
  · have hm' : m < lim kd := by omega
    have hm20 := lim_20 hm'
    obtain ⟨N1, S1, t1, e1, q1, a1, a2, a3, a4, a5, a6⟩ := adv h
    have hX1 := plX_AB hX (by omega) a3 a4
    have hee : e1 ≤ q1 := a5.1.2.2.2.2.2.2.2.2.2.2.2.2.2.1
    have n0 : N1.1 p = N.1 p := a3.2.1 p (by omega)
    rw [if_pos (nI_lt hm' (by omega)), a1, bv_V, n0, c0, if_neg hm, bv_V]
    by_cases hk : kd = 0
    · have h200 : v_in (nI (20 * r + m)) 240 = true := v_in_nI (by omega) (by decide)
      have hA0 : rwQ r 139 (20 * r + m) := Or.inr (Or.inl ⟨by omega, by omega, by omega⟩)
      have hA1 : rwQ r 140 (20 * r + m) := Or.inr (Or.inl ⟨by omega, by omega, by omega⟩)
      rw [if_pos (show nI kd = 0 by rw [hk]; rfl), if_pos hk, c1]
      unfold fX11_readStep_16
      rw [if_pos h.2.2, a2, bv_V, if_pos v12, if_pos v12, nI_clamp (n := r) (by omega), a4.2.1 133 (by decide), r3]
      obtain ⟨N2, S2, x2, y2, u1, u2, u3, u4, u5⟩ := rdOne a5 (n := z) (by omega) (P := fun _ => False) (x2 := -1) (x3 := -1) (y2 := -1) (y3 := 0) (fun v hv X Y => one_F hv X Y) (fun v _ X Y => two_F v X Y)
      generalize hQ : v_si S2 139 (20 * r + m) y2 = Q
      have Q6 : Q.1 136 r = nI m := by rw [← hQ, si_c (by decide), u4.2.1 136 (by decide), a4.2.1 136 (by decide)]; exact r6
      have Q3 : Q.1 133 r = nI z := by rw [← hQ, si_c (by decide), u4.2.1 133 (by decide), a4.2.1 133 (by decide)]; exact r3
      have Q9 : Q.1 139 (20 * r + m) = y2 := by rw [← hQ, si_s]
      have fQ : frQ r S Q := by rw [← hQ]; exact frQ_t (frQ_t (frQ_B a4) (frQ_B u4)) (frQ_s hA0)
      rw [u1, bi_I, u2, bi_I, a4.2.1 136 (by decide), r6, e20, if_pos h200, if_pos v12, if_pos v12, if_pos v12, nI_clamp (n := 20 * r + m) (by omega), hQ, Q6, e20, if_pos h200, Q3, nI_clamp (n := 20 * r + m) (by omega), Q9]
      rcases u5 with ⟨v, t2, e2, q2, rfl, rfl, v1, -, g1, g2⟩ | hbad
      · have gQ : gd N2 Q L b t2 e2 q2 := by rw [← hQ]; exact gd_Q g1 (by decide)
        have hee2 : e2 ≤ q2 := g1.1.2.2.2.2.2.2.2.2.2.2.2.2.2.1
        obtain ⟨N3, S3, x3, y3, w1, w2, w3, w4, w5⟩ := rdOne gQ (n := z) (by omega) (P := fun w => w ≤ v) (x2 := nI v) (x3 := -1) (y2 := nI v) (y3 := 1) (fun w hw X Y => by
          by_cases zz : w ≤ v
          · rw [if_pos (nI_le zz (by omega)), if_pos zz]
          · rw [if_neg (nI_ge (by omega) (by omega)), if_neg (nI_ne1 (by omega)), if_neg zz]) (fun w hw X Y => by
          rw [if_neg (nI_ne1 (by omega)), if_neg (by decide)]
          by_cases zz : w ≤ v
          · rw [if_neg (nI_nlt zz (by omega)), if_pos zz]
          · rw [if_pos (nI_lt (by omega) (by omega)), if_neg zz])
        have n2 : N2.1 p 1 = nI z := by rw [u3.2.1 p (by omega), n0]; exact c1
        generalize hU : v_si S3 140 (20 * r + m) y3 = U
        have fU : frQ r S U := by rw [← hU]; exact frQ_t (frQ_t fQ (frQ_B w4)) (frQ_s hA1)
        rw [if_pos g1.2.1, n2, w1, bi_I, w2, bi_I, if_pos h200, hU]
        unfold fX4_readItem_64
        rcases w5 with ⟨v', t3, e3, q3, rfl, rfl, v2, v3, g3, g4⟩ | hbad
        · have gU : gd N3 U L b t3 e3 q3 := by rw [← hU]; exact gd_Q g3 (by decide)
          have hee3 : e3 ≤ q3 := g3.1.2.2.2.2.2.2.2.2.2.2.2.2.2.1
          have hx : plX N3 U p r kd z lw ot m nr fr F T C Kd A B := by
            refine plX_c2 hX1 (fun c i1 i2 => by rw [w3.2.1 c (by omega), u3.2.1 c (by omega)]) (fun c j hj k1 k2 => ?_)
            have hc : c ≠ 130 := by
              unfold rwQ at hj
              omega
            rw [← hU]
            show (if c = 140 ∧ j = 20 * r + m then _ else S3.1 c j) = S1.1 c j
            rw [if_neg (by omega), w4.2.1 c hc, ← hQ]
            show (if c = 139 ∧ j = 20 * r + m then _ else S2.1 c j) = S1.1 c j
            rw [if_neg (by omega), u4.2.1 c hc]
          obtain ⟨N', S', x, j1, j2, j3, j4, j5⟩ := rdCost hP hr gU hx hm' (f := v) (g := v') (fun _ => ⟨by omega, v2⟩) (fun _ => ⟨by rw [← hU, si_c (by decide), w4.2.1 139 (by decide)]; exact Q9, by rw [← hU, si_s]⟩)
          refine ⟨N', S', x, j1, by rw [j2, bv_V], frP_t (frP_A (frA_t a3 (frA_t u3 w3))) j3, frQ_t fU j4, ?_⟩
          rcases j5 with ⟨k1, ⟨t', e', q', k2, k3⟩, k4⟩ | k1
          · exact Or.inl ⟨k1, ⟨t', e', q', k2, by omega⟩, k4⟩
          · exact Or.inr k1
        · have bU : bd N3 U := by rw [← hU]; exact bd_Q hbad (by decide)
          have nb := bd_b bU
          obtain ⟨S', j1, j2, j3⟩ := b_cost (S := U) hr nb.1 (by rw [← hU, si_c (by decide), w4.2.1 136 (by decide)]; exact Q6) hm20
          exact ⟨N3, S', 0, cb_65 nb.2 _ _, by rw [j1, bv_V], frP_A (frA_t a3 (frA_t u3 w3)), frQ_t fU j2, Or.inr ⟨rfl, bd_c bU rfl rfl (by rw [j3]) (by rw [j3])⟩⟩
      · have bQ : bd N2 Q := by rw [← hQ]; exact bd_Q hbad (by decide)
        have nb := bd_b bQ
        have bU : bd N2 (v_si Q 140 (20 * r + m) 0) := bd_Q bQ (by decide)
        obtain ⟨S', j1, j2, j3⟩ := b_cost (S := v_si Q 140 (20 * r + m) 0) hr (bd_b bU).1 (by rw [si_c (by decide)]; exact Q6) hm20
        refine ⟨N2, S', 0, ?_, ?_, frP_A (frA_t a3 u3), frQ_t (frQ_t fQ (frQ_s hA1)) j2, Or.inr ⟨rfl, bd_c bU rfl rfl (by rw [j3]) (by rw [j3])⟩⟩
        · rw [if_neg nb.2]
          unfold fX4_readItem_64
          exact cb_65 nb.2 _ _
        · rw [b_one nb.1, bi_I, if_pos h200, j1, bv_V]
    · rw [if_neg (show ¬ nI kd = 0 from fun zz => hk ((nI_eq (b := 0) (by omega) (by decide)).mp zz)), if_neg hk]
      unfold fX11_readItem_15
      obtain ⟨N', S', x, j1, j2, j3, j4, j5⟩ := rdCost hP hr a5 hX1 hm' (f := 0) (g := 0) (fun zz => absurd zz hk) (fun zz => absurd zz hk)
      refine ⟨N', S', x, j1, by rw [if_pos h.2.2, a2, bv_V, j2, bv_V], frP_t (frP_A a3) j3, frQ_t (frQ_B a4) j4, ?_⟩
      rcases j5 with ⟨k1, ⟨t', e', q', k2, k3⟩, k4⟩ | k1
      · exact Or.inl ⟨k1, ⟨t', e', q', k2, by omega⟩, k4⟩
      · exact Or.inr k1
end P55
