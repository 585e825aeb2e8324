section P54
variable {N S : vM} {L t e q p r kd z lw ot m nr fr : Nat} {b F T C Kd A B : Nat → Nat}
theorem cb_84 (h : ¬ N.1 3 7 = 0) (x2 x3 s : Int32) : fX4_readItem_84 N p x2 x3 s = rI 0 N := by
  unfold fX4_readItem_84 fX4_readItem_106 fX4_readItem_107 fX4_readItem_118
  rw [if_neg h, if_pos (show (0 : Int32) = 0 from rfl), if_neg h]
theorem cb_65 (h : ¬ N.1 3 7 = 0) (x2 x3 : Int32) : fX4_readItem_65 N p x2 x3 = rI 0 N := by
  unfold fX4_readItem_65
  rw [if_neg h, cb_84 h]
theorem c_addI (hP : v_isP p) (hm : m < 20) (h4 : N.1 p 4 = nI m) (h6 : N.1 p 6 = nI fr) (x1 x2 x3 fl : Int32) : ∃ N', fX3_addItem N p x1 x2 x3 fl = rV N' ∧ N'.2 = N.2 ∧ ∀ d j, N'.1 d j = if d = p ∧ j = 4 then nI (m + 1) else if d = p ∧ j = 6 then nI (if fl = 0 then fr else fr ||| 2 ^ m) else if d = p + 1 ∧ j = m then x3 else if d = p + 2 ∧ j = m then x1 else if d = p + 3 ∧ j = m then x2 else N.1 d j := by
  have hb := v_isP_b hP
  have l1 : (v_LAY (p + 1)).2.2 = 20 := by rw [(v_LP hP).2.2.1.1]
  have l2 : (v_LAY (p + 2)).2.2 = 20 := by rw [(v_LP hP).2.2.1.2.1]
  have l3 : (v_LAY (p + 3)).2.2 = 20 := by rw [(v_LP hP).2.2.1.2.2.1]
  unfold fX3_addItem
  rw [h4, e_put l2 hm (by decide), bv_V, si_c (show p ≠ p + 2 by omega), h4, e_put l3 hm (by decide), bv_V, si_c (show p ≠ p + 3 by omega), si_c (show p ≠ p + 2 by omega), h4, e_put l1 hm (by decide), bv_V]
  generalize hQ : v_si (v_si (v_si N (p + 2) m x1) (p + 3) m x2) (p + 1) m x3 = Q
  have q4 : Q.1 p 4 = nI m := by rw [← hQ, si_c (by omega), si_c (by omega), si_c (by omega)]; exact h4
  have q6 : Q.1 p 6 = nI fr := by rw [← hQ, si_c (by omega), si_c (by omega), si_c (by omega)]; exact h6
  have qx : ∀ d j, Q.1 d j = if d = p + 1 ∧ j = m then x3 else if d = p + 3 ∧ j = m then x2 else if d = p + 2 ∧ j = m then x1 else N.1 d j := fun d j => by rw [← hQ]; rfl
  have qy : ∀ d j, Q.1 d j = if d = p + 1 ∧ j = m then x3 else if d = p + 2 ∧ j = m then x1 else if d = p + 3 ∧ j = m then x2 else N.1 d j := fun d j => by
    rw [qx]
    by_cases z1 : d = p + 2 ∧ j = m
    · rw [if_neg (show ¬ (d = p + 3 ∧ j = m) by omega), if_pos z1, if_pos z1]
    · rw [if_neg z1, if_neg z1]
  by_cases z : fl = 0
  · refine ⟨v_si Q p 4 (nI (m + 1)), ?_, by rw [← hQ]; rfl, fun d j => ?_⟩
    · rw [if_pos z, q4, nI_1]
    · show (if d = p ∧ j = 4 then nI (m + 1) else Q.1 d j) = _
      rw [if_pos z]
      by_cases z1 : d = p ∧ j = 6
      · rw [if_neg (show ¬ (d = p ∧ j = 4) by omega), if_neg (show ¬ (d = p ∧ j = 4) by omega), if_pos z1, z1.1, z1.2, q6]
      · rw [if_neg z1, qy]
  · refine ⟨v_si (v_si Q p 6 (nI (fr ||| 2 ^ m))) p 4 (nI (m + 1)), ?_, by rw [← hQ]; rfl, fun d j => ?_⟩
    · rw [if_neg z, q4, q6, sh1 m (by omega), fa_or, si_n (by decide), q4, nI_1]
    · show (if d = p ∧ j = 4 then nI (m + 1) else if d = p ∧ j = 6 then nI (fr ||| 2 ^ m) else Q.1 d j) = _
      rw [if_neg z, qy]
def lim (kd : Nat) : Nat := if kd = 0 then 20 else if kd = 1 then 12 else 6
theorem lim_20 (h : m < lim kd) : m < 20 := by
  unfold lim at h
  split at h
  · exact h
  · split at h <;> omega
/-- what stands behind an item's word and places: a cost, perhaps free, the sign -/
theorem rdCost (hP : v_isP p) (hr : r < 12) (h : gd N S L b t e q) (hX : plX N S p r kd z lw ot m nr fr F T C Kd A B) (hm : m < lim kd) {f g : Nat} (hfg : kd = 0 → f < g ∧ g < z) (hS2 : kd = 0 → S.1 139 (20 * r + m) = nI f ∧ S.1 140 (20 * r + m) = nI g) :
    ∃ N' S' x, fX4_readItem_65 N p (nI f) (nI g) = rI x N' ∧ fX11_readCost S (nI r) = rV S' ∧ frP p N N' ∧ frQ r S S' ∧ ((x = 1 ∧ (∃ t' e' q', gd N' S' L b t' e' q' ∧ q ≤ e') ∧ plE N' S' p r) ∨ (x = 0 ∧ bd N' S')) := by
  have hb := v_isP_b hP
  have hm20 := lim_20 hm
  have v12 : v_in (nI r) 12 = true := v_in_nI (by omega) (by decide)
  have v240 : v_in (nI (20 * r + m)) 240 = true := v_in_nI (by omega) (by decide)
  have e20 : (20 : Int32) * nI r + nI m = nI (20 * r + m) := by rw [show (20 : Int32) = nI 20 from rfl, nI_mul, nI_add]
  have s6 : S.1 136 r = nI m := hX.2.2.1.2.2.1
  have sf : S.1 137 r = nI fr := hX.2.2.1.2.2.2.1
  have c4 : N.1 p 4 = nI m := hX.2.1.2.2.1
  have c6 : N.1 p 6 = nI fr := hX.2.1.2.2.2.2.1
  have hfr : fr < 1048576 := hX.1.2.2.2.1
  have hR6 : rwQ r 136 r := Or.inl ⟨by omega, rfl⟩
  have hR7 : rwQ r 137 r := Or.inl ⟨by omega, rfl⟩
  have hR1 : rwQ r 141 (20 * r + m) := Or.inr (Or.inl ⟨by omega, by omega, by omega⟩)
  obtain ⟨N1, S1, x, y, a1, a2, a3, a4, a5⟩ := rdNum h (lo := 0) (hi := 999) (by decide) (by decide)
  have e1 : fX4_readItem_65 N p (nI f) (nI g) = fX4_readItem_84 N1 p (nI f) (nI g) x := by
    unfold fX4_readItem_65
    rw [if_pos h.2.1, show fX4_readNumber N 0 999 = rI x N1 from a1, bi_I]
  generalize hQ : v_si S1 141 (20 * r + m) y = Q
  have fQ : frQ r S Q := by rw [← hQ]; exact frQ_t (frQ_B a4) (frQ_s hR1)
  have Q6 : Q.1 136 r = nI m := by rw [← hQ, si_c (by decide), a4.2.1 136 (by decide)]; exact s6
  have e2 : fX11_readCost S (nI r) = bi (fX11_passes Q 12) fun y20 M21 => if y20 = 0 then fX11_readCost_50 M21 (nI r) else if v_in (nI r) 12 = true then if v_in (nI r) 12 = true then if v_in (nI r) 12 = true then fX11_readCost_50 (v_si M21 137 (Int32.toNatClampNeg (nI r)) ((M21.1 137 (Int32.toNatClampNeg (nI r))) ||| (1 <<< ((M21.1 136 (Int32.toNatClampNeg (nI r))) &&& (31 : Int32))))) (nI r) else none else none else none := by
    unfold fX11_readCost
    rw [if_pos v12, show fX11_readNumber S 0 999 = rI y S1 from a2, bi_I, nI_clamp (n := r) (by omega), s6, e20, if_pos v240, nI_clamp (n := 20 * r + m) (by omega), hQ]
  have e50 : ∀ M : vM, M.1 136 r = nI m → fX11_readCost_50 M (nI r) = bv (fX11_semi (v_si M 136 r (nI (m + 1)))) fun M11 => rV M11 := fun M hM => by
    unfold fX11_readCost_50
    rw [if_pos v12, if_pos v12, nI_clamp (n := r) (by omega), hM, nI_1]
  rw [e1, e2]
  rcases a5 with ⟨v, t1, e1', q1, rfl, rfl, -, hv, hg, hq⟩ | hbad
  · have hgQ : gd N1 Q L b t1 e1' q1 := by rw [← hQ]; exact gd_Q hg (by decide)
    -- the end, behind a free one or not
    have fin : ∀ (N2 S2 : vM) (fl : Int32) (t2 e2 q2 : Nat), (fl = 0 ∨ fl = 1) → gd N2 S2 L b t2 e2 q2 → q ≤ e2 → frA N N2 → frQ r S S2 → (∀ d j, d ≠ 130 → S2.1 d j = if d = 137 ∧ j = r then nI (if fl = 0 then fr else fr ||| 2 ^ m) else if d = 141 ∧ j = 20 * r + m then nI v else S.1 d j) →
        ∃ N' S' x, fX4_readItem_118 N2 p (nI f) (nI g) (nI v) fl = rI x N' ∧ fX11_readCost_50 S2 (nI r) = rV S' ∧ frP p N N' ∧ frQ r S S' ∧ ((x = 1 ∧ (∃ t' e' q', gd N' S' L b t' e' q' ∧ q ≤ e') ∧ plE N' S' p r) ∨ (x = 0 ∧ bd N' S')) := by
      intro N2 S2 fl t2 e2 q2 hfl hg2 hq2 hA hF hS
      have m2 : S2.1 136 r = nI m := by rw [hS 136 r (by decide), if_neg (by omega), if_neg (by omega)]; exact s6
      obtain ⟨N3, S3, x, u1, u2, u3, u4, u5⟩ := rdSemi (gd_Q (j := r) (c := 136) (x := nI (m + 1)) hg2 (by decide))
      have hee : e2 ≤ q2 := hg2.1.2.2.2.2.2.2.2.2.2.2.2.2.2.1
      have hA3 : frA N N3 := frA_t hA u3
      have hF3 : frQ r S S3 := frQ_t (frQ_t hF (frQ_s hR6)) (frQ_B u4)
      have e3 : fX11_readCost_50 S2 (nI r) = rV S3 := by rw [e50 S2 m2, u2, bv_V]
      rcases u5 with ⟨rfl, t3, e3', q3, g1, g2⟩ | ⟨rfl, g1⟩
      · obtain ⟨N4, w1, w2, w3⟩ := c_addI (N := N3) (fr := fr) hP hm20 (by rw [hA3.2.1 p (by omega)]; exact c4) (by rw [hA3.2.1 p (by omega)]; exact c6) (nI f) (nI g) (nI v) fl
        have n4 : ∀ d, (d < p ∨ p + 5 < d) → ∀ j, N4.1 d j = N3.1 d j := fun d hd j => by
          rw [w3 d j, if_neg (by omega), if_neg (by omega), if_neg (by omega), if_neg (by omega), if_neg (by omega)]
        refine ⟨N4, S3, 1, ?_, e3, ⟨w2.trans hA3.1, fun c a d => ?_, ?_⟩, hF3, Or.inl ⟨rfl, ⟨t3, e3', q3, ?_, by omega⟩, ?_⟩⟩
        · unfold fX4_readItem_118
          rw [if_pos hg2.2.1, u1, bi_I, if_neg (show ¬ (1 : Int32) = 0 by decide), w1, bv_V]
        · rw [← hA3.2.1 c a]
          funext j
          exact n4 c d j
        · rw [n4 3 (by omega) 8]
          exact hA3.2.2
        · exact gd_c g1 (fun j _ => n4 3 (by omega) j) (funext (n4 2 (by omega))) (fun _ _ _ => rfl) rfl
        · refine ⟨kd, z, lw, ot, m + 1, nr, (if fl = 0 then fr else fr ||| 2 ^ m), put1 F m f, put1 T m g, put1 C m v, Kd, A, B, plX_add hX hm hv ?_ hfg (fun d j h1 h2 => ?_) (fun d j h1 h2 => ?_) (fun hk => ?_)⟩
          · split
            · exact hfr
            · exact or20 hfr (by omega)
          · rw [w3 d j, hA3.2.1 d (by omega)]
          · have hd : d ≠ 130 := by
              unfold rwQ at h1
              omega
            rw [u4.2.1 d hd]
            show (if d = 136 ∧ j = r then nI (m + 1) else S2.1 d j) = _
            rw [hS d j hd]
          · rw [u4.2.1 139 (by decide), si_c (by decide), hS 139 _ (by decide), if_neg (by omega), if_neg (by omega), u4.2.1 140 (by decide), si_c (by decide), hS 140 _ (by decide), if_neg (by omega), if_neg (by omega)]
            exact hS2 hk
      · refine ⟨N3, S3, 0, ?_, e3, frP_A hA3, hF3, Or.inr ⟨rfl, g1⟩⟩
        unfold fX4_readItem_118
        rw [if_pos hg2.2.1, u1, bi_I, if_pos rfl]
    have hQx : ∀ d j, d ≠ 130 → Q.1 d j = if d = 141 ∧ j = 20 * r + m then nI v else S.1 d j := fun d j hd => by
      rw [← hQ]
      show (if d = 141 ∧ j = 20 * r + m then nI v else S1.1 d j) = _
      rw [a4.2.1 d hd]
    have eis := c_isW hg.1 (id := 12) (by decide)
    have ris := r_isW hgQ (id := 12) (by decide)
    unfold fX4_readItem_84
    rw [if_pos hg.2.1, eis, bi_I]
    unfold fX11_passes
    rw [ris, bi_I]
    by_cases hw : wdB b t1 e1' q1 12 = true
    · obtain ⟨N2, S2, t2, e2', q2, b1, b2, b3, b4, b5, b6⟩ := adv hgQ
      have hee : e1' ≤ q1 := hg.1.2.2.2.2.2.2.2.2.2.2.2.2.2.1
      rw [if_pos hw, if_neg (show ¬ (1 : Int32) = 0 by decide), if_neg (show ¬ (1 : Int32) = 0 by decide), b2, bv_V, if_pos v_nz1, bi_I, if_neg (show ¬ (1 : Int32) = 0 by decide), if_pos v12, if_pos v12, if_pos v12, nI_clamp (n := r) (by omega)]
      unfold fX4_readItem_107
      rw [if_neg (show ¬ (1 : Int32) = 0 by decide), b1, bv_V, b4.2.1 137 (by decide), b4.2.1 136 (by decide), Q6, hQx 137 r (by decide), if_neg (by omega), sf, sh1 m (by omega), fa_or]
      refine fin N2 (v_si S2 137 r (nI (fr ||| 2 ^ m))) 1 t2 e2' q2 (Or.inr rfl) (gd_Q b5 (by decide)) (by omega) (frA_t a3 b3) (frQ_t (frQ_t fQ (frQ_B b4)) (frQ_s hR7)) (fun d j hd => ?_)
      show (if d = 137 ∧ j = r then nI (fr ||| 2 ^ m) else S2.1 d j) = _
      rw [if_neg (show ¬ (1 : Int32) = 0 by decide), b4.2.1 d hd, hQx d j hd]
    · rw [if_neg hw, if_pos (show (0 : Int32) = 0 from rfl), if_pos (show (0 : Int32) = 0 from rfl), if_pos (show v_nz 0 = 0 by decide), bi_I, if_pos (show (0 : Int32) = 0 from rfl)]
      unfold fX4_readItem_106 fX4_readItem_107
      rw [if_pos (show (0 : Int32) = 0 from rfl)]
      refine fin N1 Q 0 t1 e1' q1 (Or.inl rfl) hgQ hq a3 fQ (fun d j hd => ?_)
      rw [hQx d j hd, if_pos (show (0 : Int32) = 0 from rfl)]
      by_cases z1 : d = 137 ∧ j = r
      · rw [if_pos z1, if_neg (by omega), z1.1, z1.2, sf]
      · rw [if_neg z1]
  · have hbQ : bd N1 Q := by rw [← hQ]; exact bd_Q hbad (by decide)
    have nb := bd_b hbQ
    have hbU : bd N1 (v_si Q 136 r (nI (m + 1))) := bd_Q hbQ (by decide)
    refine ⟨N1, v_si Q 136 r (nI (m + 1)), 0, cb_84 nb.2 _ _ _, ?_, frP_A a3, frQ_t fQ (frQ_s hR6), Or.inr ⟨rfl, hbU⟩⟩
    rw [b_pass nb.1, bi_I, if_pos rfl, e50 Q Q6, b_semi (bd_b hbU).1, bv_V]
end P54
