section P61
variable {M M' N N' S S' : vM} {i : Nat}
theorem plan_dis : ((List.range 12).all fun x => (List.range 12).all fun y => decide (v_plan x = v_plan y) || decide (v_plan x + 5 < v_plan y ∨ v_plan y + 5 < v_plan x)) = true := by decide +kernel
theorem isP_dis {p p' : Nat} (h : v_isP p) (h' : v_isP p') (ne : p ≠ p') : p + 5 < p' ∨ p' + 5 < p := by
  obtain ⟨x, hx, rfl⟩ := h
  obtain ⟨y, hy, rfl⟩ := h'
  have h1 := List.all_eq_true.mp (List.all_eq_true.mp plan_dis x (List.mem_range.mpr hx)) y (List.mem_range.mpr hy)
  rw [Bool.or_eq_true, decide_eq_true_eq, decide_eq_true_eq] at h1
  exact h1.resolve_left ne
theorem sp_P {a : Nat} (h : v_WT M.2.2) (ha : a < 6) : v_isP (sp M a) ∧ M.2.2 4 a = sp M a + 1 := by
  obtain ⟨x, h1, h2⟩ := h.2.1 a ha
  unfold sp
  rw [h1]
  exact ⟨h2, rfl⟩
theorem qpl_w (M : vM) {a : Nat} (ha : a < 6) : qpl M a = M.2.2 (qw a) 0 := if_pos ha
theorem qpl_s (M : vM) (a : Nat) : qpl M (6 + a) = M.2.2 4 a := by
  unfold qpl
  rw [if_neg (by omega), Nat.add_sub_cancel_left]
theorem spK_of (h : rPl M) : spK M := by
  refine ⟨fun a ha => (sp_P h.1 ha).1, fun a c ha hc hac => isP_dis (sp_P h.1 ha).1 (sp_P h.1 hc).1 (fun z => hac ?_)⟩
  have e := h.2 (6 + a) (6 + c) (by omega) (by omega) (by rw [qpl_s, qpl_s, (sp_P h.1 ha).2, (sp_P h.1 hc).2, z])
  omega
theorem qp_sp (h : rPl M) (hi : i < 6) {a : Nat} (ha : a < 6) : qp M i + 5 < sp M a ∨ sp M a + 5 < qp M i := by
  refine isP_dis (qp_P h.1 hi).1 (sp_P h.1 ha).1 (fun z => ?_)
  have e := h.2 i (6 + a) (by omega) (by omega) (by rw [qpl_w M hi, qpl_s, (qp_P h.1 hi).2, (sp_P h.1 ha).2, z])
  omega
theorem qp_qp (h : rPl M) (hi : i < 6) {a : Nat} (ha : a < 6) (hia : i ≠ a) : qp M i + 5 < qp M a ∨ qp M a + 5 < qp M i := by
  refine isP_dis (qp_P h.1 hi).1 (qp_P h.1 ha).1 (fun z => hia ?_)
  exact h.2 i a (by omega) (by omega) (by rw [qpl_w M hi, qpl_w M ha, (qp_P h.1 hi).2, (qp_P h.1 ha).2, z])
/-- a work, place by place -/
theorem rWk_c2 (h : rWk M i) (e0 : qp M' i = qp M i) (hp : ∀ t, t ≤ 5 → M'.1 (qp M i + t) = M.1 (qp M i + t)) (hw : M'.1 (qw i) = M.1 (qw i)) (hw8 : M'.1 (qw i + 8) = M.1 (qw i + 8)) (hl : M'.2.1 (qw i + 7) = M.2.1 (qw i + 7))
    (h7 : ∀ c, 132 ≤ c → c < 139 → M'.1 c i = M.1 c i) (h20 : ∀ c j, 139 ≤ c → c < 142 → j < 20 → M'.1 c (20 * i + j) = M.1 c (20 * i + j)) (h5 : M'.1 145 i = M.1 145 i) (h2k : ∀ c k, 146 ≤ c → c < 149 → k < 1458 → M'.1 c (2000 * i + k) = M.1 c (2000 * i + k)) : rWk M' i := by
  have hcc := (wkC h).2.1
  have eit : qit M' i = qit M i := by unfold qit; rw [h7 136 (by decide) (by decide)]
  have eC : qC M' i = qC M i := by unfold qC; rw [h5]
  have p0 := hp 0 (by decide)
  rw [Nat.add_zero] at p0
  obtain ⟨⟨a1, a2⟩, ⟨b1, b2⟩, ⟨c1, c2⟩, ⟨d1, d2, d3⟩, ⟨f1, f2, f3, f4⟩, g1, k1, l1, m1, ⟨n1, n2⟩, ⟨o1, o2⟩, q1, r1⟩ := h
  have hm20 : qit M i ≤ 20 := f2.2
  have k7 := fun c i1 i2 => h7 c i1 i2
  refine ⟨⟨?_, ?_⟩, ⟨?_, ?_⟩, ⟨?_, ?_⟩, ⟨?_, ?_, ?_⟩, ⟨?_, ?_, ?_, ?_⟩, ?_, fun j hj => ?_, fun hk => ⟨?_, fun j hj => ?_⟩, ?_, ⟨?_, ?_⟩, ⟨fun k hk => ?_, fun j k hjk hk => ?_⟩, fun k hk => ?_, ?_⟩
  · rw [e0, p0, h7 132 (by decide) (by decide)]; exact a1
  · rw [h7 132 (by decide) (by decide)]; exact a2
  · rw [e0, p0, h7 133 (by decide) (by decide)]; exact b1
  · rw [h7 133 (by decide) (by decide)]; exact b2
  · rw [e0, p0, h7 134 (by decide) (by decide)]; exact c1
  · rw [h7 134 (by decide) (by decide)]; exact c2
  · rw [e0, p0, h7 135 (by decide) (by decide)]; exact d1
  · rw [h7 135 (by decide) (by decide)]; exact d2
  · rw [h7 134 (by decide) (by decide), h7 135 (by decide) (by decide)]; exact d3
  · rw [e0, p0, h7 136 (by decide) (by decide)]; exact f1
  · rw [h7 136 (by decide) (by decide)]; exact f2
  · rw [h7 132 (by decide) (by decide), eit]; exact f3
  · rw [h7 132 (by decide) (by decide), eit]; exact f4
  · rw [e0, p0, h7 137 (by decide) (by decide)]; exact g1
  · rw [eit] at hj
    rw [e0, hp 1 (by decide), h20 141 j (by decide) (by decide) (by omega)]
    exact k1 j hj
  · rw [h7 133 (by decide) (by decide)]
    exact (l1 (by rw [← h7 132 (by decide) (by decide)]; exact hk)).1
  · rw [eit] at hj
    rw [e0, hp 2 (by decide), hp 3 (by decide), h20 139 j (by decide) (by decide) (by omega), h20 140 j (by decide) (by decide) (by omega), h7 133 (by decide) (by decide)]
    exact (l1 (by rw [← h7 132 (by decide) (by decide)]; exact hk)).2 j hj
  · rw [hw, h7 132 (by decide) (by decide), h7 137 (by decide) (by decide), eit]; exact m1
  · rw [hw, h5]; exact n1
  · rw [h5]; exact n2
  · rw [eC] at hk
    have x1 := h2k 146 k (by decide) (by decide) (by omega)
    have x2 := h2k 147 k (by decide) (by decide) (by omega)
    have y1 : qco M' i k = qco M i k := by unfold qco; rw [x1]
    have y2 : qmk M' i k = qmk M i k := by unfold qmk; rw [x2]
    rw [x1, x2, hl, y1, y2, h7 132 (by decide) (by decide), eit]
    exact o1 k hk
  · rw [eC] at hk
    have y1 : qmk M' i j = qmk M i j := by unfold qmk; rw [h2k 147 j (by decide) (by decide) (by omega)]
    have y2 : qmk M' i k = qmk M i k := by unfold qmk; rw [h2k 147 k (by decide) (by decide) (by omega)]
    rw [y1, y2]
    exact o2 j k hjk hk
  · rw [eC] at hk
    rw [hw8, h2k 148 k (by decide) (by decide) (by omega)]
    exact q1 k hk
  · rw [hw, eC, r1]
    refine congrArg nI (fb_ct_cong (fun k hk => ?_))
    rw [h2k 148 k (by decide) (by decide) (by omega)]
/-- what a text's reading touches is nothing that the works, the book and the image rest on -/
theorem Rel_town0 (h : Rel M) (h0 : M'.2.2 = M.2.2) (hl : ∀ c, 40 ≤ c → c < 130 → M'.2.1 c = M.2.1 c) (hc : ∀ c, (6 ≤ c ∧ c < 24 ∨ 145 ≤ c ∧ c < 157 ∨ 166 ≤ c ∧ c < 174) → M'.1 c = M.1 c)
    (hp : ∀ c, 40 ≤ c → c < 130 → (∀ a, a < 6 → c < sp M a ∨ sp M a + 5 < c) → M'.1 c = M.1 c) (hr : ∀ c j, 132 ≤ c → c < 145 → (∀ a, a < 6 → ¬ rwQ (6 + a) c j) → M'.1 c j = M.1 c j)
    (h00 : ∀ j, j ≠ 13 → M'.1 0 j = M.1 0 j) (hm : ∀ j, j = 2 ∨ j = 21 ∨ j = 51 ∨ j = 52 → M'.1 130 j = M.1 130 j) (hf : M'.1 0 13 = M'.1 130 40) (ht : M'.1 1 1 = 0) (ht2 : M'.1 130 31 = 0) : Rel M' := by
  have eW : qW M' = qW M := by simp only [qW, hm 2 (by simp)]
  have hW6 : qW M ≤ 6 := h.wks.2.2
  refine ⟨rPl_congr h.pl h0, ⟨?_, ?_, ?_, fun j hj => ?_⟩, hf, ⟨?_, ?_⟩, fun a ha => ?_, ?_, ?_, ?_, fun h1 => ?_⟩
  · rw [ht2]; decide
  · rw [ht2]; decide
  · rw [ht, ht2]
  · rw [ht2, show qN 0 = 0 by decide] at hj
    omega
  · rw [h00 12 (by decide), hm 2 (by simp)]; exact h.wks.1
  · rw [hm 2 (by simp)]; exact h.wks.2
  · rw [eW] at ha
    have ha6 : a < 6 := by omega
    have hP := qp_P h.pl.1 ha6
    have hpb := v_isP_b hP.1
    have hqa : qw a = 46 + 15 * a := rfl
    have nq : ∀ t, t = 0 ∨ t = 8 → ∀ c, c < 6 → qw a + t < sp M c ∨ sp M c + 5 < qw a + t := fun t ht9 c hc9 => by
      have hs := (sp_P h.pl.1 hc9).1
      have n0 := plan_ne hs 0 (by decide) a ha6
      have n1 := plan_ne hs 1 (by decide) a ha6
      have n2 := plan_ne hs 2 (by decide) a ha6
      have n3 := plan_ne hs 3 (by decide) a ha6
      have n4 := plan_ne hs 4 (by decide) a ha6
      have n5 := plan_ne hs 5 (by decide) a ha6
      omega
    refine rWk_c2 (h.wk ha) (by unfold qp; rw [h0]) (fun t ht9 => hp _ (by omega) (by omega) (fun c hc9 => ?_)) (hp _ (by omega) (by omega) (nq 0 (Or.inl rfl))) (hp _ (by omega) (by omega) (nq 8 (Or.inr rfl))) (hl _ (by omega) (by omega)) (fun c i1 i2 => hr c a i1 (by omega) (fun d hd => by unfold rwQ; omega)) (fun c j i1 i2 i3 => hr c _ (by omega) (by omega) (fun d hd => by unfold rwQ; omega)) (by rw [hc 145 (by omega)]) (fun c k i1 i2 _ => by rw [hc c (by omega)])
    have := qp_sp h.pl ha6 hc9
    omega
  · rw [eW]
    exact rLed_congr h.led (fun j hj => hc _ (by omega)) (fun j hj => hc _ (by omega)) (hm 21 (by simp)) (hc 145 (by omega))
  · rw [h00 14 (by decide), hm 51 (by simp)]; exact h.img.1
  · rw [hm 51 (by simp)]; exact h.img.2.1
  · rw [hm 51 (by simp)] at h1
    rw [eW]
    exact rLed_congr (h.img.2.2 h1) (fun j hj => hc _ (by omega)) (fun j hj => hc _ (by omega)) (hm 52 (by simp)) (hc 145 (by omega))
end P61
