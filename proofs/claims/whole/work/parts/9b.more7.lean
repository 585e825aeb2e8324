section P53
variable {M N : vM} {i : Nat}
theorem flw_b0 {n m : Nat} {st en : Nat → Nat} {I : Nat → Int32} (hI : flw I st en m 0 n) (h : ∀ s, s < m → st s < en s) (hn : 0 < n) : I 0 = 1 := by
  rw [hI 0 hn, if_pos rfl, sI_0 m (fun s hs => if_neg (by have := h s hs; omega))]
  rfl
theorem flw_bn {n m : Nat} {st en : Nat → Nat} {O : Nat → Int32} (hO : flw O en st m (n - 1) n) (h : ∀ s, s < m → st s < en s ∧ en s < n) (hn : 0 < n) : O (n - 1) = 1 := by
  rw [hO (n - 1) (by omega), if_pos rfl, sI_0 m (fun s hs => if_neg (by have := h s hs; omega))]
  rfl
theorem Rel_36 (h : Rel M) (h2 : N.2 = M.2) (hc : ∀ c, c ≠ 37 → c ≠ 38 → c ≠ 36 → N.1 c = M.1 c) : Rel N :=
  Rel_congr h (by rw [h2]) (fun c hcc => hc c (by omega) (by omega) (by omega)) (fun j hj => by rw [hc 130 (by decide) (by decide) (by decide)]) (fun c _ _ => by rw [h2])
theorem r_mre {S : vM} {n m v : Nat} {st en : Nat → Nat} (hn : netF S i n m st en) (hi : i < 6) {I O : Nat → Int32} (hI : flw I st en m 0 n) (hO : flw O en st m (n - 1) n) (hv : v < 3) :
    ∃ N', fX11_more_39 FU S (nI i) (nI v) 0 = rI (if v = 0 then nI (pk2 (fun p q => I p * O q) n n 0 0 1).1 else if v = 1 then nI (pk2 (fun p q => I p * O q) n n 0 0 1).2 else S.1 145 i + I (pk2 (fun p q => I p * O q) n n 0 0 1).1 * O (pk2 (fun p q => I p * O q) n n 0 0 1).2) N' ∧ N'.2 = S.2 ∧ ∀ c, c ≠ 164 → c ≠ 165 → N'.1 c = S.1 c := by
  have hn12 := hn.n3
  obtain ⟨A1, a1, a2, a3, a4⟩ := r_39 hn hi (v := nI v) 12 FU 0 S (FU_lt (by omega)) rfl (fun _ _ _ => rfl) (fun p hp => absurd hp (Nat.not_lt_zero _))
  have hI0 := flw_b0 hI (fun s hs => (hn.s1 s hs).2.2.2.2.1) (by omega)
  have hOn := flw_bn hO (fun s hs => ⟨(hn.s1 s hs).2.2.2.2.1, (hn.s1 s hs).2.2.2.2.2⟩) (by omega)
  obtain ⟨A2, b1, b2, b3, b4⟩ := r_91 hn hi hI (v := nI v) (n - 1) FU 1 A1 (FU_lt (by omega)) (by omega) (Nat.le_refl 1) (fun c h1 h2 => a3 c (by omega) (by omega)) (fun p hp => by
    rw [show p = 0 by omega, (a4 0 (by omega)).1, if_pos rfl, hI0]) (fun p h1 h2 => by rw [(a4 p (by omega)).1, if_neg (by omega)])
  obtain ⟨A3, c1, c2, c3, c4⟩ := r_178 hn hi hO (v := nI v) (n - 1) FU A2 (FU_lt (by omega)) (by omega) (fun c h1 h2 => by
    by_cases z : c = 164
    · omega
    · rw [b3 c z, a3 c z (by omega)]) (fun p h1 h2 => by
    rw [show p = n - 1 by omega, b3 165 (by decide), (a4 (n - 1) (by omega)).2, if_pos rfl, hOn]) (fun p hp => by rw [b3 165 (by decide), (a4 p (by omega)).2, if_neg (by omega)])
  have e133 : A3.1 133 i = nI n := by rw [c3 133 (by decide), b3 133 (by decide), a3 133 (by decide) (by decide)]; exact hn.n2
  have e145 : A3.1 145 i = S.1 145 i := by rw [c3 145 (by decide), b3 145 (by decide), a3 145 (by decide) (by decide)]
  have e9 := r_p258 (N := A3) (v := v) e133 hn12.2 hi (I := I) (O := O) (fun p hp => by rw [c3 164 (by decide)]; exact b4 p hp) c4 hv n FU 0 0 1 (FU_lt (by omega)) (Nat.zero_add _) (by omega) (by omega)
  rw [e145] at e9
  refine ⟨A3, ?_, by rw [c2, b2, a2], fun c h1 h2 => by rw [c3 c h2, b3 c h1, a3 c h1 h2]⟩
  refine Eq.trans a1 ?_
  rw [show (1 : Int32) = nI 1 from rfl, b1, show nI n - 2 = nI (n - 1) - 1 by rw [show nI n - 2 = nI (n - 2) from nI_sub (b := 2) (by omega), show nI (n - 1) - 1 = nI (n - 1 - 1) from nI_sub (b := 1) (by omega)]; rfl, c1]
  exact e9
theorem netF_c {n m : Nat} {st en : Nat → Nat} {S : vM} (hn : netF M i n m st en) (hr : S.2.2 = M.2.2) (h1 : S.1 (qp M i) = M.1 (qp M i) ∧ S.1 (qp M i + 2) = M.1 (qp M i + 2) ∧ S.1 (qp M i + 3) = M.1 (qp M i + 3)) (h2 : S.1 133 = M.1 133 ∧ S.1 136 = M.1 136 ∧ S.1 139 = M.1 139 ∧ S.1 140 = M.1 140) : netF S i n m st en := by
  have eq : qp S i = qp M i := by show S.2.2 _ _ - 1 = _; rw [hr]; rfl
  unfold netF
  rw [eq, h1.1, h1.2.1, h1.2.2, h2.1, h2.2.1, h2.2.2.1, h2.2.2.2]
  exact hn
theorem o21 (h : Rel M) (x y : Int32) : okS (fun K => gWr (fL_more M x y) (fun M1 => fX11_more M1 x y) K) := by
  unfold fL_more
  rcases isWk h x with ⟨a, b⟩ | ⟨i, hi, rfl⟩
  · refine fin_f1 h (by unfold fX10_more; rw [a]; rfl) rfl ?_
    unfold fX11_more
    rw [b (v_si M 130 1 0) rfl, bi_I, if_pos rfl]
    rfl
  have h6 : i < 6 := by have := h.W1.2.1; omega
  have v12 : v_in (nI i) 12 = true := v_in_nI (by omega) (by decide)
  have hwk := h.wk hi
  rcases wWhat (M := M) (x := y) (n := 3) (by decide) with ⟨a, b⟩ | ⟨v, hv, rfl⟩
  · refine fin_f1 h (by unfold fX10_more; rw [wOf h hi, br_R, show (3 : Int32) = nI 3 from rfl, a]; rfl) rfl ?_
    unfold fX11_more
    rw [rOf (c0 h) hi, bi_I, if_neg (by decide), if_pos v12]
    split
    · rw [rWhat3 b, bi_I, if_pos rfl]
      rfl
    · rfl
  obtain ⟨hP, -⟩ := qp_P h.pl.1 h6
  have hpb := v_isP_b hP
  have hk0 : M.1 (qp M i) 0 = M.1 132 i := hwk.1.1
  by_cases hk : M.1 132 i = 0
  · have hn := wkNet hwk hk
    generalize hnn : qN (M.1 133 i) = n at hn
    generalize hst : (fun s => qN (M.1 139 (20 * i + s))) = st at hn
    generalize hen : (fun s => qN (M.1 140 (20 * i + s))) = en at hn
    generalize hmm : qit M i = m at hn
    have hn12 := hn.n3
    have hlt : ∀ s, s < m → st s < en s ∧ en s < n := fun s hs => (hn.s1 s hs).2.2.2.2
    have hI := flw_ex (st := st) (en := en) (m := m) (b := 0) (n := n) id (fun s hs => (hlt s hs).1) (fun p hp => hp) (fun s hs => by have := hlt s hs; omega)
    have hO := flw_ex (st := en) (en := st) (m := m) (b := n - 1) (n := n) (fun p => n - 1 - p) (fun s hs => by show n - 1 - en s < n - 1 - st s; have := hlt s hs; omega) (fun p hp => by show n - 1 - p < n; omega) (fun s hs => (hlt s hs).2)
    have hO1 : flN en st m (n - 1) n 1 ≤ 2 ^ 20 := Nat.le_trans (flN_le (fun p => n - 1 - p) (fun s hs => by show n - 1 - en s < n - 1 - st s; have := hlt s hs; omega) n 1) (Nat.pow_le_pow_right (by decide) (Nat.le_trans (fb_ct_le _ _) hn.m3))
    have hI0 := flw_b0 hI (fun s hs => (hlt s hs).1) (by omega)
    have h0 : 0 ≤ nI (flN st en m 0 n 0) * nI (flN en st m (n - 1) n 1) := by
      rw [show nI (flN st en m 0 n 0) = 1 from hI0, Int32.one_mul]
      exact nI_le (a := 0) (Nat.zero_le _) (by omega)
    obtain ⟨N1, a1, a2, a3, a4, a5, a6⟩ := c_seek hn hP hI hO h0
    generalize hz : (if v = 0 then N1.1 36 2 else if v = 1 then N1.1 36 3 else M.1 145 i + N1.1 36 4 : Int32) = z
    have hr : fX10_more M (nI i) (nI v) = rI z N1 := by
      unfold fX10_more
      rw [wOf h hi, br_R, show fX10_refuseUnlessWhat M (nI v) 3 = rV M from wWhatY (n := 3) hv (by decide), bv_V, show M.2.2 (qw i) 0 - 1 = qp M i from rfl, hk0, if_pos hk, a1, bv_V, a3 (qw i) (by show 46 + 15 * i ≠ 37; omega) (by show 46 + 15 * i ≠ 38; omega) (by show 46 + 15 * i ≠ 36; omega), (wkC hwk).1, ← (wkC hwk).2.2, ← hz]
      rcases (show v = 0 ∨ v = 1 ∨ v = 2 by omega) with rfl | rfl | rfl <;> rfl
    have hR1 := Rel_36 h a2 a3
    generalize hS : v_si (v_sl N1 174 0 z.toInt64) 130 1 0 = S
    have hRS : Rel S := by rw [← hS]; exact c0 (Rel_sl hR1 (by omega))
    have so : ∀ c, c ≠ 37 → c ≠ 38 → c ≠ 36 → c ≠ 130 → S.1 c = M.1 c := fun c h1 h2 h3 h4 => by rw [← hS, si_c h4]; exact a3 c h1 h2 h3
    have hiS : i < qW S := by show i < qN (S.1 130 2); rw [← hS, si_n (by decide)]; show i < qN (N1.1 130 2); rw [a3 130 (by decide) (by decide) (by decide)]; exact hi
    have hnS : netF S i n m st en := netF_c hn (by rw [← hS]; show N1.2.2 = _; rw [a2]) ⟨so _ (by omega) (by omega) (by omega) (by omega), so _ (by omega) (by omega) (by omega) (by omega), so _ (by omega) (by omega) (by omega) (by omega)⟩ ⟨so _ (by decide) (by decide) (by decide) (by decide), so _ (by decide) (by decide) (by decide) (by decide), so _ (by decide) (by decide) (by decide) (by decide), so _ (by decide) (by decide) (by decide) (by decide)⟩
    obtain ⟨N2, b1, b2, b3⟩ := r_mre hnS h6 hI hO hv
    have hR2 : Rel N2 := Rel_congr hRS (by rw [b2]) (fun c hc => b3 c (by omega) (by omega)) (fun j hj => by rw [b3 130 (by decide) (by decide)]) (fun c _ _ => by rw [b2])
    refine fin_val hr ?_ (M2 := N2) ?_ ?_ hR2
    · unfold fX11_more
      rw [hS, rOf hRS hiS, bi_I, if_neg (by decide), if_pos v12, nI_clamp (show i < 2 ^ 31 by omega), so 132 (by decide) (by decide) (by decide) (by decide), if_pos hk, show fX11_isIn S (nI v) 0 2 = rI 1 S from e_isIn1 (a := 0) (b := 2) (Nat.zero_le _) (by omega) (by decide), bi_I, if_neg (by decide), b1, so 145 (by decide) (by decide) (by decide) (by decide), ← hz, a4, a5, a6]
    · rw [b3 130 (by decide) (by decide), ← hS, si_s]
    · rw [b2, ← hS]
      rfl
  · refine fin_f1 h (by unfold fX10_more; rw [wOf h hi, br_R, show fX10_refuseUnlessWhat M (nI v) 3 = rV M from wWhatY (n := 3) hv (by decide), bv_V, show M.2.2 (qw i) 0 - 1 = qp M i from rfl, hk0, if_neg hk]) rfl ?_
    unfold fX11_more
    rw [rOf (c0 h) hi, bi_I, if_neg (by decide), if_pos v12, nI_clamp (show i < 2 ^ 31 by omega), if_neg (show ¬ (v_si M 130 1 0).1 132 i = 0 from hk)]
    rfl
end P53
