section P26
variable {M N : vM} {i : Nat}
/-- the law's list of a work in a memory that says the same of it -/
theorem lsW_g {A B : Nat → Nat → Int32} (h : ∀ c, c = 134 ∨ c = 135 ∨ c = 145 ∨ c = 147 ∨ c = 148 ∨ c = qw i → A c = B c) (m : Nat) : lsW A i m = lsW B i m := by
  have e1 : smB A i = smB B i := by
    funext j k
    simp only [smB, h 134 (by omega), h 135 (by omega), h 147 (by omega), h (qw i) (by omega)]
  have e2 : g0 A i = g0 B i := by
    funext k
    simp only [g0, h 148 (by omega)]
  unfold lsW
  rw [e1, e2, h 145 (by omega)]
theorem yrC_g {c : Int32} {m : Nat} {co co' : Nat → Int32} (h : ∀ w, w < m → co w = co' w) : ∀ n S a, yrC c m co n S a = yrC c m co' n S a := by
  have e : ∀ S n, n ≤ m → sgC c m S co n = sgC c m S co' n := by
    intro S n
    induction n with
    | zero => intro _; rfl
    | succ n ih =>
      intro hn
      show sgC c m S co n + _ * (co n).toInt64 = sgC c m S co' n + _ * (co' n).toInt64
      rw [ih (by omega), h n (by omega)]
  intro n
  induction n with
  | zero => intro S a; rfl
  | succ n ih =>
    intro S a
    show yrC c m co n _ (a + sgC c m S co m) = yrC c m co' n _ (a + sgC c m S co' m)
    rw [e S m (Nat.le_refl _), ih]
theorem o17 (h : Rel M) (x y z : Int32) : okS (fun K => gWr (fL_chance M x y z) (fun M1 => fX11_chance M1 x y z) K) := by
  unfold fL_chance
  rcases isWk h x with ⟨a, b⟩ | ⟨i, hi, rfl⟩
  · refine fin_f1 h (by unfold fX10_chance; rw [a]; rfl) rfl ?_
    unfold fX11_chance
    rw [b (v_si M 130 1 0) rfl, bi_I, if_pos rfl]
    rfl
  have h6 : i < 6 := by have := h.W1.2.1; omega
  rcases wWithin (M := M) (x := y) (a := 0) (b := 1000) (by decide) (by decide) with ⟨a, b⟩ | ⟨c, -, hc, rfl⟩
  · refine fin_f2 h (by unfold fX10_chance; rw [wOf h hi, br_R, show (0 : Int32) = nI 0 from rfl, show (1000 : Int32) = nI 1000 from rfl, a]; rfl) rfl ?_
    unfold fX11_chance
    rw [rOf (c0 h) hi, bi_I, if_neg (by decide), show fX11_isIn (v_si M 130 1 0) y 0 1000 = rI 0 _ from b _, bi_I, if_pos rfl]
    rfl
  rcases wWithin (M := M) (x := z) (a := 0) (b := 100) (by decide) (by decide) with ⟨a, b⟩ | ⟨Y, -, hY, rfl⟩
  · refine fin_f2 h (by unfold fX10_chance; rw [wOf h hi, br_R, show fX10_refuseUnlessWithin M (nI c) 0 1000 = rV M from wWithinY (a := 0) (b := 1000) (Nat.zero_le _) hc (by decide), bv_V, show fX10_refuseUnlessWithin M z 0 100 = rT 2 M from a]; rfl) rfl ?_
    unfold fX11_chance
    rw [rOf (c0 h) hi, bi_I, if_neg (by decide), show fX11_isIn (v_si M 130 1 0) (nI c) 0 1000 = rI 1 _ from e_isIn1 (a := 0) (b := 1000) (Nat.zero_le _) hc (by decide), bi_I, if_neg (by decide), show fX11_isIn (v_si M 130 1 0) z 0 100 = rI 0 _ from b _, bi_I, if_pos rfl]
    rfl
  have hcc := wkC (h.wk hi)
  obtain ⟨N1, a1, a2, a3, a4, -, -, a7⟩ := c_follow h hi (most := 100) (by decide)
  generalize hl : lsW M.1 i 100 = l at a4 a7
  have hlen : l.length ≤ 100 := by rw [← hl]; exact (lsF_len _ _ _ _ _).2
  have hmem : ∀ w, w ∈ l → w < 2000 := fun w hw => by
    rw [← hl] at hw
    have := lsW_lt hw
    have := hcc.2.1
    unfold qC at this
    omega
  have hR1 := Rel_scr h a2 a3
  obtain ⟨N2, b1, b2, b3, b4⟩ := c_expected (N := N1) (c := nI c) hlen hY (cost := fun w => M.1 146 (2000 * i + l.getD w 0)) a4 (fun w hw => a7 w (by omega) hw)
  generalize hz : Int64.toInt32 (yrC (nI c) l.length (fun w => M.1 146 (2000 * i + l.getD w 0)) Y S0 0 / 1000000) = zz at b1
  have hR2 : Rel N2 := Rel_congr hR1 b3 (fun c _ => by rw [b2]) (fun j _ => by rw [b2]) (fun c h1 h2 => b4 c (by omega))
  have hr : fX10_chance M (nI i) (nI c) (nI Y) = rI zz N2 := by
    unfold fX10_chance
    rw [wOf h hi, br_R, show fX10_refuseUnlessWithin M (nI c) 0 1000 = rV M from wWithinY (a := 0) (b := 1000) (Nat.zero_le _) hc (by decide), bv_V, show fX10_refuseUnlessWithin M (nI Y) 0 100 = rV M from wWithinY (a := 0) (b := 100) (Nat.zero_le _) hY (by decide), bv_V, show (100 : Int32) = nI 100 from rfl, a1, bv_V, b1, bi_I]
  generalize hS : v_si (v_sl N2 174 0 zz.toInt64) 130 1 0 = S
  have hRS : Rel S := by rw [← hS]; exact c0 (Rel_sl hR2 (by omega))
  have n1o : ∀ c, c ≠ 24 → c ≠ 25 → c ≠ 26 → c ≠ 130 → S.1 c = M.1 c := fun c h1 h2 h3 h4 => by rw [← hS, si_c h4]; show N2.1 c = _; rw [b2]; exact a3 c h1 h2 h3
  have hiS : i < qW S := by show i < qN (S.1 130 2); rw [← hS, si_n (by decide)]; show i < qN (N2.1 130 2); rw [b2, a3 130 (by decide) (by decide) (by decide)]; exact hi
  have elS : lsW S.1 i 100 = l := by
    have hq : qw i = 46 + 15 * i := rfl
    rw [← hl]
    exact lsW_g (fun c hcq => n1o c (by omega) (by omega) (by omega) (by omega)) 100
  obtain ⟨N3, d1, d2, d3, d4, d5, d6⟩ := r_lasts hRS hiS (most := 100) (by decide)
  rw [elS] at d5 d6
  obtain ⟨N4, e1, e2, e3, e4, e5⟩ := r_56 (x1 := nI i) (c := nI c) (x3 := nI Y) 101 FU 0 N3 (FU_lt (by decide)) rfl (fun j hj => absurd hj (Nat.not_lt_zero _))
  obtain ⟨N5, f1, f2, f3, f4⟩ := r_92 (c := nI c) (m := l.length) (Y := Y) hlen hY (cost := fun w => M.1 146 (2000 * i + l.getD w 0)) (idx := fun w => l.getD w 0) h6 Y FU 0 N4 S0 0 (FU_lt (by omega)) (Nat.zero_add _) (by rw [e2]; exact d5) (fun w hw => ⟨by rw [e2]; exact d6 w hw, hmem _ (getD_mem l w 0 hw), by rw [e2, d3 146 (by decide) (by decide) (by decide), n1o 146 (by decide) (by decide) (by decide) (by decide)]⟩) e5
  have hN5 : N5.1 = N3.1 := by rw [f2, e2]
  have hR5 : Rel N5 := Rel_congr hRS (by rw [f3, e3, d2]) (fun c hc => by rw [hN5]; exact d3 c (by omega) (by omega) (by omega)) (fun j hj => by rw [hN5]; exact d4 j (by omega)) (fun c _ _ => by rw [f4 c (by omega) (by omega), e4 c (by omega), d2])
  refine fin_val hr ?_ (M2 := N5) ?_ ?_ hR5
  · unfold fX11_chance
    rw [hS, rOf hRS hiS, bi_I, if_neg (by decide), show fX11_isIn S (nI c) 0 1000 = rI 1 _ from e_isIn1 (a := 0) (b := 1000) (Nat.zero_le _) hc (by decide), bi_I, if_neg (by decide), show fX11_isIn S (nI Y) 0 100 = rI 1 _ from e_isIn1 (a := 0) (b := 100) (Nat.zero_le _) hY (by decide), bi_I, if_neg (by decide), show (100 : Int32) = nI 100 from rfl, d1, bv_V]
    rw [← hz]
    exact e1.trans f1
  · rw [hN5, d4 1 (by decide), ← hS, si_s]
  · rw [f4 174 (by decide) (by decide), e4 174 (by decide), d2, ← hS]
    rfl
end P26
