section P60
variable {M N S V : vM} {i : Nat}
def sdN (s : Int32) : Int32 := s * 1103515245 + 12345
def rmN (s : Int32) : Int32 := ((sdN s >>> ((16 : Int32) &&& 31)) &&& 32767) - ((sdN s >>> ((16 : Int32) &&& 31)) &&& 32767) / 1000 * 1000
theorem r_draw {s : Int32} (h : S.1 130 50 = s) : fX11_draw S 1000 = rI (rmN s) (v_si S 130 50 (sdN s)) := by
  unfold fX11_draw
  rw [if_neg (by decide), si_s, h]
  rfl
theorem agR_50 {x : Int32} (h : agR S V) : agR (v_si S 130 50 x) V :=
  ⟨fun c h1 h2 h3 => by rw [si_c (by omega)]; exact h.1 c h1 h2 h3, fun j hj => by rw [si_n (by omega)]; exact h.2 j hj⟩
/-- one year of both -/
theorem l_74 {ch : Int32} {x1 x4 x9 : Int32} {w : Nat} (hw : w ≤ 6) : ∀ (e j : Nat) (N V : vM) (a b c s : Int32), j + e = w → Rel V → qW V = w → agC N V →
    ∃ N' V' a' b' c' s', (∀ (k36 : vM → Int32 → Int32 → Int32 → Int32 → Int32 → Int32 → Int32 → Int32 → Option (vR × vM)) (f : Nat), e < f → fX10_drawn_45 k36 f N x1 ch x4 a b c s x9 (nI j) = k36 N' x1 ch x4 a' b' c' s' (x9 + 1)) ∧ Rel V' ∧ qW V' = w ∧ agC N' V' ∧ (∀ d, 130 ≤ d → N'.1 d = N.1 d) ∧
      ∀ S, agR S V → S.1 130 50 = s → ∃ S', (∀ (k65 : vM → Int32 → Int32 → Int32 → Int32 → Int32 → Int32 → Int32 → Option (vR × vM)) (f : Nat), e < f → fX11_drawn_74 k65 f S x1 ch x4 a b c x9 (nI j) = k65 S' x1 ch x4 a' b' c' (x9 + 1)) ∧ agR S' V' ∧ S'.1 130 50 = s' ∧ S'.2 = S.2 ∧ (∀ d, d < 130 ∨ 158 ≤ d → S'.1 d = S.1 d) ∧ S'.1 130 1 = S.1 130 1 := by
  intro e
  induction e with
  | zero =>
    intro j N V a b c s hj hR hq ha
    obtain rfl : j = w := by omega
    refine ⟨N, V, a, b, c, s, fun k36 f hf => ?_, hR, hq, ha, fun _ _ => rfl, fun S hS h50 => ⟨S, fun k65 f hf => ?_, hS, h50, rfl, fun _ _ => rfl, rfl⟩⟩
    · cases f with
      | zero => exact absurd hf (Nat.not_lt_zero _)
      | succ f =>
        unfold fX10_drawn_45
        rw [ha.1 0 (by decide), hR.W1.2.2, hq, if_pos (nI_le (Nat.le_refl _) (by omega))]
    · cases f with
      | zero => exact absurd hf (Nat.not_lt_zero _)
      | succ f =>
        unfold fX11_drawn_74
        rw [hS.2 2 (by omega), hR.W1.1, hq, if_pos (nI_le (Nat.le_refl _) (by omega))]
  | succ e ih =>
    intro j N V a b c s hj hR hq ha
    have hjw : j < qW V := by omega
    have c45 : ∀ (k36 : vM → Int32 → Int32 → Int32 → Int32 → Int32 → Int32 → Int32 → Int32 → Option (vR × vM)) (f : Nat), fX10_drawn_45 k36 (f + 1) N x1 ch x4 a b c s x9 (nI j) = if ch ≤ rmN s then fX10_drawn_45 k36 f N x1 ch x4 a b c (sdN s) x9 (nI (j + 1)) else bi (fX10_doCheapest N (nI j)) fun y13 M14 => if y13 = ((-1)) then fX10_drawn_104 (fX10_drawn_45 k36 f) M14 x1 ch x4 a b (sdN s) x9 (nI j) y13 c 1 else fX10_drawn_104 (fX10_drawn_45 k36 f) M14 x1 ch x4 a b (sdN s) x9 (nI j) y13 c 0 := fun k36 f => by
      rw [fX10_drawn_45, ha.1 0 (by decide), hR.W1.2.2, if_neg (nI_ge hjw (by omega)), rnd_eq, nI_1]
      rfl
    have c74 : ∀ (S : vM) (k65 : vM → Int32 → Int32 → Int32 → Int32 → Int32 → Int32 → Int32 → Option (vR × vM)) (f : Nat), agR S V → S.1 130 50 = s → fX11_drawn_74 k65 (f + 1) S x1 ch x4 a b c x9 (nI j) = if rmN s < ch then bi (fX11_leftAt (v_si S 130 50 (sdN s)) (nI j) 0) fun y22 M23 => if y22 = ((-1)) then fX11_drawn_74 k65 f M23 x1 ch x4 a b (c + 1) x9 (nI (j + 1)) else bi (fX11_enter M23 (nI j) y22) fun y27 M28 => if y27 = 0 then fX11_drawn_74 k65 f M28 x1 ch x4 a b (c + 1) x9 (nI (j + 1)) else if v_in ((2000 * (nI j)) + y22) 12000 = true then fX11_drawn_74 k65 f M28 x1 ch x4 (a + (M28.1 146 (Int32.toNatClampNeg ((2000 * (nI j)) + y22)))) (b + 1) c x9 (nI (j + 1)) else none else fX11_drawn_74 k65 f (v_si S 130 50 (sdN s)) x1 ch x4 a b c x9 (nI (j + 1)) := fun S k65 f hS h50 => by
      rw [fX11_drawn_74, hS.2 2 (by omega), hR.W1.1, if_neg (nI_ge hjw (by omega)), r_draw h50, bi_I, nI_1]
    by_cases q : ch ≤ rmN s
    · obtain ⟨N', V', a', b', c', s', y1, y2, y3, y4, y5, y6⟩ := ih (j + 1) N V a b c (sdN s) (by omega) hR hq ha
      refine ⟨N', V', a', b', c', s', fun k36 f hf => ?_, y2, y3, y4, y5, fun S hS h50 => ?_⟩
      · cases f with
        | zero => exact absurd hf (Nat.not_lt_zero _)
        | succ f =>
          rw [c45, if_pos q]
          exact y1 k36 f (by omega)
      · obtain ⟨S', z1, z2, z3, z4, z5, z6⟩ := y6 (v_si S 130 50 (sdN s)) (agR_50 hS) si_s
        refine ⟨S', fun k65 f hf => ?_, z2, z3, z4, fun d hd => by rw [z5 d hd, si_c (by omega)], by rw [z6, si_n (by decide)]⟩
        cases f with
        | zero => exact absurd hf (Nat.not_lt_zero _)
        | succ f =>
          rw [c74 S k65 f hS h50, if_neg (Int32.not_lt.mpr q)]
          exact z1 k65 f (by omega)
    · obtain ⟨y, N1, V1, d1, d2, d3, d4, d5, d6⟩ := dr_step hR hjw ha
      by_cases qy : y = -1
      · obtain ⟨N', V', a', b', c', s', y1, y2, y3, y4, y5, y6⟩ := ih (j + 1) N1 V1 a b (c + 1) (sdN s) (by omega) d2 (by rw [d3]; exact hq) d4
        refine ⟨N', V', a', b', c', s', fun k36 f hf => ?_, y2, y3, y4, fun d hd => by rw [y5 d hd, d5 d hd], fun S hS h50 => ?_⟩
        · cases f with
          | zero => exact absurd hf (Nat.not_lt_zero _)
          | succ f =>
            rw [c45, if_neg q, d1, bi_I, if_pos qy]
            unfold fX10_drawn_104 fX10_drawn_120
            rw [if_pos qy, if_pos qy, Int32.add_zero, Int32.add_zero, nI_1]
            exact y1 k36 f (by omega)
        · rcases d6 _ (agR_50 (x := sdN s) hS) with ⟨-, g2, g3⟩ | ⟨g1, -⟩
          · obtain ⟨S', z1, z2, z3, z4, z5, z6⟩ := y6 (v_si S 130 50 (sdN s)) g3 si_s
            refine ⟨S', fun k65 f hf => ?_, z2, z3, z4, fun d hd => by rw [z5 d hd, si_c (by omega)], by rw [z6, si_n (by decide)]⟩
            cases f with
            | zero => exact absurd hf (Nat.not_lt_zero _)
            | succ f =>
              rw [c74 S k65 f hS h50, if_pos (Int32.not_le.mp q)]
              rcases g2 with g2 | ⟨u, u1, u2, u3⟩
              · rw [g2, bi_I, if_pos rfl]
                exact z1 k65 f (by omega)
              · rw [u1, bi_I, if_neg u2, u3, bi_I, if_pos rfl]
                exact z1 k65 f (by omega)
          · exact absurd qy g1
      · obtain ⟨N', V', a', b', c', s', y1, y2, y3, y4, y5, y6⟩ := ih (j + 1) N1 V1 (a + y) (b + 1) c (sdN s) (by omega) d2 (by rw [d3]; exact hq) d4
        refine ⟨N', V', a', b', c', s', fun k36 f hf => ?_, y2, y3, y4, fun d hd => by rw [y5 d hd, d5 d hd], fun S hS h50 => ?_⟩
        · cases f with
          | zero => exact absurd hf (Nat.not_lt_zero _)
          | succ f =>
            rw [c45, if_neg q, d1, bi_I, if_neg qy]
            unfold fX10_drawn_104 fX10_drawn_120
            rw [if_neg qy, if_neg qy, Int32.add_zero, nI_1]
            exact y1 k36 f (by omega)
        · rcases d6 _ (agR_50 (x := sdN s) hS) with ⟨g1, -⟩ | ⟨-, u, S1, u1, u2, u3, u4, u5, u6, u7, u8, u9⟩
          · exact absurd g1 qy
          · obtain ⟨S', z1, z2, z3, z4, z5, z6⟩ := y6 S1 u6 (by rw [u9 50 (by decide), si_s])
            refine ⟨S', fun k65 f hf => ?_, z2, z3, by rw [z4, u7]; rfl, fun d hd => by rw [z5 d hd, u8 d hd, si_c (by omega)], by rw [z6, u9 1 (by decide), si_n (by decide)]⟩
            cases f with
            | zero => exact absurd hf (Nat.not_lt_zero _)
            | succ f =>
              rw [c74 S k65 f hS h50, if_pos (Int32.not_le.mp q), u1, bi_I, if_neg u2, u4, bi_I, if_neg (by decide), e_ix, if_pos (v_in_nI (by omega) (by decide)), nI_clamp (by omega), u5]
              exact z1 k65 f (by omega)
/-- all the years -/
theorem l_65 {ch : Int32} {Y w : Nat} (hY : Y ≤ 100) (hw : w ≤ 6) {v : Int32} : ∀ (e y : Nat) (N V : vM) (a b c s : Int32), y + e = Y → Rel V → qW V = w → agC N V →
    ∃ N' V' z, (∀ f, e < f → fX10_drawn_36 f N (nI Y) ch v a b c s (nI y) = rI z N') ∧ Rel V' ∧ agC N' V' ∧ (∀ d, 130 ≤ d → N'.1 d = N.1 d) ∧
      ∀ S, agR S V → S.1 130 50 = s → ∃ S', (∀ f, e < f → fX11_drawn_65 f S (nI Y) ch v a b c (nI y) = rI z S') ∧ agR S' V' ∧ S'.2 = S.2 ∧ (∀ d, d < 130 ∨ 158 ≤ d → S'.1 d = S.1 d) ∧ S'.1 130 1 = S.1 130 1 := by
  intro e
  induction e with
  | zero =>
    intro y N V a b c s hy hR hq ha
    obtain rfl : y = Y := by omega
    refine ⟨N, V, if v = 0 then a else if v = 1 then b else c, fun f hf => ?_, hR, ha, fun _ _ => rfl, fun S hS h50 => ⟨S, fun f hf => ?_, hS, rfl, fun _ _ => rfl, rfl⟩⟩
    · cases f with
      | zero => exact absurd hf (Nat.not_lt_zero _)
      | succ f =>
        unfold fX10_drawn_36
        rw [if_pos (nI_le (Nat.le_refl _) (by omega))]
        by_cases q : v = 0
        · rw [if_pos q, if_pos q]
        · rw [if_neg q, if_neg q]
          by_cases q2 : v = 1
          · rw [if_pos q2, if_pos q2]
          · rw [if_neg q2, if_neg q2]
    · cases f with
      | zero => exact absurd hf (Nat.not_lt_zero _)
      | succ f =>
        unfold fX11_drawn_65
        rw [if_pos (nI_le (Nat.le_refl _) (by omega))]
        by_cases q : v = 0
        · rw [if_pos q, if_pos q]
        · rw [if_neg q, if_neg q]
          by_cases q2 : v = 1
          · rw [if_pos q2, if_pos q2]
          · rw [if_neg q2, if_neg q2]
  | succ e ih =>
    intro y N V a b c s hy hR hq ha
    obtain ⟨N1, V1, a', b', c', s', x1, x2, x3, x4, x5, x6⟩ := l_74 (ch := ch) (x1 := nI Y) (x4 := v) (x9 := nI y) hw w 0 N V a b c s (Nat.zero_add _) hR hq ha
    obtain ⟨N', V', z, y1, y2, y3, y4, y5⟩ := ih (y + 1) N1 V1 a' b' c' s' (by omega) x2 x3 x4
    refine ⟨N', V', z, fun f hf => ?_, y2, y3, fun d hd => by rw [y4 d hd, x5 d hd], fun S hS h50 => ?_⟩
    · cases f with
      | zero => exact absurd hf (Nat.not_lt_zero _)
      | succ f =>
        unfold fX10_drawn_36
        rw [if_neg (nI_ge (by omega) (by omega))]
        refine Eq.trans (x1 (fX10_drawn_36 f) 8 (by omega)) ?_
        rw [nI_1]
        exact y1 f (by omega)
    · obtain ⟨S1, t1, t2, t3, t4, t5, t6⟩ := x6 S hS h50
      obtain ⟨S', z1, z2, z3, z4, z5⟩ := y5 S1 t2 t3
      refine ⟨S', fun f hf => ?_, z2, by rw [z3, t4], fun d hd => by rw [z4 d hd, t5 d hd], by rw [z5, t6]⟩
      cases f with
      | zero => exact absurd hf (Nat.not_lt_zero _)
      | succ f =>
        unfold fX11_drawn_65
        rw [if_neg (nI_ge (by omega) (by omega))]
        refine Eq.trans (t1 (fX11_drawn_65 f) FU (FU_lt (by omega))) ?_
        rw [nI_1]
        exact z1 f (by omega)
theorem o24 (h : Rel M) (x y s z : Int32) : okS (fun K => gWr (fL_drawn M x y s z) (fun M1 => fX11_drawn M1 x y s z) K) := by
  unfold fL_drawn
  rcases wWhat (M := M) (x := z) (n := 3) (by decide) with ⟨a, b⟩ | ⟨v, hv, rfl⟩
  · refine fin_f1 h (by unfold fX10_drawn; rw [show (3 : Int32) = nI 3 from rfl, a]; rfl) rfl ?_
    unfold fX11_drawn
    rw [rWhat3 b, bi_I, if_pos rfl]
    rfl
  have w3 : fX10_refuseUnlessWhat M (nI v) 3 = rV M := wWhatY (n := 3) hv (by decide)
  have i3 : ∀ S : vM, fX11_isIn S (nI v) 0 2 = rI 1 S := fun S => e_isIn1 (a := 0) (b := 2) (Nat.zero_le _) (by omega) (by decide)
  rcases wWithin (M := M) (x := x) (a := 1) (b := 100) (by decide) (by decide) with ⟨a, b⟩ | ⟨Y, hY1, hY, rfl⟩
  · refine fin_f2 h (by unfold fX10_drawn; rw [w3, bv_V, show fX10_refuseUnlessWithin M x 1 100 = rT 2 M from a]; rfl) rfl ?_
    unfold fX11_drawn
    rw [i3, bi_I, if_neg (by decide), show fX11_isIn (v_si M 130 1 0) x 1 100 = rI 0 (v_si M 130 1 0) from b _, bi_I, if_pos rfl]
    rfl
  have wY : fX10_refuseUnlessWithin M (nI Y) 1 100 = rV M := wWithinY (a := 1) (b := 100) hY1 hY (by decide)
  have iY : ∀ S : vM, fX11_isIn S (nI Y) 1 100 = rI 1 S := fun S => e_isIn1 (a := 1) (b := 100) hY1 hY (by decide)
  rcases wWithin (M := M) (x := y) (a := 0) (b := 1000) (by decide) (by decide) with ⟨a, b⟩ | ⟨ch, -, hch, rfl⟩
  · refine fin_f2 h (by unfold fX10_drawn; rw [w3, bv_V, wY, bv_V, show fX10_refuseUnlessWithin M y 0 1000 = rT 2 M from a]; rfl) rfl ?_
    unfold fX11_drawn
    rw [i3, bi_I, if_neg (by decide), iY, bi_I, if_neg (by decide), show fX11_isIn (v_si M 130 1 0) y 0 1000 = rI 0 (v_si M 130 1 0) from b _, bi_I, if_pos rfl]
    rfl
  obtain ⟨N', V', q, y1, y2, y3, y4, y5⟩ := l_65 (ch := nI ch) (v := nI v) hY h.W1.2.1 Y 0 M M 0 0 0 s (Nat.zero_add _) h rfl ⟨fun _ _ => rfl, rfl⟩
  have hr : fX10_drawn M (nI Y) (nI ch) s (nI v) = rI q N' := by
    unfold fX10_drawn
    rw [w3, bv_V, wY, bv_V, show fX10_refuseUnlessWithin M (nI ch) 0 1000 = rV M from wWithinY (a := 0) (b := 1000) (Nat.zero_le _) hch (by decide), bv_V]
    exact y1 102 (by omega)
  generalize hS : v_si (v_sl N' 174 0 q.toInt64) 130 1 0 = S
  have s1 : ∀ c, c ≠ 130 → S.1 c = N'.1 c := fun c hc => by rw [← hS, si_c hc]; rfl
  have sR : agR (v_si S 130 50 s) M := ⟨fun c h1 h2 h3 => by rw [si_c (by omega), s1 c (by omega), y4 c (by omega)], fun j hj => by
    rw [si_n (by omega), ← hS, si_n (by omega)]
    show N'.1 130 j = _
    rw [y4 130 (by decide)]⟩
  obtain ⟨S', z1, z2, z3, z4, z5⟩ := y5 (v_si S 130 50 s) sR si_s
  have hR2 : Rel S' := Rel_ag y2 (fun c hc => by rw [z4 c (Or.inl hc), si_c (by omega), s1 c (by omega), y3.1 c hc]) z2 (by rw [z3, ← hS]; show N'.2.2 = _; rw [y3.2]) (fun c h1 h2 => by rw [z3, ← hS]; show (v_sl N' 174 0 q.toInt64).2.1 c = _; rw [sl_c (by omega), y3.2])
  refine fin_val hr ?_ (M2 := S') ?_ ?_ hR2
  · unfold fX11_drawn
    rw [hS, i3, bi_I, if_neg (by decide), iY, bi_I, if_neg (by decide), show fX11_isIn S (nI ch) 0 1000 = rI 1 S from e_isIn1 (a := 0) (b := 1000) (Nat.zero_le _) hch (by decide), bi_I, if_neg (by decide)]
    exact z1 FU (FU_lt (by omega))
  · rw [z5, si_n (by decide), ← hS, si_s]
  · rw [z3, ← hS]
    rfl
end P60
