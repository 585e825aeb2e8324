section P11
variable {M M' : vM} {i : Nat}
theorem cnt_ct (p : Nat → Prop) [DecidablePred p] : ∀ n k, fb_ct (fun k => decide (p k)) (k + n) = fb_ct (fun k => decide (p k)) k + cntF p n k
  | 0, k => rfl
  | n + 1, k => by
    have h := cnt_ct p n (k + 1)
    rw [show k + (n + 1) = k + 1 + n by omega, h, fb_ct_succ]
    show _ = _ + ((if p k then 1 else 0) + cntF p n (k + 1))
    by_cases q : p k
    · rw [if_pos q, if_pos (decide_eq_true q), Nat.add_assoc]
    · rw [if_neg q, if_neg (by simp [q]), Nat.add_assoc]
theorem cnt_ct0 (p : Nat → Prop) [DecidablePred p] (n : Nat) : fb_ct (fun k => decide (p k)) n = cntF p n 0 := by
  have h := cnt_ct p n 0
  rw [Nat.zero_add] at h
  rw [h]
  exact Nat.zero_add _
theorem l_leftOf (h : rWk M i) (hi : i < 6) : ∀ (n f k s : Nat), n < f → k + n = qC M i → fX11_leftOf_4 f M (nI i) (nI s) (nI k) = rI (nI (s + cntF (fun k => M.1 148 (2000 * i + k) = 0) n k)) M := by
  have hc := wkC h
  intro n
  induction n with
  | zero =>
    intro f k s hf hk
    cases f with
    | zero => exact absurd hf (Nat.not_lt_zero _)
    | succ f =>
      unfold fX11_leftOf_4
      rw [if_pos (v_in_nI hi (by decide)), nI_clamp (by omega), hc.2.2, if_pos (nI_le (by omega) (by omega))]
      rfl
  | succ n ih =>
    intro f k s hf hk
    cases f with
    | zero => exact absurd hf (Nat.not_lt_zero _)
    | succ f =>
      unfold fX11_leftOf_4 cntF
      rw [if_pos (v_in_nI hi (by decide)), nI_clamp (by omega), hc.2.2, if_neg (nI_ge (by omega) (by omega)), e_ix, if_pos (r_in hi (by omega)), nI_clamp (by omega)]
      by_cases q : M.1 148 (2000 * i + k) = 0
      · rw [if_pos q, if_pos q, nI_1, nI_1, ih f (k + 1) (s + 1) (by omega) (by omega), Nat.add_assoc]
      · rw [if_neg q, if_neg q, nI_1, show nI s + 0 = nI s from nI_add s 0, ih f (k + 1) s (by omega) (by omega), Nat.zero_add]
/-- how many are left -/
def sCnt (A : Nat → Nat → Int32) (i : Nat) : Nat := cntF (fun k => A 148 (2000 * i + k) = 0) (qN (A 145 i)) 0
theorem r_leftOf (h : rWk M i) (hi : i < 6) : fX11_leftOf M (nI i) = rI (nI (sCnt M.1 i)) M := by
  have hc := (wkC h).2.1
  have e := l_leftOf h hi (qC M i) FU 0 0 (FU_lt (by omega)) (Nat.zero_add _)
  rw [Nat.zero_add] at e
  exact e
theorem c_unspent (h : rWk M i) : M.1 (qw i) 2 = nI (sCnt M.1 i) := by
  obtain ⟨-, -, -, -, -, -, -, -, -, -, -, -, un⟩ := h
  rw [un, cnt_ct0]
  rfl
theorem l_bookedOf (h : Rel M) (w : Int32) : ∀ (n f k s : Nat), n < f → k + n = qB M → fX1_bookedOf_4 f M 6 w (nI s) (nI k) = rI (nI (s + cntF (fun k => M.1 149 k = w) n k)) M := by
  have hb := h.B1
  intro n
  induction n with
  | zero =>
    intro f k s hf hk
    cases f with
    | zero => exact absurd hf (Nat.not_lt_zero _)
    | succ f =>
      unfold fX1_bookedOf_4
      rw [hb.2.2, if_pos (nI_le (by omega) (by omega))]
      rfl
  | succ n ih =>
    intro f k s hf hk
    cases f with
    | zero => exact absurd hf (Nat.not_lt_zero _)
    | succ f =>
      have l1 := (h.led.2.1 k (by show k < qB M; omega)).1
      unfold fX1_bookedOf_4 fX1_bookWork cntF
      rw [hb.2.2, if_neg (nI_ge (by omega) (by omega)), e_at (len := 400) rfl (by omega) (by decide), bi_I, bi_I, show M.1 (6 + 1) k = M.1 149 k from l1]
      by_cases q : M.1 149 k = w
      · rw [if_pos q, if_pos q, nI_1, nI_1, ih f (k + 1) (s + 1) (by omega) (by omega), Nat.add_assoc]
      · rw [if_neg q, if_neg q, nI_1, ih f (k + 1) s (by omega) (by omega), Nat.zero_add]
theorem l_doneOf (h : Rel M) (w : Int32) : ∀ (n f k s : Nat), n < f → k + n = qB M → fX11_doneOf_4 f M w (nI s) (nI k) = rI (nI (s + cntF (fun k => M.1 149 k = w) n k)) M := by
  have hb := h.B1
  intro n
  induction n with
  | zero =>
    intro f k s hf hk
    cases f with
    | zero => exact absurd hf (Nat.not_lt_zero _)
    | succ f =>
      unfold fX11_doneOf_4
      rw [hb.1, if_pos (nI_le (by omega) (by omega))]
      rfl
  | succ n ih =>
    intro f k s hf hk
    cases f with
    | zero => exact absurd hf (Nat.not_lt_zero _)
    | succ f =>
      unfold fX11_doneOf_4 cntF
      rw [hb.1, if_neg (nI_ge (by omega) (by omega)), if_pos (v_in_nI (by omega) (by decide)), nI_clamp (by omega)]
      by_cases q : M.1 149 k = w
      · rw [if_pos q, if_pos q, nI_1, nI_1, ih f (k + 1) (s + 1) (by omega) (by omega), Nat.add_assoc]
      · rw [if_neg q, if_neg q, nI_1, show nI s + 0 = nI s from nI_add s 0, ih f (k + 1) s (by omega) (by omega), Nat.zero_add]
def sDone (A : Nat → Nat → Int32) (w : Int32) : Int32 := nI (0 + cntF (fun k => A 149 k = w) (qN (A 130 21)) 0)
theorem o4 (h : Rel M) (x z : Int32) : okS (fun K => gWr (fL_work M x z) (fun M1 => fX11_work M1 x z) K) := by
  unfold fL_work
  rcases isWk h x with ⟨a, b⟩ | ⟨i, hi, rfl⟩
  · refine fin_f1 h (by unfold fX10_work; rw [a]; rfl) rfl ?_
    unfold fX11_work
    rw [b (v_si M 130 1 0) rfl, bi_I, if_pos rfl]
    rfl
  have h6 : i < 6 := by have := h.W1.2.1; omega
  have h12 : v_in (nI i) 12 = true := v_in_nI (by omega) (by decide)
  have hs6 : v_in (nI i) 6 = true := v_in_nI h6 (by decide)
  have hk := h.wk hi
  have hk0 := hk
  obtain ⟨⟨k1, -⟩, -, ⟨l1, -⟩, ⟨p1, -⟩, ⟨m1, -⟩, f1, -, -, -, ⟨c1, -⟩, -⟩ := hk0
  have hb := h.B1
  have done : ∀ v : Int32, fX10_work M (nI i) z = rI v M → (∀ M1 : vM, M1.1 = M.1 → Rel M1 → fX11_work M1 (nI i) z = rI v (v_si M1 130 1 0)) → okS (fun K => gWr (vWi (fX10_work M (nI i) z) (kt1 1)) (fun M1 => fX11_work M1 (nI i) z) K) := fun v h1 h2 => fin_ro h h1 h2
  have rw1 : ∀ M1 : vM, M1.1 = M.1 → fX11_isWork (v_si M1 130 1 0) (nI i) = rI 1 (v_si M1 130 1 0) := fun M1 e => e_isWk1 (w := qW M) (by show M1.1 130 2 = _; rw [e]; exact h.W1.1) h.W1.2.1 hi
  have rd : ∀ (M1 : vM), M1.1 = M.1 → ∀ c d, c ≠ 130 → (v_si M1 130 1 0).1 c d = M.1 c d := fun M1 e c d hcd => by rw [si_c hcd, e]
  have qe : M.2.2 (qw i) 0 - 1 = qp M i := rfl
  by_cases e0 : z = 0
  · subst e0
    refine done (M.1 132 i) ?_ (fun M1 e h1 => ?_)
    · unfold fX10_work
      rw [wOf h hi, br_R, if_pos rfl, qe, k1]
    · unfold fX11_work
      rw [rw1 M1 e, bi_I, if_neg (by decide), if_pos rfl, if_pos h12, nI_clamp (by omega), rd M1 e _ _ (by decide)]
  by_cases e1 : z = 1
  · subst e1
    refine done (M.1 145 i) ?_ (fun M1 e h1 => ?_)
    · unfold fX10_work
      rw [wOf h hi, br_R, if_neg (by decide), if_pos rfl, c1]
    · unfold fX11_work
      rw [rw1 M1 e, bi_I, if_neg (by decide), if_neg (by decide), if_pos rfl, if_pos hs6, nI_clamp (by omega), rd M1 e _ _ (by decide)]
  by_cases e2 : z = 2
  · subst e2
    refine done (M.1 134 i) ?_ (fun M1 e h1 => ?_)
    · unfold fX10_work
      rw [wOf h hi, br_R, if_neg (by decide), if_neg (by decide), if_pos rfl, qe, l1]
    · unfold fX11_work
      rw [rw1 M1 e, bi_I, if_neg (by decide), if_neg (by decide), if_neg (by decide), if_pos rfl, if_pos h12, nI_clamp (by omega), rd M1 e _ _ (by decide)]
  by_cases e3 : z = 3
  · subst e3
    refine done (M.1 135 i) ?_ (fun M1 e h1 => ?_)
    · unfold fX10_work
      rw [wOf h hi, br_R, if_neg (by decide), if_neg (by decide), if_neg (by decide), if_pos rfl, qe, p1]
    · unfold fX11_work
      rw [rw1 M1 e, bi_I, if_neg (by decide), if_neg (by decide), if_neg (by decide), if_neg (by decide), if_pos rfl, if_pos h12, nI_clamp (by omega), rd M1 e _ _ (by decide)]
  by_cases e4 : z = 4
  · subst e4
    refine done (M.1 136 i) ?_ (fun M1 e h1 => ?_)
    · unfold fX10_work
      rw [wOf h hi, br_R, if_neg (by decide), if_neg (by decide), if_neg (by decide), if_neg (by decide), if_pos rfl, qe, m1]
    · unfold fX11_work
      rw [rw1 M1 e, bi_I, if_neg (by decide), if_neg (by decide), if_neg (by decide), if_neg (by decide), if_neg (by decide), if_pos rfl, if_pos h12, nI_clamp (by omega), rd M1 e _ _ (by decide)]
  by_cases e5 : z = 5
  · subst e5
    refine done (nI (sCnt M.1 i)) ?_ (fun M1 e h1 => ?_)
    · unfold fX10_work
      rw [wOf h hi, br_R, if_neg (by decide), if_neg (by decide), if_neg (by decide), if_neg (by decide), if_neg (by decide), if_pos rfl, c_unspent hk]
    · unfold fX11_work
      rw [rw1 M1 e, bi_I, if_neg (by decide), if_neg (by decide), if_neg (by decide), if_neg (by decide), if_neg (by decide), if_neg (by decide), if_pos rfl, r_leftOf ((c0 h1).wk (qW_c e hi)) h6, bi_I]
      show rI (nI (sCnt M1.1 i)) _ = _
      rw [e]
  by_cases e6 : z = 6
  · subst e6
    refine done (sDone M.1 (nI i)) ?_ (fun M1 e h1 => ?_)
    · unfold fX10_work fX1_bookedOf
      rw [wOf h hi, br_R, if_neg (by decide), if_neg (by decide), if_neg (by decide), if_neg (by decide), if_neg (by decide), if_neg (by decide), if_pos rfl]
      have e9 := l_bookedOf h (nI i) (qB M) FU 0 0 (FU_lt (by omega)) (Nat.zero_add _)
      rw [nI_0] at e9
      rw [e9, bi_I]
      rfl
    · have h2 := c0 h1
      have hb2 := h2.B1
      unfold fX11_work fX11_doneOf
      rw [rw1 M1 e, bi_I, if_neg (by decide), if_neg (by decide), if_neg (by decide), if_neg (by decide), if_neg (by decide), if_neg (by decide), if_neg (by decide), if_pos rfl]
      have e9 := l_doneOf h2 (nI i) (qB (v_si M1 130 1 0)) FU 0 0 (FU_lt (by omega)) (Nat.zero_add _)
      rw [nI_0] at e9
      rw [e9, bi_I]
      show rI (sDone M1.1 (nI i)) _ = _
      rw [e]
  by_cases e7 : z = 7
  · subst e7
    refine done (M.1 137 i) ?_ (fun M1 e h1 => ?_)
    · unfold fX10_work
      rw [wOf h hi, br_R, if_neg (by decide), if_neg (by decide), if_neg (by decide), if_neg (by decide), if_neg (by decide), if_neg (by decide), if_neg (by decide), if_pos rfl, qe, f1]
    · unfold fX11_work
      rw [rw1 M1 e, bi_I, if_neg (by decide), if_neg (by decide), if_neg (by decide), if_neg (by decide), if_neg (by decide), if_neg (by decide), if_neg (by decide), if_neg (by decide), if_pos rfl, if_pos h12, nI_clamp (by omega), rd M1 e _ _ (by decide)]
  by_cases e8 : z = 8
  · subst e8
    refine done (M.1 151 i) ?_ (fun M1 e h1 => ?_)
    · unfold fX10_work
      rw [wOf h hi, br_R, if_neg (by decide), if_neg (by decide), if_neg (by decide), if_neg (by decide), if_neg (by decide), if_neg (by decide), if_neg (by decide), if_neg (by decide), if_pos rfl, c_toldOf h hi, bi_I]
    · unfold fX11_work
      rw [rw1 M1 e, bi_I, if_neg (by decide), if_neg (by decide), if_neg (by decide), if_neg (by decide), if_neg (by decide), if_neg (by decide), if_neg (by decide), if_neg (by decide), if_neg (by decide), if_pos rfl, if_pos hs6, nI_clamp (by omega), rd M1 e _ _ (by decide)]
  by_cases e9 : z = 9
  · subst e9
    refine done (M.1 153 i) ?_ (fun M1 e h1 => ?_)
    · unfold fX10_work
      rw [wOf h hi, br_R, if_neg (by decide), if_neg (by decide), if_neg (by decide), if_neg (by decide), if_neg (by decide), if_neg (by decide), if_neg (by decide), if_neg (by decide), if_neg (by decide), if_pos rfl, c_peopleOf h hi, bi_I]
    · unfold fX11_work
      rw [rw1 M1 e, bi_I, if_neg (by decide), if_neg (by decide), if_neg (by decide), if_neg (by decide), if_neg (by decide), if_neg (by decide), if_neg (by decide), if_neg (by decide), if_neg (by decide), if_neg (by decide), if_pos rfl, if_pos hs6, nI_clamp (by omega), rd M1 e _ _ (by decide)]
  refine fin_f1 h ?_ rfl ?_
  · unfold fX10_work
    rw [wOf h hi, br_R, if_neg e0, if_neg e1, if_neg e2, if_neg e3, if_neg e4, if_neg e5, if_neg e6, if_neg e7, if_neg e8, if_neg e9]
  · unfold fX11_work
    rw [rw1 M rfl, bi_I, if_neg (by decide), if_neg e0, if_neg e1, if_neg e2, if_neg e3, if_neg e4, if_neg e5, if_neg e6, if_neg e7, if_neg e8, if_neg e9]
    rfl
end P11
