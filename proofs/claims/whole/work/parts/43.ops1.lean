section P3
variable {M : vM} {i : Nat}
/-- a search upwards: the first of n from k on that fulfils p -/
def fndF (p : Nat → Prop) [DecidablePred p] : Nat → Nat → Int32
  | 0, _ => -1
  | n + 1, k => if p k then nI k else fndF p n (k + 1)
/-- the r-th of those that fulfil p -/
def nthF (p : Nat → Prop) [DecidablePred p] (r : Int32) : Nat → Nat → Nat → Int32
  | 0, _, _ => -1
  | n + 1, k, s => if p k then (if nI s = r then nI k else nthF p r n (k + 1) (s + 1)) else nthF p r n (k + 1) s
/-- how many of n from k on fulfil p -/
def cntF (p : Nat → Prop) [DecidablePred p] : Nat → Nat → Nat
  | 0, _ => 0
  | n + 1, k => (if p k then 1 else 0) + cntF p n (k + 1)
theorem FU_lt {n : Nat} (h : n ≤ 99999) : n < FU := Nat.lt_of_le_of_lt h (show 99999 < 100000 from Nat.lt_succ_self 99999)
theorem l_withMark (h : rWk M i) (x : Int32) : ∀ (n f k : Nat), n < f → k + n = qC M i → fX9_withMark_2 f M (qw i) x (nI k) = rI (fndF (fun k => M.1 147 (2000 * i + k) = x) n k) M := by
  have hc := wkC h
  intro n
  induction n with
  | zero =>
    intro f k hf hk
    cases f with
    | zero => exact absurd hf (Nat.not_lt_zero _)
    | succ f =>
      unfold fX9_withMark_2
      rw [hc.1, if_pos (nI_le (by omega) (by omega))]
      rfl
  | succ n ih =>
    intro f k hf hk
    cases f with
    | zero => exact absurd hf (Nat.not_lt_zero _)
    | succ f =>
      unfold fX9_withMark_2 fndF
      rw [hc.1, if_neg (nI_ge (by omega) (by omega)), e_markOf h (by omega), bi_I]
      by_cases q : M.1 147 (2000 * i + k) = x
      · rw [if_pos q, if_pos q]
      · rw [if_neg q, if_neg q, nI_1, ih f (k + 1) (by omega) (by omega)]
theorem l_findOf (h : rWk M i) (hi : i < 6) (x : Int32) : ∀ (n f k : Nat), n < f → k + n = qC M i → fX11_findOf_2 f M (nI i) x (nI k) = rI (fndF (fun k => M.1 147 (2000 * i + k) = x) n k) M := by
  have hc := wkC h
  intro n
  induction n with
  | zero =>
    intro f k hf hk
    cases f with
    | zero => exact absurd hf (Nat.not_lt_zero _)
    | succ f =>
      unfold fX11_findOf_2
      rw [if_pos (v_in_nI hi (by decide)), nI_clamp (by omega), hc.2.2, if_pos (nI_le (by omega) (by omega))]
      rfl
  | succ n ih =>
    intro f k hf hk
    cases f with
    | zero => exact absurd hf (Nat.not_lt_zero _)
    | succ f =>
      unfold fX11_findOf_2 fndF
      rw [if_pos (v_in_nI hi (by decide)), nI_clamp (by omega), hc.2.2, if_neg (nI_ge (by omega) (by omega)), r_markOf hi (by omega), bi_I]
      by_cases q : M.1 147 (2000 * i + k) = x
      · rw [if_pos q, if_pos q]
      · rw [if_neg q, if_neg q, nI_1, ih f (k + 1) (by omega) (by omega)]
def sFind (A : Nat → Nat → Int32) (i : Nat) (x : Int32) : Int32 := fndF (fun k => A 147 (2000 * i + k) = x) (qN (A 145 i)) 0
theorem c_withMark (h : rWk M i) (x : Int32) : fX9_withMark M (qw i) x = rI (sFind M.1 i x) M := by
  have hc := (wkC h).2.1
  exact l_withMark h x (qC M i) FU 0 (FU_lt (by omega)) (by omega)
theorem r_findOf (h : rWk M i) (hi : i < 6) (x : Int32) : fX11_findOf M (nI i) x = rI (sFind M.1 i x) M := by
  have hc := (wkC h).2.1
  exact l_findOf h hi x (qC M i) FU 0 (FU_lt (by omega)) (by omega)
theorem o6 (h : Rel M) (x y : Int32) : okS (fun K => gWr (fL_find M x y) (fun M1 => fX11_find M1 x y) K) := by
  unfold fL_find
  rcases isWk h x with ⟨a, b⟩ | ⟨i, hi, rfl⟩
  · refine fin_f1 h (by unfold fX10_find; rw [a]; rfl) rfl ?_
    unfold fX11_find
    rw [b (v_si M 130 1 0) rfl, bi_I, if_pos rfl]
    rfl
  · refine fin_ro h (z := sFind M.1 i y) ?_ (fun M1 e h1 => ?_)
    · unfold fX10_find
      rw [wOf h hi, br_R, c_withMark (h.wk hi), bi_I]
    · have h2 := c0 h1
      have hi1 : i < qW (v_si M1 130 1 0) := by
        show i < qN (M1.1 130 2)
        rw [e]
        exact hi
      unfold fX11_find
      rw [rOf h2 hi1, bi_I, if_neg (by decide), r_findOf (h2.wk hi1) (by have := h2.W1.2.1; omega), bi_I]
      show rI (sFind M1.1 i y) _ = _
      rw [e]
/-! left -/
theorem l_unspentAt (h : rWk M i) (x : Int32) : ∀ (n f k s : Nat), n < f → k + n = qC M i → fX9_unspentAt_4 f M (qw i) x (nI s) (nI k) = rI (nthF (fun k => M.1 148 (2000 * i + k) = 0) x n k s) M := by
  have hc := wkC h
  intro n
  induction n with
  | zero =>
    intro f k s hf hk
    cases f with
    | zero => exact absurd hf (Nat.not_lt_zero _)
    | succ f =>
      unfold fX9_unspentAt_4
      rw [hc.1, if_pos (nI_le (by omega) (by omega))]
      rfl
  | succ n ih =>
    intro f k s hf hk
    cases f with
    | zero => exact absurd hf (Nat.not_lt_zero _)
    | succ f =>
      unfold fX9_unspentAt_4 nthF
      rw [hc.1, if_neg (nI_ge (by omega) (by omega)), e_isSp h (by omega), bi_I]
      by_cases q : M.1 148 (2000 * i + k) = 0
      · rw [if_pos q, if_pos q]
        by_cases q2 : nI s = x
        · rw [if_pos q2, if_pos q2]
        · rw [if_neg q2, if_neg q2, nI_1, nI_1, ih f (k + 1) (s + 1) (by omega) (by omega)]
      · rw [if_neg q, if_neg q, nI_1, ih f (k + 1) s (by omega) (by omega)]
theorem l_leftAt (h : rWk M i) (hi : i < 6) (x : Int32) : ∀ (n f k s : Nat), n < f → k + n = qC M i → fX11_leftAt_5 f M (nI i) x (nI s) (nI k) = rI (nthF (fun k => M.1 148 (2000 * i + k) = 0) x n k s) M := by
  have hc := wkC h
  intro n
  induction n with
  | zero =>
    intro f k s hf hk
    cases f with
    | zero => exact absurd hf (Nat.not_lt_zero _)
    | succ f =>
      unfold fX11_leftAt_5
      rw [if_pos (v_in_nI hi (by decide)), nI_clamp (by omega), hc.2.2, if_pos (nI_le (by omega) (by omega))]
      rfl
  | succ n ih =>
    intro f k s hf hk
    cases f with
    | zero => exact absurd hf (Nat.not_lt_zero _)
    | succ f =>
      unfold fX11_leftAt_5 nthF
      rw [if_pos (v_in_nI hi (by decide)), nI_clamp (by omega), hc.2.2, if_neg (nI_ge (by omega) (by omega)), e_ix, if_pos (r_in hi (by omega)), nI_clamp (by omega)]
      by_cases q : M.1 148 (2000 * i + k) = 0
      · rw [if_pos q, if_pos q]
        by_cases q2 : nI s = x
        · rw [if_pos q2, if_pos q2]
        · rw [if_neg q2, if_neg q2, nI_1, nI_1, ih f (k + 1) (s + 1) (by omega) (by omega)]
      · rw [if_neg q, if_neg q, nI_1, ih f (k + 1) s (by omega) (by omega)]
def sLeft (A : Nat → Nat → Int32) (i : Nat) (x : Int32) : Int32 := nthF (fun k => A 148 (2000 * i + k) = 0) x (qN (A 145 i)) 0 0
theorem c_unspentAt (h : rWk M i) (x : Int32) : fX9_unspentAt M (qw i) x = rI (sLeft M.1 i x) M := by
  have hc := (wkC h).2.1
  exact l_unspentAt h x (qC M i) FU 0 0 (FU_lt (by omega)) (by omega)
theorem r_leftAt (h : rWk M i) (hi : i < 6) (x : Int32) : fX11_leftAt M (nI i) x = rI (sLeft M.1 i x) M := by
  have hc := (wkC h).2.1
  exact l_leftAt h hi x (qC M i) FU 0 0 (FU_lt (by omega)) (by omega)
theorem o10 (h : Rel M) (x y : Int32) : okS (fun K => gWr (fL_left M x y) (fun M1 => fX11_left M1 x y) K) := by
  unfold fL_left
  rcases isWk h x with ⟨a, b⟩ | ⟨i, hi, rfl⟩
  · refine fin_f1 h (by unfold fX10_left; rw [a]; rfl) rfl ?_
    unfold fX11_left
    rw [b (v_si M 130 1 0) rfl, bi_I, if_pos rfl]
    rfl
  · by_cases hy : y < 0
    · refine fin_f1 h ?_ rfl ?_
      · unfold fX10_left
        rw [wOf h hi, br_R, if_neg (Int32.not_le.mpr hy)]
      · unfold fX11_left
        rw [rOf (c0 h) hi, bi_I, if_neg (by decide), if_pos hy]
        rfl
    · refine fin_ro h (z := sLeft M.1 i y) ?_ (fun M1 e h1 => ?_)
      · unfold fX10_left
        rw [wOf h hi, br_R, if_pos (Int32.not_lt.mp hy), c_unspentAt (h.wk hi), bi_I]
      · have h2 := c0 h1
        have hi1 : i < qW (v_si M1 130 1 0) := by
          show i < qN (M1.1 130 2)
          rw [e]
          exact hi
        unfold fX11_left
        rw [rOf h2 hi1, bi_I, if_neg (by decide), if_neg hy, r_leftAt (h2.wk hi1) (by have := h2.W1.2.1; omega), bi_I]
        show rI (sLeft M1.1 i y) _ = _
        rw [e]
end P3
