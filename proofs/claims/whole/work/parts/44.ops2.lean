section P4
variable {M : vM} {i : Nat}
theorem qW_c {M1 : vM} (e : M1.1 = M.1) (hi : i < qW M) : i < qW (v_si M1 130 1 0) := by
  show i < qN (M1.1 130 2)
  rw [e]
  exact hi
theorem qC_c {M1 : vM} (e : M1.1 = M.1) : qC (v_si M1 130 1 0) i = qC M i := by
  show qN (M1.1 145 i) = _
  rw [e]
  rfl
/-! rank of one that is left -/
theorem l_rankOf (h : rWk M i) : ∀ (n f k s : Nat), n < f → k + n ≤ qC M i → fX9_rankOf_14 f M (qw i) (nI (k + n)) (nI s) (nI k) = rI (nI (s + cntF (fun k => M.1 148 (2000 * i + k) = 0) n k)) M := by
  have hc := wkC h
  intro n
  induction n with
  | zero =>
    intro f k s hf hk
    cases f with
    | zero => exact absurd hf (Nat.not_lt_zero _)
    | succ f =>
      unfold fX9_rankOf_14
      rw [if_pos (nI_le (by omega) (by omega))]
      rfl
  | succ n ih =>
    intro f k s hf hk
    cases f with
    | zero => exact absurd hf (Nat.not_lt_zero _)
    | succ f =>
      unfold fX9_rankOf_14 cntF
      have e := ih f (k + 1)
      rw [show k + 1 + n = k + (n + 1) by omega] at e
      rw [if_neg (nI_ge (by omega) (by omega)), e_isSp h (by omega), bi_I]
      by_cases q : M.1 148 (2000 * i + k) = 0
      · rw [if_pos q, if_pos q, nI_1, nI_1, e (s + 1) (by omega) (by omega), show s + 1 + cntF (fun k => M.1 148 (2000 * i + k) = 0) n (k + 1) = s + (1 + cntF (fun k => M.1 148 (2000 * i + k) = 0) n (k + 1)) by omega]
      · rw [if_neg q, if_neg q, nI_1, e s (by omega) (by omega), Nat.zero_add]
theorem l_numberLeft (h : rWk M i) (hi : i < 6) : ∀ (n f k s : Nat), n < f → k + n ≤ qC M i → fX11_numberLeft_22 f M (nI i) (nI (k + n)) (nI s) (nI k) = rI (nI (s + cntF (fun k => M.1 148 (2000 * i + k) = 0) n k)) M := by
  have hc := wkC h
  intro n
  induction n with
  | zero =>
    intro f k s hf hk
    cases f with
    | zero => exact absurd hf (Nat.not_lt_zero _)
    | succ f =>
      unfold fX11_numberLeft_22
      rw [if_pos (nI_le (by omega) (by omega))]
      rfl
  | succ n ih =>
    intro f k s hf hk
    cases f with
    | zero => exact absurd hf (Nat.not_lt_zero _)
    | succ f =>
      unfold fX11_numberLeft_22 cntF
      have e := ih f (k + 1)
      rw [show k + 1 + n = k + (n + 1) by omega] at e
      rw [if_neg (nI_ge (by omega) (by omega)), e_ix, if_pos (r_in hi (by omega)), nI_clamp (by omega)]
      by_cases q : M.1 148 (2000 * i + k) = 0
      · rw [if_pos q, if_pos q, nI_1, nI_1, e (s + 1) (by omega) (by omega), show s + 1 + cntF (fun k => M.1 148 (2000 * i + k) = 0) n (k + 1) = s + (1 + cntF (fun k => M.1 148 (2000 * i + k) = 0) n (k + 1)) by omega]
      · rw [if_neg q, if_neg q, nI_1, show nI s + 0 = nI s from nI_add s 0, e s (by omega) (by omega), Nat.zero_add]
def sRank (A : Nat → Nat → Int32) (i k : Nat) : Int32 := if A 148 (2000 * i + k) = 0 then nI (cntF (fun k => A 148 (2000 * i + k) = 0) k 0) else -1
theorem c_rankOf (h : rWk M i) {k : Nat} (hk : k < qC M i) : fX9_rankOf M (qw i) (nI k) = rI (sRank M.1 i k) M := by
  have hc := (wkC h).2.1
  unfold fX9_rankOf sRank
  rw [e_isSp h hk, bi_I]
  by_cases q : M.1 148 (2000 * i + k) = 0
  · have e := l_rankOf h k FU 0 0 (FU_lt (by omega)) (by omega)
    rw [Nat.zero_add, Nat.zero_add] at e
    rw [if_pos q, if_pos q]
    exact e
  · rw [if_neg q, if_neg q]
theorem r_numberLeft (h : rWk M i) (hi : i < 6) {k : Nat} (hk : k < qC M i) : fX11_numberLeft M (nI i) (nI k) = rI (sRank M.1 i k) M := by
  have hc := (wkC h).2.1
  unfold fX11_numberLeft sRank
  rw [e_ix, if_pos (r_in hi (by omega)), nI_clamp (by omega)]
  by_cases q : M.1 148 (2000 * i + k) = 0
  · have e := l_numberLeft h hi k FU 0 0 (FU_lt (by omega)) (by omega)
    rw [Nat.zero_add, Nat.zero_add] at e
    rw [if_pos q, if_pos q]
    exact e
  · rw [if_neg q, if_neg q]
theorem o5 (h : Rel M) (x y z : Int32) : okS (fun K => gWr (fL_way M x y z) (fun M1 => fX11_way M1 x y z) K) := by
  unfold fL_way
  rcases isWk h x with ⟨a, b⟩ | ⟨i, hi, rfl⟩
  · refine fin_f1 h (by unfold fX10_way; rw [a]; rfl) rfl ?_
    unfold fX11_way fX11_isWay
    rw [b (v_si M 130 1 0) rfl, bi_I, if_pos rfl, bi_I, if_pos rfl]
    rfl
  have h6 : i < 6 := by have := h.W1.2.1; omega
  rcases isWy h hi y with ⟨a, b⟩ | ⟨k, hk, rfl⟩
  · refine fin_f1 h (by unfold fX10_way; rw [wOf h hi, br_R, a]; rfl) rfl ?_
    unfold fX11_way
    rw [b _ (c0 h) (Or.inr rfl), bi_I, if_pos rfl]
    rfl
  have hc := (wkC (h.wk hi)).2.1
  have done : ∀ v : Int32, fX10_way M (nI i) (nI k) z = rI v M → (∀ M1 : vM, M1.1 = M.1 → Rel M1 → fX11_way M1 (nI i) (nI k) z = rI v (v_si M1 130 1 0)) → okS (fun K => gWr (vWi (fX10_way M (nI i) (nI k) z) (kt1 1)) (fun M1 => fX11_way M1 (nI i) (nI k) z) K) := fun v h1 h2 => fin_ro h h1 h2
  by_cases e0 : z = 0
  · subst e0
    refine done (M.1 146 (2000 * i + k)) ?_ (fun M1 e h1 => ?_)
    · unfold fX10_way
      rw [wOf h hi, br_R, wyOf h hi hk, bv_V, if_pos rfl, e_costOf (h.wk hi) hk, bi_I]
    · have h2 := c0 h1
      unfold fX11_way
      rw [ryOf h2 (qW_c e hi) (by rw [qC_c e]; exact hk), bi_I, if_neg (by decide), show fX11_isIn (v_si M1 130 1 0) 0 0 3 = rI 1 (v_si M1 130 1 0) from rfl, bi_I, if_neg (by decide), if_pos rfl, e_ix, if_pos (r_in h6 (by omega)), nI_clamp (by omega)]
      show rI (M1.1 146 _) _ = _
      rw [e]
  by_cases e1 : z = 1
  · subst e1
    refine done (M.1 147 (2000 * i + k)) ?_ (fun M1 e h1 => ?_)
    · unfold fX10_way
      rw [wOf h hi, br_R, wyOf h hi hk, bv_V, if_neg (by decide), if_pos rfl, e_markOf (h.wk hi) hk, bi_I]
    · have h2 := c0 h1
      unfold fX11_way
      rw [ryOf h2 (qW_c e hi) (by rw [qC_c e]; exact hk), bi_I, if_neg (by decide), show fX11_isIn (v_si M1 130 1 0) 1 0 3 = rI 1 (v_si M1 130 1 0) from rfl, bi_I, if_neg (by decide), if_neg (by decide), if_pos rfl, r_markOf h6 (by omega), bi_I]
      show rI (M1.1 147 _) _ = _
      rw [e]
  by_cases e2 : z = 2
  · subst e2
    refine done (M.1 148 (2000 * i + k)) ?_ (fun M1 e h1 => ?_)
    · unfold fX10_way
      rw [wOf h hi, br_R, wyOf h hi hk, bv_V, if_neg (by decide), if_neg (by decide), if_pos rfl, e_isSp (h.wk hi) hk, bi_I]
      rcases (wkS (h.wk hi) hk).2 with s | s
      · rw [s, if_pos rfl]
      · rw [s, if_neg (by decide)]
    · have h2 := c0 h1
      unfold fX11_way
      rw [ryOf h2 (qW_c e hi) (by rw [qC_c e]; exact hk), bi_I, if_neg (by decide), show fX11_isIn (v_si M1 130 1 0) 2 0 3 = rI 1 (v_si M1 130 1 0) from rfl, bi_I, if_neg (by decide), if_neg (by decide), if_neg (by decide), if_pos rfl, e_ix, if_pos (r_in h6 (by omega)), nI_clamp (by omega)]
      show (if M1.1 148 _ = 0 then _ else _) = _
      rw [e]
      rcases (wkS (h.wk hi) hk).2 with s | s
      · rw [s, if_pos rfl]
      · rw [s, if_neg (by decide)]
  by_cases e3 : z = 3
  · subst e3
    refine done (sRank M.1 i k) ?_ (fun M1 e h1 => ?_)
    · unfold fX10_way
      rw [wOf h hi, br_R, wyOf h hi hk, bv_V, if_neg (by decide), if_neg (by decide), if_neg (by decide), if_pos rfl, c_rankOf (h.wk hi) hk, bi_I]
    · have h2 := c0 h1
      unfold fX11_way
      rw [ryOf h2 (qW_c e hi) (by rw [qC_c e]; exact hk), bi_I, if_neg (by decide), show fX11_isIn (v_si M1 130 1 0) 3 0 3 = rI 1 (v_si M1 130 1 0) from rfl, bi_I, if_neg (by decide), if_neg (by decide), if_neg (by decide), if_neg (by decide), r_numberLeft (h2.wk (qW_c e hi)) h6 (by rw [qC_c e]; exact hk), bi_I]
      show rI (sRank M1.1 i k) _ = _
      rw [e]
  refine fin_f1 h ?_ rfl ?_
  · unfold fX10_way
    rw [wOf h hi, br_R, wyOf h hi hk, bv_V, if_neg e0, if_neg e1, if_neg e2, if_neg e3]
  · unfold fX11_way
    rw [ryOf (c0 h) hi hk, bi_I, if_neg (by decide)]
    have e9 : fX11_isIn (v_si M 130 1 0) z 0 3 = rI 0 (v_si M 130 1 0) := by
      rcases i32 z with hz | ⟨j, hj, rfl⟩
      · exact e_isIn0N hz
      · refine e_isIn2 (a := 0) (b := 3) (Or.inr ?_) hj (by decide) (by decide)
        have a0 : j ≠ 0 := fun q => e0 (by rw [q]; rfl)
        have a1 : j ≠ 1 := fun q => e1 (by rw [q]; rfl)
        have a2 : j ≠ 2 := fun q => e2 (by rw [q]; rfl)
        have a3 : j ≠ 3 := fun q => e3 (by rw [q]; rfl)
        omega
    rw [e9, bi_I, if_pos rfl]
    rfl
end P4
