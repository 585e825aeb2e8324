section P6
variable {M : vM} {i : Nat}
theorem wWhat {x : Int32} {n : Nat} (hn : n < 2 ^ 31) : (fX10_refuseUnlessWhat M x (nI n) = rT 1 M ∧ (x < 0 ∨ ∃ k, n ≤ k ∧ k < 2 ^ 31 ∧ x = nI k)) ∨ ∃ k, k < n ∧ x = nI k := by
  rcases i32 x with hx | ⟨k, hk, rfl⟩
  · refine Or.inl ⟨?_, Or.inl hx⟩
    unfold fX10_refuseUnlessWhat
    rw [if_pos hx]
  · by_cases q : k < n
    · exact Or.inr ⟨k, q, rfl⟩
    · refine Or.inl ⟨?_, Or.inr ⟨k, by omega, hk, rfl⟩⟩
      unfold fX10_refuseUnlessWhat
      rw [if_neg (nI_pos hk), if_neg (nI_nlt (by omega) hk)]
theorem wWhatY {k n : Nat} (hk : k < n) (hn : n < 2 ^ 31) : fX10_refuseUnlessWhat M (nI k) (nI n) = rV M := by
  unfold fX10_refuseUnlessWhat
  rw [if_neg (nI_pos (by omega)), if_pos (nI_lt hk hn)]
/-- x < 0 or above 1: what the reference asks -/
theorem rWhat2 {x : Int32} (h : x < 0 ∨ ∃ k, 2 ≤ k ∧ k < 2 ^ 31 ∧ x = nI k) {α : Type} (a b : α) : (if x < 0 then a else if x ≤ 1 then b else a) = a := by
  rcases h with h | ⟨k, h1, h2, rfl⟩
  · rw [if_pos h]
  · rw [if_neg (nI_pos h2), if_neg (show ¬ nI k ≤ 1 from nI_ge h1 h2)]
theorem rWhat2' {k : Nat} (h : k < 2) {α : Type} (a b : α) : (if nI k < 0 then a else if nI k ≤ 1 then b else a) = b := by
  rw [if_neg (nI_pos (by omega)), if_pos (show nI k ≤ 1 from nI_le (show k ≤ 1 by omega) (by decide))]
theorem mk_lt (h : rWk M i) {k : Nat} (hk : k < qC M i) : M.1 147 (2000 * i + k) = nI (qmk M i k) ∧ qmk M i k < 2 ^ 20 := by
  obtain ⟨-, -, w3, w4, -⟩ := wkW h hk
  exact ⟨w3, by omega⟩
theorem qmk_c {M1 : vM} (e : M1.1 = M.1) {k : Nat} : qmk (v_si M1 130 1 0) i k = qmk M i k := by
  show qN (M1.1 147 _) = _
  rw [e]
  rfl
theorem o7 (h : Rel M) (x y z w : Int32) : okS (fun K => gWr (fL_same M x y z w) (fun M1 => fX11_same M1 x y z w) K) := by
  unfold fL_same
  rcases isWk h x with ⟨a, b⟩ | ⟨i, hi, rfl⟩
  · refine fin_f1 h (by unfold fX10_same; rw [a]; rfl) rfl ?_
    unfold fX11_same fX11_isWay
    rw [b (v_si M 130 1 0) rfl, bi_I, if_pos rfl, bi_I, if_pos rfl]
    rfl
  have h6 : i < 6 := by have := h.W1.2.1; omega
  rcases isWy h hi y with ⟨a, b⟩ | ⟨k, hk, rfl⟩
  · refine fin_f1 h (by unfold fX10_same; rw [wOf h hi, br_R, a]; rfl) rfl ?_
    unfold fX11_same
    rw [b _ (c0 h) (Or.inr rfl), bi_I, if_pos rfl]
    rfl
  rcases isWy h hi z with ⟨a, b⟩ | ⟨j, hj, rfl⟩
  · refine fin_f1 h (by unfold fX10_same; rw [wOf h hi, br_R, wyOf h hi hk, bv_V, a]; rfl) rfl ?_
    unfold fX11_same
    rw [ryOf (c0 h) hi hk, bi_I, if_neg (by decide), b _ (c0 h) (Or.inr rfl), bi_I, if_pos rfl]
    rfl
  have hc := (wkC (h.wk hi)).2.1
  obtain ⟨k1, k2⟩ := mk_lt (h.wk hi) hk
  obtain ⟨j1, j2⟩ := mk_lt (h.wk hi) hj
  rcases wWhat (M := M) (x := w) (n := 2) (by decide) with ⟨a, b⟩ | ⟨v, hv, rfl⟩
  · refine fin_f1 h (by unfold fX10_same; rw [wOf h hi, br_R, wyOf h hi hk, bv_V, wyOf h hi hj, bv_V, show (2 : Int32) = nI 2 from rfl, a]; rfl) rfl ?_
    unfold fX11_same
    rw [ryOf (c0 h) hi hk, bi_I, if_neg (by decide), ryOf (c0 h) hi hj, bi_I, if_neg (by decide), rWhat2 b]
    rfl
  have hx : qmk M i k ^^^ qmk M i j < 2 ^ 20 := Nat.xor_lt_two_pow k2 j2
  by_cases hv0 : v = 0
  · subst hv0
    refine fin_ro h (z := nI (pcn 32 (qmk M i k ^^^ qmk M i j))) ?_ (fun M1 e h1 => ?_)
    · unfold fX10_same
      rw [wOf h hi, br_R, wyOf h hi hk, bv_V, wyOf h hi hj, bv_V, show (2 : Int32) = nI 2 from rfl, wWhatY (by decide) (by decide), bv_V, e_markOf (h.wk hi) hk, bi_I, e_markOf (h.wk hi) hj, bi_I, if_pos nI_0, k1, j1, nx_xor, pop_nat (by omega), bi_I]
    · have h2 := c0 h1
      have hi1 := qW_c (i := i) e hi
      obtain ⟨k1', -⟩ := mk_lt (h2.wk hi1) (k := k) (by rw [qC_c e]; exact hk)
      obtain ⟨j1', -⟩ := mk_lt (h2.wk hi1) (k := j) (by rw [qC_c e]; exact hj)
      unfold fX11_same
      rw [ryOf h2 hi1 (by rw [qC_c e]; exact hk), bi_I, if_neg (by decide), ryOf h2 hi1 (by rw [qC_c e]; exact hj), bi_I, if_neg (by decide), rWhat2' (by decide), if_pos nI_0, r_markOf h6 (by omega), bi_I, r_markOf h6 (by omega), bi_I, k1', j1', nx_xor, qmk_c e, qmk_c e, ref_bitsOf (by omega), bi_I]
  · have hv1 : v = 1 := by omega
    subst hv1
    refine fin_ro h (z := sSame (M.1 134 i) (M.1 (qw i) 3) (M.1 135 i) (qmk M i k ^^^ qmk M i j)) ?_ (fun M1 e h1 => ?_)
    · unfold fX10_same
      rw [wOf h hi, br_R, wyOf h hi hk, bv_V, wyOf h hi hj, bv_V, show (2 : Int32) = nI 2 from rfl, wWhatY (by decide) (by decide), bv_V, e_markOf (h.wk hi) hk, bi_I, e_markOf (h.wk hi) hj, bi_I, if_neg (by decide), k1, j1, c_areSame (h.wk hi) k2 j2, bi_I]
      rcases sSame01 (M.1 134 i) (M.1 (qw i) 3) (M.1 135 i) (qmk M i k ^^^ qmk M i j) with q | q
      · rw [q, if_pos rfl]
      · rw [q, if_neg (by decide)]
    · have h2 := c0 h1
      have hi1 := qW_c (i := i) e hi
      obtain ⟨k1', -⟩ := mk_lt (h2.wk hi1) (k := k) (by rw [qC_c e]; exact hk)
      obtain ⟨j1', -⟩ := mk_lt (h2.wk hi1) (k := j) (by rw [qC_c e]; exact hj)
      have e9 : ∀ c d, c ≠ 130 → (v_si M1 130 1 0).1 c d = M.1 c d := fun c d hcd => by
        rw [v_si_o hcd, e]
      unfold fX11_same
      rw [ryOf h2 hi1 (by rw [qC_c e]; exact hk), bi_I, if_neg (by decide), ryOf h2 hi1 (by rw [qC_c e]; exact hj), bi_I, if_neg (by decide), rWhat2' (by decide), if_neg (by decide), r_markOf h6 (by omega), bi_I, r_markOf h6 (by omega), bi_I, k1', j1', qmk_c e, qmk_c e, r_alike (h2.wk hi1) h6 k2 j2, bi_I, e9 134 _ (by decide), e9 135 _ (by decide), e9 (qw i) _ (by show 46 + 15 * i ≠ 130; omega)]
      rcases sSame01 (M.1 134 i) (M.1 (qw i) 3) (M.1 135 i) (qmk M i k ^^^ qmk M i j) with q | q
      · rw [q, if_pos rfl]
      · rw [q, if_neg (by decide)]
end P6
