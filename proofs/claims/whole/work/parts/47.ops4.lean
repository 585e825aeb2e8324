section P7
variable {M M' : vM} {i : Nat}
theorem wWithin {x : Int32} {a b : Nat} (hb : b < 2 ^ 31) (hab : a ≤ b) : (fX10_refuseUnlessWithin M x (nI a) (nI b) = rT 2 M ∧ ∀ M1 : vM, fX11_isIn M1 x (nI a) (nI b) = rI 0 M1) ∨ ∃ k, a ≤ k ∧ k ≤ b ∧ x = nI k := by
  rcases i32 x with hx | ⟨k, hk, rfl⟩
  · refine Or.inl ⟨?_, fun M1 => e_isInN hx (by omega)⟩
    unfold fX10_refuseUnlessWithin
    rw [if_pos (Int32.lt_of_lt_of_le hx (nI_pos' (by omega)))]
  · by_cases q : a ≤ k ∧ k ≤ b
    · exact Or.inr ⟨k, q.1, q.2, rfl⟩
    · refine Or.inl ⟨?_, fun M1 => e_isIn2 (by omega) hk (by omega) hb⟩
      unfold fX10_refuseUnlessWithin
      by_cases q1 : k < a
      · rw [if_pos (nI_lt q1 (by omega))]
      · rw [if_neg (nI_nlt (by omega) hk), if_neg (nI_ge (by omega) hk)]
theorem wWithinY {a b k : Nat} (h1 : a ≤ k) (h2 : k ≤ b) (hb : b < 2 ^ 31) : fX10_refuseUnlessWithin M (nI k) (nI a) (nI b) = rV M := by
  unfold fX10_refuseUnlessWithin
  rw [if_neg (nI_nlt h1 (by omega)), if_pos (nI_le h2 hb)]
/-! near -/
theorem l_near (h : rWk M i) (n3 : Int32) {m : Nat} (hm : m < 2 ^ 20) : ∀ (n f k s : Nat), n < f → k + n = qC M i → fX10_near_34 f M n3 (qw i) (nI m) (nI s) (nI k) = rI (nI (s + cntF (fun k => ¬ n3 ≤ nI (pcn 32 (qN (M.1 147 (2000 * i + k)) ^^^ m))) n k)) M := by
  have hc := wkC h
  intro n
  induction n with
  | zero =>
    intro f k s hf hk
    cases f with
    | zero => exact absurd hf (Nat.not_lt_zero _)
    | succ f =>
      unfold fX10_near_34
      rw [hc.1, if_pos (nI_le (by omega) (by omega))]
      rfl
  | succ n ih =>
    intro f k s hf hk
    cases f with
    | zero => exact absurd hf (Nat.not_lt_zero _)
    | succ f =>
      obtain ⟨k1, k2⟩ := mk_lt h (k := k) (by omega)
      have hx : qmk M i k ^^^ m < 2 ^ 20 := Nat.xor_lt_two_pow k2 hm
      unfold fX10_near_34 cntF
      rw [hc.1, if_neg (nI_ge (by omega) (by omega)), e_markOf h (by omega), bi_I, k1, nx_xor, pop_nat (by omega), bi_I, show qN (nI (qmk M i k)) = qmk M i k from qN_nI (by omega)]
      by_cases q : n3 ≤ nI (pcn 32 (qmk M i k ^^^ m))
      · rw [if_pos q, if_neg (fun z => z q), nI_1, ih f (k + 1) s (by omega) (by omega), Nat.zero_add]
      · rw [if_neg q, if_pos q, nI_1, nI_1, ih f (k + 1) (s + 1) (by omega) (by omega), Nat.add_assoc]
theorem l_nearR (h : rWk M i) (hi : i < 6) (n3 : Int32) {j : Nat} (hj : j < qC M i) : ∀ (n f k s : Nat), n < f → k + n = qC M i → fX11_near_42 f M (nI i) (nI j) n3 (nI s) (nI k) = rI (nI (s + cntF (fun k => ¬ n3 ≤ nI (pcn 32 (qN (M.1 147 (2000 * i + k)) ^^^ qmk M i j))) n k)) M := by
  have hc := wkC h
  obtain ⟨j1, j2⟩ := mk_lt h hj
  intro n
  induction n with
  | zero =>
    intro f k s hf hk
    cases f with
    | zero => exact absurd hf (Nat.not_lt_zero _)
    | succ f =>
      unfold fX11_near_42
      rw [if_pos (v_in_nI hi (by decide)), nI_clamp (by omega), hc.2.2, if_pos (nI_le (by omega) (by omega))]
      rfl
  | succ n ih =>
    intro f k s hf hk
    cases f with
    | zero => exact absurd hf (Nat.not_lt_zero _)
    | succ f =>
      obtain ⟨k1, k2⟩ := mk_lt h (k := k) (by omega)
      have hx : qmk M i k ^^^ qmk M i j < 2 ^ 20 := Nat.xor_lt_two_pow k2 j2
      unfold fX11_near_42 cntF
      rw [if_pos (v_in_nI hi (by decide)), nI_clamp (by omega), hc.2.2, if_neg (nI_ge (by omega) (by omega)), r_markOf hi (by omega), bi_I, r_markOf hi (by omega), bi_I, k1, j1, nx_xor, ref_bitsOf (by omega), bi_I, show qN (nI (qmk M i k)) = qmk M i k from qN_nI (by omega)]
      by_cases q : n3 ≤ nI (pcn 32 (qmk M i k ^^^ qmk M i j))
      · rw [if_pos q, if_neg (fun z => z q), nI_1, show nI s + 0 = nI s from nI_add s 0, ih f (k + 1) s (by omega) (by omega), Nat.zero_add]
      · rw [if_neg q, if_pos q, nI_1, nI_1, ih f (k + 1) (s + 1) (by omega) (by omega), Nat.add_assoc]
def sNear (A : Nat → Nat → Int32) (i : Nat) (n3 : Int32) (m : Nat) : Int32 := nI (0 + cntF (fun k => ¬ n3 ≤ nI (pcn 32 (qN (A 147 (2000 * i + k)) ^^^ m))) (qN (A 145 i)) 0)
theorem o23 (h : Rel M) (x y z : Int32) : okS (fun K => gWr (fL_near M x y z) (fun M1 => fX11_near M1 x y z) K) := by
  unfold fL_near
  rcases isWk h x with ⟨a, b⟩ | ⟨i, hi, rfl⟩
  · refine fin_f1 h (by unfold fX10_near; rw [a]; rfl) rfl ?_
    unfold fX11_near fX11_isWay
    rw [b (v_si M 130 1 0) rfl, bi_I, if_pos rfl, bi_I, if_pos rfl]
    rfl
  have h6 : i < 6 := by have := h.W1.2.1; omega
  rcases isWy h hi y with ⟨a, b⟩ | ⟨k, hk, rfl⟩
  · refine fin_f1 h (by unfold fX10_near; rw [wOf h hi, br_R, a]; rfl) rfl ?_
    unfold fX11_near
    rw [b _ (c0 h) (Or.inr rfl), bi_I, if_pos rfl]
    rfl
  have hc := (wkC (h.wk hi)).2.1
  obtain ⟨k1, k2⟩ := mk_lt (h.wk hi) hk
  rcases wWithin (M := M) (x := z) (a := 0) (b := 30) (by decide) (by decide) with ⟨a, b⟩ | ⟨v, -, hv, rfl⟩
  · refine fin_f2 h (by unfold fX10_near; rw [wOf h hi, br_R, wyOf h hi hk, bv_V, show (0 : Int32) = nI 0 from rfl, show (30 : Int32) = nI 30 from rfl, a]; rfl) rfl ?_
    unfold fX11_near
    rw [ryOf (c0 h) hi hk, bi_I, if_neg (by decide), show fX11_isIn (v_si M 130 1 0) z 0 30 = rI 0 _ from b _, bi_I, if_pos rfl]
    rfl
  · refine fin_ro h (z := sNear M.1 i (nI v) (qmk M i k)) ?_ (fun M1 e h1 => ?_)
    · unfold fX10_near
      rw [wOf h hi, br_R, wyOf h hi hk, bv_V, show fX10_refuseUnlessWithin M (nI v) 0 30 = rV M from wWithinY (a := 0) (b := 30) (by omega) hv (by decide), bv_V, e_markOf (h.wk hi) hk, bi_I, k1]
      exact l_near (h.wk hi) (nI v) k2 (qC M i) FU 0 0 (FU_lt (by omega)) (Nat.zero_add _)
    · have h2 := c0 h1
      have hi1 := qW_c (i := i) e hi
      unfold fX11_near
      rw [ryOf h2 hi1 (by rw [qC_c e]; exact hk), bi_I, if_neg (by decide), show fX11_isIn (v_si M1 130 1 0) (nI v) 0 30 = rI 1 _ from e_isIn1 (a := 0) (b := 30) (by omega) hv (by decide), bi_I, if_neg (by decide)]
      have e3 := l_nearR (h2.wk hi1) h6 (nI v) (j := k) (by rw [qC_c e]; exact hk) (qC M i) FU 0 0 (FU_lt (by omega)) (by rw [qC_c e]; exact Nat.zero_add _)
      rw [qmk_c e] at e3
      refine e3.trans ?_
      show rI (nI (0 + cntF (fun k' => ¬ nI v ≤ nI (pcn 32 (qN (M1.1 147 (2000 * i + k')) ^^^ qmk M i k))) (qC M i) 0)) _ = _
      rw [e]
      rfl
/-! book -/
theorem o9 (h : Rel M) (x y : Int32) : okS (fun K => gWr (fL_book M x y) (fun M1 => fX11_book M1 x y) K) := by
  unfold fL_book
  obtain ⟨b1, b2, b3⟩ := h.B1
  have e21 : ((v_si M 130 1 0).1 130 21) - 1 = nI (qB M) - 1 := by
    show M.1 130 21 - 1 = _
    rw [b1]
  have refuse : (fX10_book M x y = rT 1 M) → ((x < 0 ∨ ∃ k, qB M ≤ k ∧ k < 2 ^ 31 ∧ x = nI k) ∨ (y < 0 ∨ ∃ k, 2 ≤ k ∧ k < 2 ^ 31 ∧ y = nI k)) → okS (fun K => gWr (vWi (fX10_book M x y) (kt1 1)) (fun M1 => fX11_book M1 x y) K) := by
    intro h1 h2
    refine fin_f1 h h1 rfl ?_
    have e9 : fX11_book_28 (v_si M 130 1 0) = rI 0 (v_si (v_si M 130 1 0) 130 1 1) := rfl
    unfold fX11_book
    rw [e21]
    rcases i32 x with hx | ⟨k, hk, rfl⟩
    · rw [e_isIn0N hx, bi_I, if_pos rfl, e9]
    · rw [e_isIn0 hk (by omega), bi_I]
      by_cases q : k < qB M
      · rw [if_pos q, if_neg (by decide)]
        rcases h2 with h2 | h2
        · rcases h2 with h2 | ⟨k', q1, q2, q3⟩
          · exact absurd h2 (nI_pos hk)
          · have := (nI_eq hk q2).mp q3
            omega
        · rw [rWhat2 h2, e9]
      · rw [if_neg q, if_pos rfl, e9]
  rcases wWhat (M := M) (x := y) (n := 2) (by decide) with ⟨a, b⟩ | ⟨v, hv, rfl⟩
  · exact refuse (by unfold fX10_book; rw [show (2 : Int32) = nI 2 from rfl, a]; rfl) (Or.inr b)
  have hw : fX10_refuseUnlessWhat M (nI v) 2 = rV M := wWhatY (n := 2) hv (by decide)
  rcases i32 x with hx | ⟨k, hk, rfl⟩
  · exact refuse (by unfold fX10_book; rw [hw, bv_V, if_pos hx]) (Or.inl (Or.inl hx))
  by_cases q : k < qB M
  · have hk4 : k < 400 := by omega
    obtain ⟨l1, l2, -⟩ := h.led.2.1 k (by show k < qN (M.1 130 21); exact q)
    have hv2 : v = 0 ∨ v = 1 := by omega
    rcases hv2 with rfl | rfl
    · refine fin_ro h (z := M.1 149 k) ?_ (fun M1 e h1 => ?_)
      · unfold fX10_book fX1_bookWork
        rw [hw, bv_V, if_neg (nI_pos hk), b3, if_pos (nI_lt q (by omega)), if_pos nI_0, e_at (len := 400) rfl hk4 (by decide), bi_I, bi_I, l1]
      · unfold fX11_book
        rw [show (v_si M1 130 1 0).1 130 21 = nI (qB M) from (by show M1.1 130 21 = _; rw [e, b1]), e_isIn0 hk (by omega), bi_I, if_pos q, if_neg (by decide), rWhat2' (by decide), if_pos nI_0, if_pos (v_in_nI hk4 (by decide)), nI_clamp hk]
        show rI (M1.1 149 k) _ = _
        rw [e]
    · refine fin_ro h (z := M.1 150 k) ?_ (fun M1 e h1 => ?_)
      · unfold fX10_book fX1_bookWay
        rw [hw, bv_V, if_neg (nI_pos hk), b3, if_pos (nI_lt q (by omega)), if_neg (by decide), e_at (len := 400) rfl hk4 (by decide), bi_I, bi_I, l2]
      · unfold fX11_book
        rw [show (v_si M1 130 1 0).1 130 21 = nI (qB M) from (by show M1.1 130 21 = _; rw [e, b1]), e_isIn0 hk (by omega), bi_I, if_pos q, if_neg (by decide), rWhat2' (by decide), if_neg (by decide), if_pos (v_in_nI hk4 (by decide)), nI_clamp hk]
        show rI (M1.1 150 k) _ = _
        rw [e]
  · exact refuse (by unfold fX10_book; rw [hw, bv_V, if_neg (nI_pos hk), b3, if_neg (nI_nlt (by omega) hk)]) (Or.inl (Or.inr ⟨k, by omega, hk, rfl⟩))
end P7
