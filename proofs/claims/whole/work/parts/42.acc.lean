section P2
variable {M : vM} {i : Nat}
theorem wkC (h : rWk M i) : M.1 (qw i) 1 = nI (qC M i) ∧ qC M i ≤ 1458 ∧ M.1 145 i = nI (qC M i) := by
  obtain ⟨-, -, -, -, -, -, -, -, -, ⟨c1, c2⟩, -⟩ := h
  exact ⟨c1.trans c2.1, c2.2, c2.1⟩
theorem wkW (h : rWk M i) {k : Nat} (hk : k < qC M i) : M.1 146 (2000 * i + k) = nI (qco M i k) ∧ qco M i k ≤ 1048575 ∧ M.1 147 (2000 * i + k) = nI (qmk M i k) ∧ qmk M i k ≤ 1048575 ∧ M.2.1 (qw i + 7) k = lN (qco M i k * 1048576 + qmk M i k) := by
  obtain ⟨-, -, -, -, -, -, -, -, -, -, ws, -⟩ := h
  obtain ⟨a, b, c, -⟩ := ws.1 k hk
  exact ⟨a.1, a.2, b.1, b.2, c⟩
theorem wkS (h : rWk M i) {k : Nat} (hk : k < qC M i) : M.1 (qw i + 8) k = M.1 148 (2000 * i + k) ∧ (M.1 148 (2000 * i + k) = 0 ∨ M.1 148 (2000 * i + k) = 1) := by
  obtain ⟨-, -, -, -, -, -, -, -, -, -, -, sp, -⟩ := h
  exact sp k hk
theorem e_has (h : rWk M i) {k : Nat} (hk : k < 2 ^ 31) : fX9_has M (qw i) (nI k) = rI (if k < qC M i then 1 else 0) M := by
  obtain ⟨c1, c2, -⟩ := wkC h
  unfold fX9_has
  rw [if_neg (nI_pos hk), c1]
  by_cases hc : k < qC M i
  · rw [if_neg (nI_ge hc (by omega)), if_neg (show ¬ (1458 : Int32) ≤ nI k from nI_ge (show k < 1458 by omega) (by decide)), if_pos hc]
  · rw [if_pos (nI_le (by omega) hk), if_neg hc]
theorem e_hasN {x : Int32} {w : Nat} (hx : x < 0) : fX9_has M w x = rI 0 M := by
  unfold fX9_has
  rw [if_pos hx]
theorem lN_shr20 {a b : Nat} (ha : a ≤ 1048575) (hb : b ≤ 1048575) : Int64.toInt32 (lN (a * 1048576 + b) >>> (Int32.toInt64 20 &&& 63)) = nI a := by
  rw [pf_shr (d := 20) (by decide) (by omega), show (a * 1048576 + b) / 2 ^ 20 = a by omega]
  exact lN_i a
theorem lN_and20 {a b : Nat} (hb : b ≤ 1048575) : Int64.toInt32 (lN (a * 1048576 + b)) &&& 1048575 = nI b := by
  rw [lN_i, show (1048575 : Int32) = nI (2 ^ 20 - 1) from rfl, nx_and, Nat.and_two_pow_sub_one_eq_mod]
  congr 1
  omega
theorem e_costOf (h : rWk M i) {k : Nat} (hk : k < qC M i) : fX9_costOf M (qw i) (nI k) = rI (M.1 146 (2000 * i + k)) M := by
  obtain ⟨w1, w2, w3, w4, w5⟩ := wkW h hk
  have hc := (wkC h).2.1
  unfold fX9_costOf
  rw [e_has h (by omega), if_pos hk, bi_I, if_neg (by decide), if_pos (v_in_nI (by omega) (by decide)), nI_clamp (by omega), w5, lN_shr20 w2 w4, w1]
theorem e_markOf (h : rWk M i) {k : Nat} (hk : k < qC M i) : fX9_markOf M (qw i) (nI k) = rI (M.1 147 (2000 * i + k)) M := by
  obtain ⟨w1, w2, w3, w4, w5⟩ := wkW h hk
  have hc := (wkC h).2.1
  unfold fX9_markOf
  rw [e_has h (by omega), if_pos hk, bi_I, if_neg (by decide), if_pos (v_in_nI (by omega) (by decide)), nI_clamp (by omega), w5, lN_and20 w4, w3]
theorem e_isSp (h : rWk M i) {k : Nat} (hk : k < qC M i) : fX9_isSpent M (qw i) (nI k) = rI (M.1 148 (2000 * i + k)) M := by
  obtain ⟨s1, s2⟩ := wkS h hk
  have hc := (wkC h).2.1
  unfold fX9_isSpent
  rw [e_has h (by omega), if_pos hk, bi_I, if_neg (by decide), if_pos (v_in_nI (by omega) (by decide)), nI_clamp (by omega), s1]
  rcases s2 with s | s
  · rw [if_pos s, s]
  · rw [s, if_neg (by decide)]
theorem e_isSpO (h : rWk M i) {k : Nat} (hk : qC M i ≤ k) (hk2 : k < 2 ^ 31) : fX9_isSpent M (qw i) (nI k) = rI 1 M := by
  unfold fX9_isSpent
  rw [e_has h hk2, if_neg (by omega), bi_I, if_pos rfl]
theorem e_isSpN {x : Int32} {w : Nat} (hx : x < 0) : fX9_isSpent M w x = rI 1 M := by
  unfold fX9_isSpent
  rw [e_hasN hx, bi_I, if_pos rfl]
/-- the reference's index -/
theorem e_ix (i k : Nat) : (2000 : Int32) * nI i + nI k = nI (2000 * i + k) := by
  rw [show (2000 : Int32) = nI 2000 from rfl, nI_mul, nI_add]
theorem r_in {i k : Nat} (hi : i < 6) (hk : k < 2000) : v_in (nI (2000 * i + k)) 12000 = true := v_in_nI (by omega) (by decide)
theorem r_markOf {i k : Nat} (hi : i < 6) (hk : k < 2000) : fX11_markOf M (nI i) (nI k) = rI (M.1 147 (2000 * i + k)) M := by
  unfold fX11_markOf
  rw [e_ix, if_pos (r_in hi hk), nI_clamp (by omega)]
theorem r_isWay (h : Rel M) (hi : i < qW M) {k : Nat} (hk : k < 2 ^ 31) : fX11_isWay M (nI i) (nI k) = rI (if k < qC M i then 1 else 0) M := by
  have hW := h.W1
  have hc := wkC (h.wk hi)
  unfold fX11_isWay
  rw [e_isWork hW.1 hW.2.1 (by omega), if_pos hi, bi_I, if_neg (by decide), if_pos (v_in_nI (by omega) (by decide)), nI_clamp (by omega), hc.2.2, e_isIn0 hk (by omega), bi_I]
  by_cases q : k < qC M i
  · rw [if_pos q, if_neg (by decide)]
  · rw [if_neg q, if_pos rfl]
theorem r_isWayN (h : Rel M) (hi : i < qW M) {x : Int32} (hx : x < 0) : fX11_isWay M (nI i) x = rI 0 M := by
  have hW := h.W1
  unfold fX11_isWay
  rw [e_isWork hW.1 hW.2.1 (by omega), if_pos hi, bi_I, if_neg (by decide), if_pos (v_in_nI (by omega) (by decide)), e_isIn0N hx, bi_I, if_pos rfl]
/-- a work's number: none, or one below W -/
theorem isWk (h : Rel M) (x : Int32) : (fX10_workOf M x = rT 1 M ∧ ∀ M1 : vM, M1.1 130 2 = M.1 130 2 → fX11_isWork M1 x = rI 0 M1) ∨ ∃ i, i < qW M ∧ x = nI i := by
  obtain ⟨w1, w2, w3⟩ := h.W1
  rcases i32 x with hx | ⟨k, hk, rfl⟩
  · exact Or.inl ⟨e_workOfN hx, fun M1 _ => e_isWorkN hx⟩
  · by_cases q : k < qW M
    · exact Or.inr ⟨k, q, rfl⟩
    · refine Or.inl ⟨e_workOfO w3 (by omega) hk, fun M1 e => ?_⟩
      rw [e_isWork (e.trans w1) w2 hk, if_neg q]
theorem wOf (h : Rel M) (hi : i < qW M) : fX10_workOf M (nI i) = rR (qw i) M := e_workOf h.W1.2.2 h.W1.2.1 hi
theorem rOf (h : Rel M) (hi : i < qW M) : fX11_isWork M (nI i) = rI 1 M := by
  rw [e_isWork h.W1.1 h.W1.2.1 (by have := h.W1.2.1; omega), if_pos hi]
/-- a way's number: none, or one below the count -/
theorem isWy (h : Rel M) (hi : i < qW M) (x : Int32) : (fX10_refuseUnlessWay M (qw i) x = rT 1 M ∧ ∀ M1 : vM, Rel M1 → M1.1 = M.1 ∨ M1 = v_si M 130 1 0 → fX11_isWay M1 (nI i) x = rI 0 M1) ∨ ∃ k, k < qC M i ∧ x = nI k := by
  rcases i32 x with hx | ⟨k, hk, rfl⟩
  · refine Or.inl ⟨?_, fun M1 h1 e => r_isWayN h1 ?_ hx⟩
    · unfold fX10_refuseUnlessWay
      rw [e_hasN hx, bi_I, if_pos rfl]
    · have e2 : qW M1 = qW M := by
        rcases e with e | e
        · simp only [qW, e]
        · rw [e]; rfl
      omega
  · by_cases q : k < qC M i
    · exact Or.inr ⟨k, q, rfl⟩
    · refine Or.inl ⟨?_, fun M1 h1 e => ?_⟩
      · unfold fX10_refuseUnlessWay
        rw [e_has (h.wk hi) hk, if_neg q, bi_I, if_pos rfl]
      · have e2 : qW M1 = qW M ∧ qC M1 i = qC M i := by
          rcases e with e | e
          · simp only [qW, qC, e, and_self]
          · rw [e]; exact ⟨rfl, rfl⟩
        rw [r_isWay h1 (by omega) hk, e2.2, if_neg q]
theorem wyOf (h : Rel M) (hi : i < qW M) {k : Nat} (hk : k < qC M i) : fX10_refuseUnlessWay M (qw i) (nI k) = rV M := by
  have := (wkC (h.wk hi)).2.1
  unfold fX10_refuseUnlessWay
  rw [e_has (h.wk hi) (by omega), if_pos hk, bi_I, if_neg (by decide)]
theorem ryOf (h : Rel M) (hi : i < qW M) {k : Nat} (hk : k < qC M i) : fX11_isWay M (nI i) (nI k) = rI 1 M := by
  have := (wkC (h.wk hi)).2.1
  rw [r_isWay h hi (by omega), if_pos hk]
/-! how a call of both ends -/
theorem fin_thr {f : Option (vR × vM)} {KT : Nat → vM → Option (vR × vM)} {g : vM → Option (vR × vM)} {k : Nat} {M1 M2 : vM} {z : Int32} (h1 : f = rT k M1) (hk : KT k M1 = rI (nI k) M1) (h0 : nI k ≠ 0) (h2 : g M1 = rI z M2) (h3 : M2.1 130 1 = nI k) (hR : Rel M2) : okS (fun K => gWr (vWi f KT) g K) :=
  ⟨M2, hR, fun K => gWr_thr h1 hk h0 h2 h3⟩
theorem fin_val {f : Option (vR × vM)} {KT : Nat → vM → Option (vR × vM)} {g : vM → Option (vR × vM)} {M1 M2 : vM} {z : Int32} (h1 : f = rI z M1) (h2 : g (v_sl M1 174 0 z.toInt64) = rI z M2) (h3 : M2.1 130 1 = 0) (h4 : M2.2.1 174 = (v_sl M1 174 0 z.toInt64).2.1 174) (hR : Rel M2) : okS (fun K => gWr (vWi f KT) g K) :=
  ⟨M2, hR, fun K => gWr_val h1 h2 h3 (by rw [h4]; rfl)⟩
/-- the reference leaves nothing but its code -/
theorem fin_ro (h : Rel M) {f : Option (vR × vM)} {KT : Nat → vM → Option (vR × vM)} {g : vM → Option (vR × vM)} {z : Int32} (h1 : f = rI z M) (h2 : ∀ M1 : vM, M1.1 = M.1 → Rel M1 → g M1 = rI z (v_si M1 130 1 0)) : okS (fun K => gWr (vWi f KT) g K) :=
  fin_val h1 (h2 _ rfl (Rel_sl h (by omega))) rfl rfl (c0 (Rel_sl h (by omega)))
theorem fin_f1 (h : Rel M) {f : Option (vR × vM)} {KT : Nat → vM → Option (vR × vM)} {g : vM → Option (vR × vM)} (h1 : f = rT 1 M) (hk : KT 1 M = rI 1 M) (h2 : g M = rI 0 (v_si (v_si M 130 1 0) 130 1 1)) : okS (fun K => gWr (vWi f KT) g K) :=
  fin_thr h1 hk (by decide) h2 rfl (Rel_si (c0 h) (by omega))
theorem fin_f2 (h : Rel M) {f : Option (vR × vM)} {KT : Nat → vM → Option (vR × vM)} {g : vM → Option (vR × vM)} (h1 : f = rT 2 M) (hk : KT 2 M = rI 2 M) (h2 : g M = rI 0 (v_si (v_si M 130 1 0) 130 1 2)) : okS (fun K => gWr (vWi f KT) g K) :=
  fin_thr h1 hk (by decide) h2 rfl (Rel_si (c0 h) (by omega))
end P2
