section P1
variable {M : vM}
def okS (f : (vM → Option (vR × vM)) → Option (vR × vM)) : Prop := ∃ M', Rel M' ∧ ∀ K, f K = K M'
theorem nIb.e {x : Int32} {b : Nat} (h : nIb x b) : x = nI (qN x) := h.1
theorem nIb.le {x : Int32} {b : Nat} (h : nIb x b) : qN x ≤ b := h.2
/-- an int is below 0, or a number -/
theorem i32 (x : Int32) : x < 0 ∨ ∃ k, k < 2 ^ 31 ∧ x = nI k := by
  by_cases h : x < 0
  · exact Or.inl h
  · obtain ⟨j, hj, e⟩ := nI_of h
    exact Or.inr ⟨j, hj, e⟩
theorem e_at {c len k : Nat} (hL : (v_LAY c).2.2 = len) (hk : k < len) (hb : len < 2 ^ 31) : fX10_at M c (nI k) = rI (M.1 c k) M := by
  unfold fX10_at
  rw [hL, if_neg (nI_pos (by omega)), if_neg (nI_ge hk hb), if_pos (v_in_nI hk hb), nI_clamp (by omega)]
theorem e_atO {c len k : Nat} (hL : (v_LAY c).2.2 = len) (hk : len ≤ k) (hb : k < 2 ^ 31) : fX10_at M c (nI k) = rI 0 M := by
  unfold fX10_at
  rw [hL, if_neg (nI_pos hb), if_pos (nI_le hk hb)]
theorem e_put {c len k : Nat} {x : Int32} (hL : (v_LAY c).2.2 = len) (hk : k < len) (hb : len < 2 ^ 31) : fX10_put M c (nI k) x = rV (v_si M c k x) := by
  unfold fX10_put
  rw [hL, if_neg (nI_pos (by omega)), if_neg (nI_ge hk hb), if_pos (v_in_nI hk hb), nI_clamp (by omega)]
theorem e_isIn {k a b : Nat} (hk : k < 2 ^ 31) (ha : a < 2 ^ 31) (hb : b < 2 ^ 31) : fX11_isIn M (nI k) (nI a) (nI b) = rI (if a ≤ k ∧ k ≤ b then 1 else 0) M := by
  unfold fX11_isIn
  by_cases h1 : a ≤ k
  · rw [if_neg (nI_nlt h1 hk)]
    by_cases h2 : k ≤ b
    · rw [if_neg (nI_nlt h2 hb), if_pos ⟨h1, h2⟩]
    · rw [if_pos (nI_lt (by omega) hk), if_neg (fun h => h2 h.2)]
  · rw [if_pos (nI_lt (by omega) ha), if_neg (fun h => h1 h.1)]
theorem e_isIn1 {k a b : Nat} (h : a ≤ k) (h2 : k ≤ b) (hb : b < 2 ^ 31) : fX11_isIn M (nI k) (nI a) (nI b) = rI 1 M := by
  rw [e_isIn (by omega) (by omega) hb, if_pos ⟨h, h2⟩]
theorem e_isIn2 {k a b : Nat} (h : k < a ∨ b < k) (hk : k < 2 ^ 31) (ha : a < 2 ^ 31) (hb : b < 2 ^ 31) : fX11_isIn M (nI k) (nI a) (nI b) = rI 0 M := by
  rw [e_isIn hk ha hb, if_neg (by omega)]
theorem e_isInN {x : Int32} {a : Nat} {y : Int32} (hx : x < 0) (ha : a < 2 ^ 31) : fX11_isIn M x (nI a) y = rI 0 M := by
  unfold fX11_isIn
  rw [if_pos (Int32.lt_of_lt_of_le hx (nI_pos' ha))]
theorem e_isIn0 {k b : Nat} (hk : k < 2 ^ 31) (hb : b < 2 ^ 31) : fX11_isIn M (nI k) 0 (nI b - 1) = rI (if k < b then 1 else 0) M := by
  cases b with
  | zero =>
    unfold fX11_isIn
    rw [if_neg (nI_pos hk), if_pos, if_neg (by omega)]
    exact Int32.lt_of_lt_of_le (by decide) (nI_pos' hk)
  | succ b =>
    rw [nI_pred]
    have h := e_isIn (M := M) (k := k) (a := 0) (b := b) hk (by decide) (by omega)
    rw [nI_0] at h
    rw [h]
    congr 2
    simp
    omega
theorem e_isIn0N {x y : Int32} (hx : x < 0) : fX11_isIn M x 0 y = rI 0 M := by
  unfold fX11_isIn
  rw [if_pos hx]
theorem e_isWork {k w : Nat} (hw : M.1 130 2 = nI w) (hw2 : w ≤ 6) (hk : k < 2 ^ 31) : fX11_isWork M (nI k) = rI (if k < w then 1 else 0) M := by
  unfold fX11_isWork
  rw [hw, e_isIn0 hk (by omega), bi_I]
  by_cases h : k < w
  · rw [if_pos h, if_pos (by decide)]
  · rw [if_neg h, if_pos (by decide)]
theorem e_isWorkN {x : Int32} (hx : x < 0) : fX11_isWork M x = rI 0 M := by
  unfold fX11_isWork
  rw [e_isIn0N hx, bi_I, if_pos (by decide)]
theorem e_workOf {k w : Nat} (hw : M.1 0 12 = nI w) (hw2 : w ≤ 6) (hk : k < w) : fX10_workOf M (nI k) = rR (qw k) M := by
  unfold fX10_workOf
  rw [hw, if_neg (nI_pos (by omega)), if_pos (nI_lt hk (by omega)), if_pos (v_in_nI (by omega) (by decide)), nI_clamp (by omega)]
  rfl
theorem e_workOfO {k w : Nat} (hw : M.1 0 12 = nI w) (hk : w ≤ k) (hk2 : k < 2 ^ 31) : fX10_workOf M (nI k) = rT 1 M := by
  unfold fX10_workOf
  rw [hw, if_neg (nI_pos (by omega)), if_neg (nI_nlt hk hk2)]
theorem e_workOfN {x : Int32} (hx : x < 0) : fX10_workOf M x = rT 1 M := by
  unfold fX10_workOf
  rw [if_pos hx]
/-- no such work: both refuse -/
theorem e_fail {x : Int32} : fX11_fail M x = rI 0 (v_si M 130 1 x) := rfl
theorem c0 (h : Rel M) : Rel (v_si M 130 1 0) := Rel_si h (by omega)
theorem Rel.W1 (h : Rel M) : M.1 130 2 = nI (qW M) ∧ qW M ≤ 6 ∧ M.1 0 12 = nI (qW M) := ⟨h.wks.2.1, h.wks.2.2, h.wks.1.trans h.wks.2.1⟩
theorem Rel.B1 (h : Rel M) : M.1 130 21 = nI (qB M) ∧ qB M ≤ 400 ∧ M.1 6 0 = nI (qB M) := ⟨h.led.1.2.1, h.led.1.2.2, h.led.1.1.trans h.led.1.2.1⟩
theorem o2 (h : Rel M) : okS (fun K => gCm (fX10_fault M) (fun M1 => fX11_fault M1) K) := by
  refine ⟨v_si M 130 1 0, c0 h, fun K => gCm_ok (z := M.1 0 13) (M1 := M) rfl ?_⟩
  show rI (M.1 130 40) _ = _
  rw [h.flt]
theorem what4 {x : Int32} (h3 : ¬ x < 3) (h6 : ¬ 6 < x) : x = 3 ∨ x = 4 ∨ x = 5 ∨ x = 6 := by
  rcases i32 x with h | ⟨k, hk, rfl⟩
  · exact absurd (Int32.lt_trans h (by decide)) h3
  · have a : ¬ k < 3 := fun q => h3 (nI_lt q (by decide))
    have b : ¬ 6 < k := fun q => h6 (nI_lt q hk)
    have : k = 3 ∨ k = 4 ∨ k = 5 ∨ k = 6 := by omega
    rcases this with rfl | rfl | rfl | rfl
    · exact Or.inl rfl
    · exact Or.inr (Or.inl rfl)
    · exact Or.inr (Or.inr (Or.inl rfl))
    · exact Or.inr (Or.inr (Or.inr rfl))
theorem rf (h : Rel M) {k : Nat} (hk : k < 4) : fX1_refused M 6 (nI k) = rI (M.1 14 k) M ∧ M.1 14 k = M.1 156 k := by
  unfold fX1_refused
  rw [e_at (len := 4) rfl hk (by decide), bi_I]
  exact ⟨rfl, h.led.2.2.2.2.2 k hk⟩
theorem o3 (h : Rel M) (x : Int32) : okS (fun K => gWr (fL_count M x) (fun M1 => fX11_count M1 x) K) := by
  unfold fL_count
  have hh : Rel (v_sl M 174 0 0) := Rel_sl h (by omega)
  have done : ∀ z : Int32, fX10_count M x = rI z M → (∀ M1 : vM, M1.1 = M.1 → fX11_count M1 x = rI z (v_si M1 130 1 0)) → okS (fun K => gWr (vWi (fX10_count M x) (kt1 1)) (fun M1 => fX11_count M1 x) K) := by
    intro z h1 h2
    refine ⟨v_si (v_sl M 174 0 z.toInt64) 130 1 0, c0 (Rel_sl h (by omega)), fun K => gWr_val h1 (h2 _ rfl) rfl ?_⟩
    rfl
  by_cases e0 : x = 0
  · subst e0
    refine done (M.1 130 2) ?_ (fun M1 e => ?_)
    · show rI (M.1 0 12) M = _
      rw [h.wks.1]
    · show rI (M1.1 130 2) _ = _
      rw [e]
  by_cases e1 : x = 1
  · subst e1
    refine done (M.1 130 31) ?_ (fun M1 e => ?_)
    · show rI (M.1 1 1) M = _
      rw [h.tape.2.2.1]
    · show rI (M1.1 130 31) _ = _
      rw [e]
  by_cases e2 : x = 2
  · subst e2
    refine done (M.1 130 21) ?_ (fun M1 e => ?_)
    · show rI (M.1 6 0) M = _
      rw [h.led.1.1]
    · show rI (M1.1 130 21) _ = _
      rw [e]
  have four : ∀ k : Nat, k < 4 → x = nI (k + 3) → okS (fun K => gWr (vWi (fX10_count M x) (kt1 1)) (fun M1 => fX11_count M1 x) K) := by
    intro k hk e
    have hr := rf h hk
    refine done (M.1 14 k) ?_ (fun M1 e9 => ?_)
    · match k, hk, e, hr with
      | 0, _, e, hr =>
        subst e
        unfold fX10_count
        rw [if_neg (by decide), if_neg (by decide), if_neg (by decide), if_pos (by decide), show nI (0 + 3) - 3 = nI 0 from by decide, hr.1, bi_I]
      | 1, _, e, hr =>
        subst e
        unfold fX10_count
        rw [if_neg (by decide), if_neg (by decide), if_neg (by decide), if_neg (by decide), if_pos (by decide), show nI (1 + 3) - 3 = nI 1 from by decide, hr.1, bi_I]
      | 2, _, e, hr =>
        subst e
        unfold fX10_count
        rw [if_neg (by decide), if_neg (by decide), if_neg (by decide), if_neg (by decide), if_neg (by decide), if_pos (by decide), show nI (2 + 3) - 3 = nI 2 from by decide, hr.1, bi_I]
      | 3, _, e, hr =>
        subst e
        unfold fX10_count
        rw [if_neg (by decide), if_neg (by decide), if_neg (by decide), if_neg (by decide), if_neg (by decide), if_neg (by decide), if_pos (by decide), show nI (3 + 3) - 3 = nI 3 from by decide, hr.1, bi_I]
    · unfold fX11_count
      rw [if_neg e0, if_neg e1, if_neg e2]
      have h9 : fX11_isIn (v_si M1 130 1 0) (nI (k + 3)) 3 6 = rI 1 (v_si M1 130 1 0) := e_isIn1 (a := 3) (b := 6) (by omega) (by omega) (by decide)
      rw [e, h9, bi_I, if_neg (by decide)]
      have e3 : nI (k + 3) - 3 = nI k := by
        rw [← nI_add]
        exact Int32.add_sub_cancel _ _
      rw [e3, if_pos (v_in_nI hk (by decide)), nI_clamp (by omega)]
      show rI (M1.1 156 k) _ = _
      rw [e9, hr.2]
  by_cases e3 : x = 3
  · exact four 0 (by decide) e3
  by_cases e4 : x = 4
  · exact four 1 (by decide) e4
  by_cases e5 : x = 5
  · exact four 2 (by decide) e5
  by_cases e6 : x = 6
  · exact four 3 (by decide) e6
  refine ⟨v_si (v_si M 130 1 0) 130 1 1, Rel_si (c0 h) (by omega), fun K => gWr_thr (k := 1) (c := 1) (z := 0) (M1 := M) ?_ rfl (by decide) ?_ rfl⟩
  · unfold fX10_count
    rw [if_neg e0, if_neg e1, if_neg e2, if_neg e3, if_neg e4, if_neg e5, if_neg e6]
  · unfold fX11_count
    rw [if_neg e0, if_neg e1, if_neg e2]
    unfold fX11_isIn
    by_cases h3 : x < 3
    · rw [if_pos h3, bi_I, if_pos rfl]
      rfl
    · by_cases h6 : 6 < x
      · rw [if_neg h3, if_pos h6, bi_I, if_pos rfl]
        rfl
      · rcases what4 h3 h6 with q | q | q | q
        · exact absurd q e3
        · exact absurd q e4
        · exact absurd q e5
        · exact absurd q e6
end P1
