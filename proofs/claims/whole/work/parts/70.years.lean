section P30
variable {M N : vM} {i : Nat}
/-- the years of a weight; what the ways cost that they get -/
def ctY (A : Nat → Nat → Int32) (w Y : Nat) : Nat := fb_ct (fun y => decide (qN (A 155 y) = w)) Y
def acS (cst : Nat → Int32) (w : Nat) : Nat → Nat → Int32 → Int32
  | 0, _, a => a
  | c + 1, r, a => acS cst w c (r + 1) (a + nI w * cst r)
theorem acS_end {cst : Nat → Int32} {w : Nat} : ∀ c r a, acS cst w (c + 1) r a = acS cst w c r a + nI w * cst (r + c)
  | 0, r, a => rfl
  | c + 1, r, a => by
    show acS cst w (c + 1) (r + 1) (a + nI w * cst r) = acS cst w c (r + 1) (a + nI w * cst r) + _
    rw [acS_end c (r + 1), show r + 1 + c = r + (c + 1) by omega]
def yrS (A : Nat → Nat → Int32) (cst : Nat → Int32) (Y : Nat) : Nat → Nat → Int32 → Int32
  | 0, _, a => a
  | v + 1, r, a => yrS A cst Y v (r + ctY A v Y) (acS cst v (ctY A v Y) r a)
theorem sm_one (a : Nat) : ∀ m, fb_sm (fun w => if a = w then 1 else 0) m ≤ 1 ∧ (m ≤ a → fb_sm (fun w => if a = w then 1 else 0) m = 0)
  | 0 => ⟨Nat.zero_le _, fun _ => rfl⟩
  | m + 1 => by
    have ih := sm_one a m
    rw [fb_sm_succ]
    by_cases q : a = m
    · rw [if_pos q, ih.2 (by omega)]
      exact ⟨Nat.le_refl _, fun h => by omega⟩
    · rw [if_neg q]
      exact ⟨ih.1, fun h => ih.2 (by omega)⟩
theorem ctY_sum (A : Nat → Nat → Int32) (m : Nat) : ∀ Y, fb_sm (fun w => ctY A w Y) m ≤ Y
  | 0 => by
    rw [show fb_sm (fun w => ctY A w 0) m = fb_sm (fun _ => 0) m from fb_sm_cong (fun _ _ => rfl), fb_sm_const]
    omega
  | Y + 1 => by
    have ih := ctY_sum A m Y
    have h1 := (sm_one (qN (A 155 Y)) m).1
    have e : fb_sm (fun w => ctY A w (Y + 1)) m = fb_sm (fun w => ctY A w Y + (if qN (A 155 Y) = w then 1 else 0)) m := fb_sm_cong (fun w _ => by
      show fb_ct _ (Y + 1) = _
      rw [fb_ct_succ]
      refine congrArg (ctY A w Y + ·) ?_
      by_cases q : qN (A 155 Y) = w
      · rw [if_pos q, if_pos (decide_eq_true q)]
      · rw [if_neg q, if_neg (by rw [decide_eq_false q]; decide)])
    rw [e, fb_sm_add]
    omega
theorem r_y18 (h : rWk M i) (hi : i < 6) (hw : ∀ y, y < 100 → nIb (M.1 155 y) 99) {k10 : vM → Int32 → Int32 → Int32 → Int32 → Int32 → Option (vR × vM)} {Y v r : Nat} {a : Int32} (hY : Y ≤ 100) (hv : v ≤ 99) (hr : r + ctY M.1 v Y ≤ (uL M.1 i).length) :
    ∀ (n f k : Nat), n < f → k + n = Y → fX11_yearCosts_18 k10 f M (nI i) (nI Y) (acS (fun r => M.1 146 (2000 * i + (uL M.1 i).getD r 0)) v (ctY M.1 v k) r a) (nI (r + ctY M.1 v k)) (nI v) (nI k) = k10 M (nI i) (nI Y) (acS (fun r => M.1 146 (2000 * i + (uL M.1 i).getD r 0)) v (ctY M.1 v Y) r a) (nI (r + ctY M.1 v Y)) (nI v + (-1)) := by
  have hU := uL_le h
  have hU2 := uL_2000 h
  intro n
  induction n with
  | zero =>
    intro f k hf hk
    cases f with
    | zero => exact absurd hf (Nat.not_lt_zero _)
    | succ f =>
      unfold fX11_yearCosts_18
      rw [if_pos (nI_le (by omega) (by omega)), show k = Y by omega]
  | succ n ih =>
    intro f k hf hk
    cases f with
    | zero => exact absurd hf (Nat.not_lt_zero _)
    | succ f =>
      have hb := hw k (by omega)
      have es : ctY M.1 v (k + 1) = ctY M.1 v k + (if decide (qN (M.1 155 k) = v) = true then 1 else 0) := fb_ct_succ _ _
      have hmo : ctY M.1 v (k + 1) ≤ ctY M.1 v Y := fb_ct_mono _ (by omega)
      have hih := ih f (k + 1) (by omega) (by omega)
      unfold fX11_yearCosts_18
      rw [if_neg (nI_ge (by omega) (by omega)), if_pos (v_in_nI (by omega) (by decide)), nI_clamp (by omega)]
      by_cases q : qN (M.1 155 k) = v
      · rw [if_pos (decide_eq_true q)] at es
        have hlt : r + ctY M.1 v k < (uL M.1 i).length := by omega
        have hm := hU2 _ (getD_mem (uL M.1 i) (r + ctY M.1 v k) 0 hlt)
        rw [if_pos (by rw [hb.e, q]), r_leftAt h hi, bi_I, sLeft_at (by omega), show atL (uL M.1 i) (r + ctY M.1 v k) = nI ((uL M.1 i).getD (r + ctY M.1 v k) 0) from if_pos hlt, e_ix, if_pos (r_in hi hm), nI_clamp (by omega), nI_1, nI_1, ← hih, es]
        refine congrArg (fun t => fX11_yearCosts_18 k10 f M (nI i) (nI Y) t (nI (r + ctY M.1 v k + 1)) (nI v) (nI (k + 1))) ?_
        rw [acS_end]
      · rw [if_neg (by rw [decide_eq_false q]; decide), Nat.add_zero] at es
        rw [es] at hih
        rw [if_neg (fun z => q (by rw [z, qN_nI (by omega)])), nI_1]
        exact hih
theorem r_y10 (h : rWk M i) (hi : i < 6) (hw : ∀ y, y < 100 → nIb (M.1 155 y) 99) {Y : Nat} (hY : Y ≤ 100) : ∀ (n f r : Nat) (a : Int32), n < f → n ≤ 100 → r + fb_sm (fun w => ctY M.1 w Y) n ≤ (uL M.1 i).length → fX11_yearCosts_10 f M (nI i) (nI Y) a (nI r) (nI n - 1) = rI (yrS M.1 (fun r => M.1 146 (2000 * i + (uL M.1 i).getD r 0)) Y n r a) M := by
  have hU := uL_le h
  intro n
  induction n with
  | zero =>
    intro f r a hf hn hr
    cases f with
    | zero => exact absurd hf (Nat.not_lt_zero _)
    | succ f =>
      unfold fX11_yearCosts_10
      rw [if_pos (show nI 0 - 1 < 0 by decide)]
      rfl
  | succ n ih =>
    intro f r a hf hn hr
    cases f with
    | zero => exact absurd hf (Nat.not_lt_zero _)
    | succ f =>
      rw [fb_sm_succ] at hr
      unfold fX11_yearCosts_10
      rw [show nI (n + 1) - 1 = nI n from nI_sub (b := 1) (Nat.succ_le_succ (Nat.zero_le n)), if_neg (nI_pos (by omega))]
      have e := r_y18 h hi hw (k10 := fX11_yearCosts_10 f) (Y := Y) (v := n) (r := r) (a := a) hY (by omega) (by omega) Y FU 0 (FU_lt (by omega)) (Nat.zero_add _)
      refine Eq.trans e ?_
      rw [show nI n + -1 = nI n - 1 from (Int32.sub_eq_add_neg _ _).symm]
      exact ih f (r + ctY M.1 n Y) _ (by omega) (by omega) (by omega)
theorem r_yc (h : rWk M i) (hi : i < 6) (hw : ∀ y, y < 100 → nIb (M.1 155 y) 99) {Y s : Nat} (hY : Y ≤ 100) (hs : Y + s ≤ (uL M.1 i).length) : fX11_yearCosts M (nI i) (nI Y) (nI s) = rI (yrS M.1 (fun r => M.1 146 (2000 * i + (uL M.1 i).getD r 0)) Y 100 s 0) M := by
  have := ctY_sum M.1 100 Y
  exact r_y10 h hi hw hY 100 FU s 0 (FU_lt (by decide)) (Nat.le_refl _) (by omega)
/-! the class's -/
theorem c_cw (hw : ∀ y, y < 100 → N.1 13 y = M.1 155 y ∧ nIb (M.1 155 y) 99) {Y : Nat} (hY : Y ≤ 100) : ∀ (n f k : Nat) (N' : vM), n < f → k + n = Y → N'.2 = N.2 → (∀ c, c ≠ 33 → N'.1 c = N.1 c) → (∀ w, w < 100 → N'.1 33 w = nI (ctY M.1 w k)) →
    ∃ Q, fX0_countWeights_10 f N' 6 (nI Y) (nI k) = rV Q ∧ Q.2 = N.2 ∧ (∀ c, c ≠ 33 → Q.1 c = N.1 c) ∧ ∀ w, w < 100 → Q.1 33 w = nI (ctY M.1 w Y) := by
  intro n
  induction n with
  | zero =>
    intro f k N' hf hk h2 hc hr
    cases f with
    | zero => exact absurd hf (Nat.not_lt_zero _)
    | succ f =>
      refine ⟨N', ?_, h2, hc, by rw [← show k = Y by omega]; exact hr⟩
      unfold fX0_countWeights_10
      rw [if_pos (nI_le (by omega) (by omega))]
  | succ n ih =>
    intro f k N' hf hk h2 hc hr
    cases f with
    | zero => exact absurd hf (Nat.not_lt_zero _)
    | succ f =>
      obtain ⟨w1, w2⟩ := hw k (by omega)
      have hle := w2.le
      obtain ⟨Q, a, b, c, d⟩ := ih f (k + 1) (v_si N' 33 (qN (M.1 155 k)) (nI (ctY M.1 (qN (M.1 155 k)) k + 1))) (by omega) (by omega) h2 (fun c hc9 => by rw [si_c hc9]; exact hc c hc9) (fun w hw9 => by
        have es : ctY M.1 w (k + 1) = ctY M.1 w k + (if decide (qN (M.1 155 k) = w) = true then 1 else 0) := fb_ct_succ _ _
        rw [es]
        by_cases q : qN (M.1 155 k) = w
        · rw [if_pos (decide_eq_true q), ← q, si_s]
        · rw [si_n (fun z => q z.symm), if_neg (by rw [decide_eq_false q]; decide)]
          exact hr w hw9)
      refine ⟨Q, ?_, b, c, d⟩
      unfold fX0_countWeights_10 fX1_weightOf
      rw [if_neg (nI_ge (by omega) (by omega)), show 6 + 7 = 13 from rfl, e_at (len := 100) rfl (by omega) (by decide), bi_I, bi_I, hc 13 (by decide), w1, w2.e, e_at (len := 100) rfl (by omega) (by decide), bi_I, hr _ (by omega), nI_1, e_put (len := 100) rfl (by omega) (by decide), bv_V, nI_1]
      exact a
theorem c_l29 (h : rWk M i) {k13 : vM → Nat → Int32 → Int32 → Int32 → Option (vR × vM)} {v : Nat} : ∀ (n f r : Nat) (a : Int32), n < f → n ≤ 1458 → r + n ≤ (uL M.1 i).length → fX0_leastCost_29 k13 f M (qw i) a (atL (uL M.1 i) r) (nI v) (nI n) = k13 M (qw i) (acS (fun r => M.1 146 (2000 * i + (uL M.1 i).getD r 0)) v n r a) (atL (uL M.1 i) (r + n)) (nI v + (-1)) := by
  have hU2 := uL_2000 h
  intro n
  induction n with
  | zero =>
    intro f r a hf hn hr
    cases f with
    | zero => exact absurd hf (Nat.not_lt_zero _)
    | succ f =>
      unfold fX0_leastCost_29
      rw [if_pos (show nI 0 ≤ 0 by decide)]
      rfl
  | succ n ih =>
    intro f r a hf hn hr
    cases f with
    | zero => exact absurd hf (Nat.not_lt_zero _)
    | succ f =>
      have hlt : r < (uL M.1 i).length := by omega
      have hm := (uL_mem (getD_mem (uL M.1 i) r 0 hlt)).1
      unfold fX0_leastCost_29
      rw [if_neg (show ¬ nI (n + 1) ≤ 0 from nI_ge (show 0 < n + 1 by omega) (by omega)), if_neg (atL_ne hlt hU2), show atL (uL M.1 i) r = nI ((uL M.1 i).getD r 0) from if_pos hlt, e_costOf h hm, bi_I, ← show atL (uL M.1 i) r = nI ((uL M.1 i).getD r 0) from if_pos hlt, c_nxS h hlt, bi_I, show nI (n + 1) + -1 = nI n from (Int32.sub_eq_add_neg _ 1).symm.trans (nI_sub (b := 1) (Nat.succ_le_succ (Nat.zero_le n))), ih f (r + 1) _ (by omega) (by omega) (by omega), show r + 1 + n = r + (n + 1) by omega]
      rfl
theorem c_l13 (h : rWk M i) {Y : Nat} {B : Nat → Nat → Int32} (hY : Y ≤ 100) (h33 : ∀ w, w < 100 → M.1 33 w = nI (ctY B w Y)) : ∀ (n f r : Nat) (a : Int32), n < f → n ≤ 100 → r + fb_sm (fun w => ctY B w Y) n ≤ (uL M.1 i).length → fX0_leastCost_13 f M (qw i) a (atL (uL M.1 i) r) (nI n - 1) = rI (yrS B (fun r => M.1 146 (2000 * i + (uL M.1 i).getD r 0)) Y n r a) M := by
  have hU := uL_le h
  intro n
  induction n with
  | zero =>
    intro f r a hf hn hr
    cases f with
    | zero => exact absurd hf (Nat.not_lt_zero _)
    | succ f =>
      unfold fX0_leastCost_13
      rw [if_pos (show nI 0 - 1 < 0 by decide)]
      rfl
  | succ n ih =>
    intro f r a hf hn hr
    cases f with
    | zero => exact absurd hf (Nat.not_lt_zero _)
    | succ f =>
      rw [fb_sm_succ] at hr
      unfold fX0_leastCost_13
      rw [show nI (n + 1) - 1 = nI n from nI_sub (b := 1) (Nat.succ_le_succ (Nat.zero_le n)), if_neg (nI_pos (by omega)), e_at (len := 100) rfl (by omega) (by decide), bi_I, h33 n (by omega)]
      rw [c_l29 h (k13 := fX0_leastCost_13 f) (v := n) (ctY B n Y) FU r a (FU_lt (by omega)) (by omega) (by omega), show nI n + -1 = nI n - 1 from (Int32.sub_eq_add_neg _ _).symm]
      exact ih f (r + ctY B n Y) _ (by omega) (by omega) (by omega)
theorem c_lc (h : rWk M i) {Y s : Nat} {B : Nat → Nat → Int32} (hY : Y ≤ 100) (h33 : ∀ w, w < 100 → M.1 33 w = nI (ctY B w Y)) (hs : Y + s ≤ (uL M.1 i).length) : fX0_leastCost M (qw i) (nI s) = rI (yrS B (fun r => M.1 146 (2000 * i + (uL M.1 i).getD r 0)) Y 100 s 0) M := by
  have := ctY_sum B 100 Y
  have := uL_le h
  unfold fX0_leastCost
  rw [c_unspentAt h, bi_I, sLeft_at (by omega)]
  exact c_l13 h hY h33 100 FU s 0 (FU_lt (by decide)) (Nat.le_refl _) (by omega)
theorem c_fl33 : ∀ (n f k : Nat) (N : vM), n < f → k + n = 100 → (∀ j, j < k → N.1 33 j = 0) →
    ∃ N', fJ7_fill_53178_5 f N 33 0 (nI k) (nI 100) = rV N' ∧ N'.2 = N.2 ∧ (∀ c, c ≠ 33 → N'.1 c = N.1 c) ∧ ∀ j, j < 100 → N'.1 33 j = 0 := by
  intro n
  induction n with
  | zero =>
    intro f k N hf hk hr
    cases f with
    | zero => exact absurd hf (Nat.not_lt_zero _)
    | succ f =>
      refine ⟨N, ?_, rfl, fun _ _ => rfl, fun j hj => hr j (by omega)⟩
      unfold fJ7_fill_53178_5
      rw [if_pos (nI_le (by omega) (by omega))]
  | succ n ih =>
    intro f k N hf hk hr
    cases f with
    | zero => exact absurd hf (Nat.not_lt_zero _)
    | succ f =>
      obtain ⟨N', a, b, d, e⟩ := ih f (k + 1) (v_si N 33 k 0) (by omega) (by omega) (fun j hj => by
        by_cases q : j = k
        · rw [q, si_s]
        · rw [si_n q]; exact hr j (by omega))
      refine ⟨N', ?_, b, fun c hc => by rw [d c hc, si_c hc], e⟩
      unfold fJ7_fill_53178_5
      rw [if_neg (nI_ge (by omega) (by omega)), show (v_LAY 33).2.2 = 100 from rfl, if_pos (v_in_nI (by omega) (by decide)), nI_clamp (by omega), nI_1]
      exact a
theorem yrS_g {A B : Nat → Nat → Int32} {f g : Nat → Int32} {Y : Nat} (h1 : A 155 = B 155) (h2 : f = g) : yrS A f Y = yrS B g Y := by
  have e : ∀ n r a, yrS A f Y n r a = yrS B g Y n r a := by
    intro n
    induction n with
    | zero => intro r a; rfl
    | succ n ih =>
      intro r a
      show yrS A f Y n (r + ctY A n Y) _ = yrS B g Y n (r + ctY B n Y) _
      rw [ih, h2]
      unfold ctY
      rw [h1]
  funext n r a
  exact e n r a
theorem uL_g {A B : Nat → Nat → Int32} (h1 : A 148 = B 148) (h2 : A 145 = B 145) : uL A i = uL B i := by
  unfold uL
  simp only [h1, h2]
theorem o15 (h : Rel M) (x y z : Int32) : okS (fun K => gWr (fL_years M x y z) (fun M1 => fX11_years M1 x y z) K) := by
  unfold fL_years
  rcases isWk h x with ⟨a, b⟩ | ⟨i, hi, rfl⟩
  · refine fin_f1 h (by unfold fX10_years; rw [a]; rfl) rfl ?_
    unfold fX11_years
    rw [b (v_si M 130 1 0) rfl, bi_I, if_pos rfl]
    rfl
  have h6 : i < 6 := by have := h.W1.2.1; omega
  rcases wWhat (M := M) (x := z) (n := 2) (by decide) with ⟨a, b⟩ | ⟨v, hv, rfl⟩
  · refine fin_f1 h (by unfold fX10_years; rw [wOf h hi, br_R, show (2 : Int32) = nI 2 from rfl, a]; rfl) rfl ?_
    unfold fX11_years
    rw [rOf (c0 h) hi, bi_I, if_neg (by decide), rWhat2 b]
    rfl
  rcases wWithin (M := M) (x := y) (a := 1) (b := 100) (by decide) (by decide) with ⟨a, b⟩ | ⟨Y, hY1, hY, rfl⟩
  · refine fin_f2 h (by unfold fX10_years; rw [wOf h hi, br_R, show fX10_refuseUnlessWhat M (nI v) 2 = rV M from wWhatY (n := 2) hv (by decide), bv_V, show fX10_refuseUnlessWithin M y 1 100 = rT 2 M from a]; rfl) rfl ?_
    unfold fX11_years
    rw [rOf (c0 h) hi, bi_I, if_neg (by decide), rWhat2' hv, show fX11_isIn (v_si M 130 1 0) y 1 100 = rI 0 _ from b _, bi_I, if_pos rfl]
    rfl
  have hwk := h.wk hi
  have hU := uL_le hwk
  have hlc : sCnt M.1 i = (uL M.1 i).length := uL_len.symm
  have hc1 : fX10_years M (nI i) (nI Y) (nI v) = fX10_years_28 M (nI Y) (nI v) (qw i) (nI v) := by
    unfold fX10_years
    rw [wOf h hi, br_R, show fX10_refuseUnlessWhat M (nI v) 2 = rV M from wWhatY (n := 2) hv (by decide), bv_V, show fX10_refuseUnlessWithin M (nI Y) 1 100 = rV M from wWithinY (a := 1) (b := 100) hY1 hY (by decide), bv_V]
    rcases (show v = 0 ∨ v = 1 by omega) with rfl | rfl <;> rfl
  have hr1 : ∀ S : vM, Rel S → i < qW S → S.1 130 1 = 0 → fX11_years S (nI i) (nI Y) (nI v) = (bi (fX11_leftOf S (nI i)) fun y23 M24 => if (nI Y + nI v) ≤ y23 then if nI v = 0 then bi (fX11_yearCosts M24 (nI i) (nI Y) 0) fun y37 M38 => rI y37 M38 else bi (fX11_yearCosts M24 (nI i) (nI Y) 1) fun y29 M30 => bi (fX11_yearCosts M30 (nI i) (nI Y) 0) fun y33 M34 => rI (y29 - y33) M34 else rI ((-1)) M24) := fun S hS hiS h01 => by
    unfold fX11_years
    rw [si_id h01, rOf hS hiS, bi_I, if_neg (by decide), rWhat2' hv, show fX11_isIn S (nI Y) 1 100 = rI 1 _ from e_isIn1 (a := 1) (b := 100) hY1 hY (by decide), bi_I, if_neg (by decide)]
  by_cases q : Y + v ≤ (uL M.1 i).length
  · obtain ⟨N1, a1, a2, a3, a4⟩ := c_fl33 100 FU 0 M (FU_lt (by decide)) rfl (fun j hj => absurd hj (Nat.not_lt_zero _))
    have hled : ∀ y, y < 100 → M.1 13 y = M.1 155 y ∧ nIb (M.1 155 y) 99 := h.led.2.2.2.2.1
    obtain ⟨N2, b1, b2, b3, b4⟩ := c_cw (M := M) (N := M) hled hY Y FU 0 N1 (FU_lt (by omega)) (Nat.zero_add _) a2 a3 (fun w hw => a4 w hw)
    have hR2 : Rel N2 := Rel_congr h (by rw [b2]) (fun c hc => b3 c (by omega)) (fun j _ => by rw [b3 130 (by decide)]) (fun c _ _ => by rw [b2])
    have hi2 : i < qW N2 := by show i < qN (N2.1 130 2); rw [b3 130 (by decide)]; exact hi
    have e2 : uL N2.1 i = uL M.1 i := uL_g (b3 148 (by decide)) (b3 145 (by decide))
    have ecw : fX0_countWeights M 6 (nI Y) = rV N2 := by
      unfold fX0_countWeights fJ7_fill_53178
      rw [show (v_LAY 33).2.2 = 100 from rfl, show fJ7_fill_53178_5 FU M 33 0 0 (nI 100) = rV N1 from a1, bv_V]
      exact b1
    have elc : ∀ s, Y + s ≤ (uL M.1 i).length → fX0_leastCost N2 (qw i) (nI s) = rI (yrS M.1 (fun r => M.1 146 (2000 * i + (uL M.1 i).getD r 0)) Y 100 s 0) N2 := fun s hs => by
      have := c_lc (hR2.wk hi2) (B := M.1) hY b4 (s := s) (by rw [e2]; exact hs)
      rw [this, e2, b3 146 (by decide)]
    generalize hz : (if v = 0 then yrS M.1 (fun r => M.1 146 (2000 * i + (uL M.1 i).getD r 0)) Y 100 0 0 else yrS M.1 (fun r => M.1 146 (2000 * i + (uL M.1 i).getD r 0)) Y 100 1 0 - yrS M.1 (fun r => M.1 146 (2000 * i + (uL M.1 i).getD r 0)) Y 100 0 0 : Int32) = zz
    have hr : fX10_years M (nI i) (nI Y) (nI v) = rI zz N2 := by
      rw [hc1]
      unfold fX10_years_28
      rw [c_unspent hwk, hlc, nI_sub (by omega), if_pos (nI_le (by omega) (by omega)), ecw, bv_V, show fX0_leastCost N2 (qw i) 0 = _ from elc 0 (by omega), bi_I, ← hz]
      rcases (show v = 0 ∨ v = 1 by omega) with rfl | rfl
      · rfl
      · rw [if_neg (by decide), elc 1 q, bi_I]
        rfl
    generalize hS : v_si (v_sl N2 174 0 zz.toInt64) 130 1 0 = S
    have hRS : Rel S := by rw [← hS]; exact c0 (Rel_sl hR2 (by omega))
    have sc : ∀ c, c ≠ 33 → c ≠ 130 → S.1 c = M.1 c := fun c h1 h2 => by rw [← hS, si_c h2]; exact b3 c h1
    have hiS : i < qW S := by show i < qN (S.1 130 2); rw [← hS, si_n (by decide)]; show i < qN (N2.1 130 2); rw [b3 130 (by decide)]; exact hi
    have eS : uL S.1 i = uL M.1 i := uL_g (sc 148 (by decide) (by decide)) (sc 145 (by decide) (by decide))
    have eyc : ∀ s, Y + s ≤ (uL M.1 i).length → fX11_yearCosts S (nI i) (nI Y) (nI s) = rI (yrS M.1 (fun r => M.1 146 (2000 * i + (uL M.1 i).getD r 0)) Y 100 s 0) S := fun s hs => by
      have := r_yc (hRS.wk hiS) h6 (fun y hy => by rw [sc 155 (by decide) (by decide)]; exact (hled y hy).2) hY (s := s) (by rw [eS]; exact hs)
      rw [this, eS, sc 146 (by decide) (by decide), yrS_g (sc 155 (by decide) (by decide)) rfl]
    have hS01 : S.1 130 1 = 0 := by rw [← hS, si_s]
    refine fin_val hr ?_ (M2 := S) hS01 (by rw [← hS]; rfl) hRS
    have e9 : fX11_years (v_sl N2 174 0 zz.toInt64) (nI i) (nI Y) (nI v) = fX11_years S (nI i) (nI Y) (nI v) := by
      unfold fX11_years
      rw [hS, si_id hS01]
    rw [e9, hr1 S hRS hiS hS01, r_leftOf (hRS.wk hiS) h6, bi_I, nI_add, show sCnt S.1 i = (uL M.1 i).length from by rw [← eS]; exact uL_len.symm, if_pos (nI_le q (by omega)), ← hz]
    rcases (show v = 0 ∨ v = 1 by omega) with rfl | rfl
    · rw [if_pos (show nI 0 = 0 from rfl), show fX11_yearCosts S (nI i) (nI Y) 0 = _ from eyc 0 (by omega), bi_I, if_pos rfl]
    · rw [if_neg (by decide), show fX11_yearCosts S (nI i) (nI Y) 1 = _ from eyc 1 q, bi_I, show fX11_yearCosts S (nI i) (nI Y) 0 = _ from eyc 0 (by omega), bi_I, if_neg (by decide)]
  · refine fin_ro h (z := -1) ?_ (fun M1 e hM1 => ?_)
    · rw [hc1]
      unfold fX10_years_28
      rw [c_unspent hwk, hlc]
      by_cases z : v ≤ (uL M.1 i).length
      · rw [nI_sub z, if_neg (nI_ge (by omega) (by omega))]
      · rw [show (uL M.1 i).length = 0 by omega, show v = 1 by omega, if_neg (fun w => by
          have h1 : nI 0 - nI 1 < 0 := by decide
          have := fa_of_lt h1
          have h2 : nI Y < 0 := by
            rw [fa_lt]
            rw [fa_le] at w
            rw [fa_lt] at h1
            omega
          exact nI_pos (by omega) h2)]
    · have h2 := c0 hM1
      have hi1 := qW_c (i := i) e hi
      have e9 : fX11_years M1 (nI i) (nI Y) (nI v) = fX11_years (v_si M1 130 1 0) (nI i) (nI Y) (nI v) := by
        unfold fX11_years
        rw [si_id (N := v_si M1 130 1 0) (c := 130) (j := 1) (x := 0) si_s]
      rw [e9, hr1 _ h2 hi1 si_s, r_leftOf (h2.wk hi1) h6, bi_I, nI_add, show sCnt (v_si M1 130 1 0).1 i = (uL M.1 i).length from by rw [← hlc]; unfold sCnt; rw [si_c (by decide), si_c (by decide), e], if_neg (nI_ge (by omega) (by omega))]
end P30
