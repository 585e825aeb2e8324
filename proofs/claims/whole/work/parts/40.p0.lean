/-! the pure sides: class and reference lie in one memory; Rel ties what they hold -/
/-- an int from 0 to b -/
def nIb (x : Int32) (b : Nat) : Prop := x = nI x.toNatClampNeg ∧ x.toNatClampNeg ≤ b
def qN (x : Int32) : Nat := x.toNatClampNeg
/-- how many works, and the book's length -/
def qW (M : vM) : Nat := qN (M.1 130 2)
def qB (M : vM) : Nat := qN (M.1 130 21)
/-- of a work: how many ways; a way's cost, mark, and whether it is spent -/
def qC (M : vM) (i : Nat) : Nat := qN (M.1 145 i)
def qco (M : vM) (i k : Nat) : Nat := qN (M.1 146 (2000 * i + k))
def qmk (M : vM) (i k : Nat) : Nat := qN (M.1 147 (2000 * i + k))
/-- a work's cell and its plan's -/
def qw (i : Nat) : Nat := 46 + 15 * i
def qp (M : vM) (i : Nat) : Nat := M.2.2 (qw i) 0 - 1
def qit (M : vM) (i : Nat) : Nat := qN (M.1 136 i)

def rTape (M : vM) : Prop := qN (M.1 130 31) ≤ 700 ∧ M.1 130 31 = nI (qN (M.1 130 31)) ∧ M.1 1 1 = M.1 130 31 ∧ ∀ i, i < qN (M.1 130 31) → nIb (M.1 157 i) 255 ∧ M.1 2 i = ((M.1 157 i).toInt8).toInt32
/-- the bits that count for nothing: of items free ones, of couples in an order -/
def cplN (i j : Nat) : Nat := j * (j - 1) / 2 + i
def fbJ (fr : Int32) (j : Nat) : Nat → Int32 → Int32
  | 0, s => s
  | i + 1, s => if (fr >>> (nI i &&& 31) &&& 1) = 0 ∧ (fr >>> (nI j &&& 31) &&& 1) = 0 then fbJ fr j i s else fbJ fr j i s ||| ((1 : Int32) <<< (nI (cplN i j) &&& 31))
def fbO (fr : Int32) : Nat → Int32
  | 0 => 0
  | j + 1 => fbJ fr j j (fbO fr j)
def fbits (kind fr : Int32) (many : Nat) : Int32 := if kind = 2 then fbO fr many else fr
/-- a work as both know it -/
def rWk (M : vM) (i : Nat) : Prop :=
  (M.1 (qp M i) 0 = M.1 132 i ∧ nIb (M.1 132 i) 2) ∧ (M.1 (qp M i) 1 = M.1 133 i ∧ nIb (M.1 133 i) 12) ∧ (M.1 (qp M i) 2 = M.1 134 i ∧ nIb (M.1 134 i) 2) ∧ (M.1 (qp M i) 3 = M.1 135 i ∧ nIb (M.1 135 i) 9 ∧ (M.1 134 i = 2 → 1 ≤ qN (M.1 135 i))) ∧
  (M.1 (qp M i) 4 = M.1 136 i ∧ nIb (M.1 136 i) 20 ∧ (M.1 132 i = 1 → qit M i ≤ 12) ∧ (M.1 132 i = 2 → qit M i ≤ 6)) ∧ M.1 (qp M i) 6 = M.1 137 i ∧
  (∀ j, j < qit M i → M.1 (qp M i + 1) j = M.1 141 (20 * i + j) ∧ nIb (M.1 141 (20 * i + j)) 999) ∧
  (M.1 132 i = 0 → 2 ≤ qN (M.1 133 i) ∧ ∀ j, j < qit M i → M.1 (qp M i + 2) j = M.1 139 (20 * i + j) ∧ M.1 (qp M i + 3) j = M.1 140 (20 * i + j) ∧ nIb (M.1 139 (20 * i + j)) 11 ∧ nIb (M.1 140 (20 * i + j)) 11 ∧ qN (M.1 139 (20 * i + j)) < qN (M.1 140 (20 * i + j)) ∧ qN (M.1 140 (20 * i + j)) < qN (M.1 133 i)) ∧
  M.1 (qw i) 3 = fbits (M.1 132 i) (M.1 137 i) (qit M i) ∧
  (M.1 (qw i) 1 = M.1 145 i ∧ nIb (M.1 145 i) 1458) ∧
  ((∀ k, k < qC M i → nIb (M.1 146 (2000 * i + k)) 1048575 ∧ nIb (M.1 147 (2000 * i + k)) 1048575 ∧ M.2.1 (qw i + 7) k = lN (qco M i k * 1048576 + qmk M i k) ∧ (M.1 132 i = 1 → qmk M i k < 2 ^ qit M i)) ∧ ∀ j k, j < k → k < qC M i → qmk M i j ≠ qmk M i k) ∧
  (∀ k, k < qC M i → M.1 (qw i + 8) k = M.1 148 (2000 * i + k) ∧ (M.1 148 (2000 * i + k) = 0 ∨ M.1 148 (2000 * i + k) = 1)) ∧
  M.1 (qw i) 2 = nI (fb_ct (fun k => M.1 148 (2000 * i + k) = 0) (qC M i))
/-- a book and what is told: the class's ledger at g, the reference's rows from r on, the book's length at n (w works) -/
def rLed (M : vM) (g r n w : Nat) : Prop :=
  (M.1 g 0 = M.1 130 n ∧ nIb (M.1 130 n) 400) ∧
  (∀ i, i < qN (M.1 130 n) → M.1 (g + 1) i = M.1 r i ∧ M.1 (g + 2) i = M.1 (r + 1) i ∧ nIb (M.1 r i) 5 ∧ qN (M.1 r i) < w ∧ nIb (M.1 (r + 1) i) 1457 ∧ qN (M.1 (r + 1) i) < qC M (qN (M.1 r i))) ∧
  (∀ i, i < w → M.1 (g + 3) i = M.1 (r + 2) i ∧ nIb (M.1 (r + 2) i) 100 ∧ ∀ j, j < qN (M.1 (r + 2) i) → M.1 (g + 4) (100 * i + j) = M.1 (r + 3) (100 * i + j)) ∧
  (∀ i, i < w → M.1 (g + 5) i = M.1 (r + 4) i ∧ nIb (M.1 (r + 4) i) 12 ∧ ∀ j, j < qN (M.1 (r + 4) i) → M.1 (g + 6) (12 * i + j) = M.1 (r + 5) (12 * i + j) ∧ nIb (M.1 (r + 5) (12 * i + j)) 9999) ∧
  (∀ y, y < 100 → M.1 (g + 7) y = M.1 (r + 6) y ∧ nIb (M.1 (r + 6) y) 99) ∧
  (∀ k, k < 4 → M.1 (g + 8) k = M.1 (r + 7) k)
/-- what is spent is what the book says -/
def rImg (M : vM) : Prop := M.1 0 14 = M.1 130 51 ∧ (M.1 130 51 = 0 ∨ M.1 130 51 = 1) ∧ (M.1 130 51 = 1 → rLed M 15 166 52 (qW M))
/-- the twelve plans, of which each is in one place -/
def qpl (M : vM) (j : Nat) : Nat := if j < 6 then M.2.2 (46 + 15 * j) 0 else M.2.2 4 (j - 6)
def rPl (M : vM) : Prop := v_WT M.2.2 ∧ ∀ a b, a < 12 → b < 12 → qpl M a = qpl M b → a = b
def Rel (M : vM) : Prop :=
  rPl M ∧ rTape M ∧ M.1 0 13 = M.1 130 40 ∧ (M.1 0 12 = M.1 130 2 ∧ nIb (M.1 130 2) 6) ∧ (∀ i, i < qW M → rWk M i) ∧ rLed M 6 149 21 (qW M) ∧ rImg M
theorem Rel.pl {M : vM} (h : Rel M) : rPl M := h.1
theorem Rel.tape {M : vM} (h : Rel M) : rTape M := h.2.1
theorem Rel.flt {M : vM} (h : Rel M) : M.1 0 13 = M.1 130 40 := h.2.2.1
theorem Rel.wks {M : vM} (h : Rel M) : M.1 0 12 = M.1 130 2 ∧ nIb (M.1 130 2) 6 := h.2.2.2.1
theorem Rel.wk {M : vM} (h : Rel M) {i : Nat} (hi : i < qW M) : rWk M i := h.2.2.2.2.1 i hi
theorem Rel.led {M : vM} (h : Rel M) : rLed M 6 149 21 (qW M) := h.2.2.2.2.2.1
theorem Rel.img {M : vM} (h : Rel M) : rImg M := h.2.2.2.2.2.2
theorem nIb_nI {n b : Nat} (h : n ≤ b) (hb : b < 2 ^ 31) : nIb (nI n) b := by
  have h1 : (nI n).toNatClampNeg = n := nI_clamp (by omega)
  exact ⟨by rw [h1], by rw [h1]; exact h⟩
theorem qN_nI {n : Nat} (h : n < 2 ^ 31) : qN (nI n) = n := nI_clamp h
/-- the cells that Rel doesn't speak of: what the calls use for themselves -/
def scr (c j : Nat) : Bool := (decide (c = 3)) || (decide (24 ≤ c ∧ c < 40)) || (decide (c = 130) && !(decide (j = 2)) && !(decide (j = 21)) && !(decide (j = 31)) && !(decide (j = 40)) && !(decide (j = 51)) && !(decide (j = 52))) || (decide (158 ≤ c ∧ c < 166)) || decide (174 ≤ c)
section P0
variable {M M' : vM}
theorem v_isP_b {p : Nat} (h : v_isP p) : 40 ≤ p ∧ p + 5 < 130 := by
  obtain ⟨q, hq, rfl⟩ := h
  have := (show ((List.range 12).all fun q => decide (40 ≤ v_plan q ∧ v_plan q + 5 < 130)) = true by decide +kernel)
  exact of_decide_eq_true (List.all_eq_true.mp this q (List.mem_range.mpr hq))
theorem v_isW_qw {i : Nat} (hi : i < 6) : v_isW (qw i) := ⟨i, hi, rfl⟩
theorem qp_P {i : Nat} (h : v_WT M.2.2) (hi : i < 6) : v_isP (qp M i) ∧ M.2.2 (qw i) 0 = qp M i + 1 := by
  obtain ⟨x, h1, h2⟩ := h.2.2 _ (v_isW_qw hi)
  unfold qp
  rw [h1]
  exact ⟨h2, rfl⟩
theorem rTape_congr (h : rTape M) (h1 : M'.1 130 31 = M.1 130 31) (h2 : M'.1 1 1 = M.1 1 1) (h3 : M'.1 157 = M.1 157) (h4 : M'.1 2 = M.1 2) : rTape M' := by
  simp only [rTape, h1, h2, h3, h4]
  exact h
theorem rWk_congr {i : Nat} (h : rWk M i) (hP : v_isP (qp M i)) (hi : i < 6) (h0 : M'.2.2 = M.2.2) (hc : ∀ c, 40 ≤ c → c < 130 → M'.1 c = M.1 c) (hr : ∀ c, 132 ≤ c → c < 149 → M'.1 c = M.1 c) (hl : ∀ c, 40 ≤ c → c < 130 → M'.2.1 c = M.2.1 c) : rWk M' i := by
  have hb := v_isP_b hP
  have e0 : qp M' i = qp M i := by simp only [qp, h0]
  have hw : qw i = 46 + 15 * i := rfl
  have p0 := hc (qp M i) (by omega) (by omega)
  have p1 := hc (qp M i + 1) (by omega) (by omega)
  have p2 := hc (qp M i + 2) (by omega) (by omega)
  have p3 := hc (qp M i + 3) (by omega) (by omega)
  have w0 := hc (qw i) (by omega) (by omega)
  have w8 := hc (qw i + 8) (by omega) (by omega)
  have l7 := hl (qw i + 7) (by omega) (by omega)
  simp only [rWk, qit, qC, qco, qmk, e0, p0, p1, p2, p3, w0, w8, l7, hr 132 (by decide) (by decide), hr 133 (by decide) (by decide), hr 134 (by decide) (by decide), hr 135 (by decide) (by decide), hr 136 (by decide) (by decide), hr 137 (by decide) (by decide), hr 139 (by decide) (by decide), hr 140 (by decide) (by decide), hr 141 (by decide) (by decide), hr 145 (by decide) (by decide), hr 146 (by decide) (by decide), hr 147 (by decide) (by decide), hr 148 (by decide) (by decide)]
  simp only [rWk, qit, qC, qco, qmk] at h
  exact h
theorem rLed_congr {g r n w : Nat} (h : rLed M g r n w) (hg : ∀ j, j < 9 → M'.1 (g + j) = M.1 (g + j)) (hr : ∀ j, j < 8 → M'.1 (r + j) = M.1 (r + j)) (hn : M'.1 130 n = M.1 130 n) (hC : M'.1 145 = M.1 145) : rLed M' g r n w := by
  have g0 := hg 0 (by decide)
  have r0 := hr 0 (by decide)
  rw [Nat.add_zero] at g0 r0
  simp only [rLed, qC, g0, r0, hg 1 (by decide), hg 2 (by decide), hg 3 (by decide), hg 4 (by decide), hg 5 (by decide), hg 6 (by decide), hg 7 (by decide), hg 8 (by decide), hr 1 (by decide), hr 2 (by decide), hr 3 (by decide), hr 4 (by decide), hr 5 (by decide), hr 6 (by decide), hr 7 (by decide), hn, hC]
  simp only [rLed, qC] at h
  exact h
theorem rPl_congr (h : rPl M) (h0 : M'.2.2 = M.2.2) : rPl M' := by
  simp only [rPl, qpl, h0]
  simp only [rPl, qpl] at h
  exact h
/-- the cells that Rel doesn't speak of: what the calls use for themselves -/
theorem Rel_congr (h : Rel M) (h0 : M'.2.2 = M.2.2) (hc : ∀ c, (c < 3 ∨ 6 ≤ c ∧ c < 24 ∨ 40 ≤ c ∧ c < 130 ∨ 132 ≤ c ∧ c < 158 ∨ 166 ≤ c ∧ c < 174) → M'.1 c = M.1 c) (hm : ∀ j, j = 2 ∨ j = 21 ∨ j = 31 ∨ j = 40 ∨ j = 51 ∨ j = 52 → M'.1 130 j = M.1 130 j) (hl : ∀ c, 40 ≤ c → c < 130 → M'.2.1 c = M.2.1 c) : Rel M' := by
  have eW : qW M' = qW M := by simp only [qW, hm 2 (by simp)]
  refine ⟨rPl_congr h.pl h0, rTape_congr h.tape (hm 31 (by simp)) (by rw [hc 1 (by omega)]) (hc 157 (by omega)) (hc 2 (by omega)), ?_, ?_, fun i hi => ?_, ?_, ?_, ?_, fun h1 => ?_⟩
  · rw [hc 0 (by omega), hm 40 (by simp)]
    exact h.flt
  · rw [hc 0 (by omega), hm 2 (by simp)]
    exact h.wks
  · rw [eW] at hi
    have hW : qW M ≤ 6 := h.wks.2.2
    exact rWk_congr (h.wk hi) (qp_P h.pl.1 (by omega)).1 (by omega) h0 (fun c h1 h2 => hc c (by omega)) (fun c h1 h2 => hc c (by omega)) hl
  · rw [eW]
    exact rLed_congr h.led (fun j hj => hc _ (by omega)) (fun j hj => hc _ (by omega)) (hm 21 (by simp)) (hc 145 (by omega))
  · rw [hc 0 (by omega), hm 51 (by simp)]
    exact h.img.1
  · rw [hm 51 (by simp)]
    exact h.img.2.1
  · rw [hm 51 (by simp)] at h1
    rw [eW]
    exact rLed_congr (h.img.2.2 h1) (fun j hj => hc _ (by omega)) (fun j hj => hc _ (by omega)) (hm 52 (by simp)) (hc 145 (by omega))
/-- one cell of the model's own, or of what calls use for themselves -/
theorem Rel_si {c j : Nat} {x : Int32} (h : Rel M) (hc : c = 3 ∨ 24 ≤ c ∧ c < 40 ∨ c = 130 ∧ (j ≠ 2 ∧ j ≠ 21 ∧ j ≠ 31 ∧ j ≠ 40 ∧ j ≠ 51 ∧ j ≠ 52) ∨ c = 131 ∨ 158 ≤ c ∧ c < 166 ∨ 174 ≤ c) : Rel (v_si M c j x) := by
  refine Rel_congr h rfl (fun c' h' => v_si_o (by omega)) (fun j' h' => ?_) (fun c' _ _ => rfl)
  show (if 130 = c ∧ j' = j then x else M.1 130 j') = M.1 130 j'
  rw [if_neg (by omega)]
theorem Rel_sl {c j : Nat} {x : Int64} (h : Rel M) (hc : c < 40 ∨ 130 ≤ c) : Rel (v_sl M c j x) := by
  refine Rel_congr h rfl (fun c' h' => rfl) (fun j' h' => rfl) (fun c' h1 h2 => v_sl_o (by omega))
/-! the law's comparison of one call -/
theorem gWr_val {f : Option (vR × vM)} {KT : Nat → vM → Option (vR × vM)} {g K : vM → Option (vR × vM)} {z : Int32} {M1 M2 : vM} (h1 : f = rI z M1) (h2 : g (v_sl M1 174 0 z.toInt64) = rI z M2) (h3 : M2.1 130 1 = 0) (h4 : M2.2.1 174 0 = z.toInt64) : gWr (vWi f KT) g K = K M2 := by
  subst h1
  show bi (rI 0 (v_sl M1 174 0 z.toInt64)) _ = _
  rw [bi_I, h2, bi_I]
  unfold fX11_thrown
  rw [bi_I, h3, if_pos rfl, if_pos rfl, h4, if_pos]
  simp [lg_cmp]
theorem gWr_thr {f : Option (vR × vM)} {KT : Nat → vM → Option (vR × vM)} {g K : vM → Option (vR × vM)} {k : Nat} {c z : Int32} {M1 M2 : vM} (h1 : f = rT k M1) (hk : KT k M1 = rI c M1) (hc : c ≠ 0) (h2 : g M1 = rI z M2) (h3 : M2.1 130 1 = c) : gWr (vWi f KT) g K = K M2 := by
  subst h1
  show bi (KT k M1) _ = _
  rw [hk, bi_I, h2, bi_I]
  unfold fX11_thrown
  rw [bi_I, h3, if_pos rfl, if_neg hc]
theorem gCm_ok {f : Option (vR × vM)} {g K : vM → Option (vR × vM)} {z : Int32} {M1 M2 : vM} (h1 : f = rI z M1) (h2 : g M1 = rI z M2) : gCm f g K = K M2 := by
  subst h1
  unfold gCm
  rw [bi_I, h2, bi_I, if_pos rfl]
end P0
