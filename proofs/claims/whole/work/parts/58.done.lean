section P18
variable {M N : vM} {i : Nat}
theorem r_freeBits1 {N : vM} (hi : i < 6) {m : Nat} (hm : N.1 136 i = nI m) (h2 : N.1 132 i = 2 → m ≤ 19) : fX11_freeBits N (nI i) = rI (fbits (N.1 132 i) (N.1 137 i) m) N := by
  unfold fX11_freeBits fbits
  rw [if_pos (v_in_nI (by omega) (by decide)), nI_clamp (by omega)]
  by_cases q : N.1 132 i = 2
  · rw [if_pos q, if_pos q]
    have := h2 q
    exact l_fb21 hi hm this m FU 0 (FU_lt (by omega)) (Nat.zero_add _)
  · rw [if_neg q, if_neg q, if_pos (v_in_nI (by omega) (by decide))]
theorem r_spend {N : vM} (hi : i < 6) {m : Nat} (hm : N.1 136 i = nI m) (h2 : N.1 132 i = 2 → m ≤ 19) {R base len : Nat} (hR : (v_LAY R).2.2 = len) (hl : len < 2 ^ 31) (hR2 : R = 148 ∨ R = 159) {c : Nat} {mk : Nat → Nat} (hb : base + c ≤ len) (hO : rOK N i c mk) {way : Nat} (hw : way < c) :
    fX11_spend N (nI i) (nI way) R (nI base) = rV (v_up1 N R (fun j => base ≤ j ∧ j < base + c ∧ sSame (N.1 134 i) (fbits (N.1 132 i) (N.1 137 i) m) (N.1 135 i) (mk (j - base) ^^^ mk way) = 1)) := by
  have hc := hO.2.1
  unfold fX11_spend
  rw [if_pos (v_in_nI (by omega) (by decide)), nI_clamp (by omega)]
  by_cases q : N.1 134 i = 1
  · rw [if_pos q, r_freeBits1 hi hm h2, bi_I]
    have e := l_sp24 hi hR hl hR2 hb hw (bits := fbits (N.1 132 i) (N.1 137 i) m) c FU 0 N (FU_lt (by omega)) (Nat.zero_add _) hO
    rw [nI_0, Nat.add_zero] at e
    exact e
  · rw [if_neg q]
    have e := l_sp24 hi hR hl hR2 hb hw (bits := 0) c FU 0 N (FU_lt (by omega)) (Nat.zero_add _) hO
    rw [nI_0, Nat.add_zero] at e
    rw [e]
    refine congrArg rV (up_eq rfl (fun _ _ => rfl) (fun j => ?_))
    have e2 : sSame (N.1 134 i) 0 (N.1 135 i) (mk (j - base) ^^^ mk way) = sSame (N.1 134 i) (fbits (N.1 132 i) (N.1 137 i) m) (N.1 135 i) (mk (j - base) ^^^ mk way) := sSame_lo (fun z => absurd z q)
    by_cases q2 : base ≤ j ∧ j < base + c ∧ sSame (N.1 134 i) 0 (N.1 135 i) (mk (j - base) ^^^ mk way) = 1
    · rw [up_y q2, up_y (by rw [← e2]; exact q2)]
    · rw [up_n q2, up_n (by rw [← e2]; exact q2)]
theorem si_g {a j c : Nat} {x : Int32} (h : N.1 c = M.1 c) : (v_si N a j x).1 c = (v_si M a j x).1 c := by
  funext b
  show (if c = a ∧ b = j then x else N.1 c b) = if c = a ∧ b = j then x else M.1 c b
  rw [h]
theorem si_gj {a j c b : Nat} {x : Int32} (h : N.1 c b = M.1 c b) : (v_si N a j x).1 c b = (v_si M a j x).1 c b := by
  show (if c = a ∧ b = j then x else N.1 c b) = if c = a ∧ b = j then x else M.1 c b
  rw [h]
/-- the book, one longer on both sides -/
def mBk (M : vM) (i way B : Nat) : vM := v_si (v_si (v_si (v_si (v_si (v_si M 7 B (nI i)) 8 B (nI way)) 6 0 (nI (B + 1))) 149 B (nI i)) 150 B (nI way)) 130 21 (nI (B + 1))
theorem Rel_bk (h : Rel M) (hi : i < qW M) {way : Nat} (hw : way < qC M i) (hB : qB M < 400) : Rel (mBk M i way (qB M)) := by
  generalize hN : mBk M i way (qB M) = N
  have hW : qW M ≤ 6 := h.wks.2.2
  have hc := (wkC (h.wk hi)).2.1
  have e : ∀ c, c ≠ 6 → c ≠ 7 → c ≠ 8 → c ≠ 130 → c ≠ 149 → c ≠ 150 → N.1 c = M.1 c := fun c h1 h2 h3 h4 h5 h6 => by
    rw [← hN]
    show (v_si _ 130 21 _).1 c = _
    rw [si_c h4, si_c h6, si_c h5, si_c h1, si_c h3, si_c h2]
  have e130 : ∀ j, j ≠ 21 → N.1 130 j = M.1 130 j := fun j hj => by
    rw [← hN]
    show (v_si _ 130 21 _).1 130 j = _
    rw [si_n hj, si_c (by decide), si_c (by decide), si_c (by decide), si_c (by decide), si_c (by decide)]
  have en : N.1 130 21 = nI (qB M + 1) := by
    rw [← hN]
    show (v_si _ 130 21 _).1 130 21 = _
    rw [si_s]
  have e6 : N.1 6 0 = nI (qB M + 1) := by
    rw [← hN]
    show (v_si _ 130 21 _).1 6 0 = _
    rw [si_c (by decide), si_c (by decide), si_c (by decide), si_s]
  have e7 : ∀ j, N.1 7 j = if j = qB M then nI i else M.1 7 j := fun j => by
    rw [← hN]
    show (v_si _ 130 21 _).1 7 j = _
    rw [si_c (by decide), si_c (by decide), si_c (by decide), si_c (by decide), si_c (by decide)]
    by_cases q : j = qB M
    · rw [if_pos q, q, si_s]
    · rw [if_neg q, si_n q]
  have e8 : ∀ j, N.1 8 j = if j = qB M then nI way else M.1 8 j := fun j => by
    rw [← hN]
    show (v_si _ 130 21 _).1 8 j = _
    rw [si_c (by decide), si_c (by decide), si_c (by decide), si_c (by decide)]
    by_cases q : j = qB M
    · rw [if_pos q, q, si_s]
    · rw [if_neg q, si_n q, si_c (by decide)]
  have e149 : ∀ j, N.1 149 j = if j = qB M then nI i else M.1 149 j := fun j => by
    rw [← hN]
    show (v_si _ 130 21 _).1 149 j = _
    rw [si_c (by decide), si_c (by decide)]
    by_cases q : j = qB M
    · rw [if_pos q, q, si_s]
    · rw [if_neg q, si_n q, si_c (by decide), si_c (by decide), si_c (by decide)]
  have e150 : ∀ j, N.1 150 j = if j = qB M then nI way else M.1 150 j := fun j => by
    rw [← hN]
    show (v_si _ 130 21 _).1 150 j = _
    rw [si_c (by decide)]
    by_cases q : j = qB M
    · rw [if_pos q, q, si_s]
    · rw [if_neg q, si_n q, si_c (by decide), si_c (by decide), si_c (by decide), si_c (by decide)]
  have f : ∀ c, c < 130 → c ≠ 6 → c ≠ 7 → c ≠ 8 → N.1 c = M.1 c := fun c h0 h1 h2 h3 => e c h1 h2 h3 (by omega) (by omega) (by omega)
  have g : ∀ c, 130 < c → c ≠ 149 → c ≠ 150 → N.1 c = M.1 c := fun c h0 h1 h2 => e c (by omega) (by omega) (by omega) (by omega) h1 h2
  refine Rel_led h (by rw [← hN]; rfl) (fun c _ _ => by rw [← hN]; rfl) (fun c hc => e c (by omega) (by omega) (by omega) (by omega) (by omega) (by omega)) (fun j hj => e130 j (by omega)) ?_
  refine ⟨⟨e6.trans en.symm, by rw [en]; exact nIb_nI (by omega) (by decide)⟩, fun j hj => ?_, L3 h.led (f 9 (by decide) (by decide) (by decide) (by decide)) (f 10 (by decide) (by decide) (by decide) (by decide)) (g 151 (by decide) (by decide) (by decide)) (g 152 (by decide) (by decide) (by decide)), L4 h.led (f 11 (by decide) (by decide) (by decide) (by decide)) (f 12 (by decide) (by decide) (by decide) (by decide)) (g 153 (by decide) (by decide) (by decide)) (g 154 (by decide) (by decide) (by decide)), L5 h.led (f 13 (by decide) (by decide) (by decide) (by decide)) (g 155 (by decide) (by decide) (by decide)), L6 h.led (f 14 (by decide) (by decide) (by decide) (by decide)) (g 156 (by decide) (by decide) (by decide))⟩
  rw [en, qN_nI (by omega)] at hj
  show N.1 7 j = N.1 149 j ∧ N.1 8 j = N.1 150 j ∧ nIb (N.1 149 j) 5 ∧ qN (N.1 149 j) < qW M ∧ nIb (N.1 150 j) 1457 ∧ qN (N.1 150 j) < qC N (qN (N.1 149 j))
  have eC : ∀ a, qC N a = qC M a := fun a => by
    show qN (N.1 145 a) = _
    rw [g 145 (by decide) (by decide) (by decide)]
    rfl
  rw [e7, e8, e149, e150, eC]
  by_cases q : j = qB M
  · rw [if_pos q, if_pos q, if_pos q, if_pos q]
    refine ⟨rfl, rfl, nIb_nI (by omega) (by decide), by rw [qN_nI (by omega)]; exact hi, nIb_nI (by omega) (by decide), by rw [qN_nI (by omega), qN_nI (by omega)]; exact hw⟩
  · rw [if_neg q, if_neg q, if_neg q, if_neg q]
    exact h.led.2.1 j (by show j < qB M; omega)
/-! done: what the class does, what the reference does -/
def cEn (M : vM) (i way B : Nat) : vM := v_si (v_si (v_si M 7 B (nI i)) 8 B (nI way)) 6 0 (nI (B + 1))
theorem c_enter (h : Rel M) (hB : qB M < 400) {way : Nat} : fX1_enter M 6 (nI i) (nI way) = rV (cEn M i way (qB M)) := by
  have hb := h.B1
  unfold fX1_enter
  rw [hb.2.2, show 6 + 1 = 7 from rfl, e_put (len := 400) rfl hB (by decide), bv_V, show (v_si M 7 (qB M) (nI i)).1 6 0 = nI (qB M) from by rw [si_c (by decide), hb.2.2], show 6 + 2 = 8 from rfl, e_put (len := 400) rfl hB (by decide), bv_V, show (v_si (v_si M 7 (qB M) (nI i)) 8 (qB M) (nI way)).1 6 0 = nI (qB M) from by rw [si_c (by decide), si_c (by decide), hb.2.2], nI_1]
  rfl
def pC (M : vM) (i way : Nat) (j : Nat) : Prop := j = way ∨ (0 ≤ j ∧ j < qC M i ∧ sSame (M.1 134 i) (M.1 (qw i) 3) (M.1 135 i) (qmk M i j ^^^ qmk M i way) = 1)
theorem kOK_of (h : rWk M i) (e1 : N.1 (qw i) 1 = M.1 (qw i) 1) (e2 : N.2.1 (qw i + 7) = M.2.1 (qw i + 7)) : kOK N (qw i) (qC M i) (qco M i) (qmk M i) := by
  obtain ⟨c1, c2, c3⟩ := wkC h
  refine ⟨e1.trans c1, c2, fun k hk => ?_⟩
  obtain ⟨w1, w2, w3, w4, w5⟩ := wkW h hk
  rw [e2]
  exact ⟨w5, by omega, by omega⟩
theorem wkD (h : rWk M i) : ∀ j k, j < k → k < qC M i → qmk M i j ≠ qmk M i k := by
  obtain ⟨-, -, -, -, -, -, -, -, -, -, ws, -⟩ := h
  exact ws.2
theorem wkO (h : rWk M i) : M.1 134 i = 2 → ∃ n, 1 ≤ n ∧ n < 2 ^ 31 ∧ M.1 135 i = nI n := by
  obtain ⟨-, -, -, ⟨-, o2, o3⟩, -⟩ := h
  intro q
  exact ⟨qN (M.1 135 i), o3 q, by have := o2.2; show (M.1 135 i).toNatClampNeg < 2 ^ 31; omega, o2.1⟩
/-- the class's spending, in a memory that knows the work as M does -/
theorem c_spendLike (h : rWk M i) (hi : i < 6) {way : Nat} (hw : way < qC M i) (hN : ∀ c, 40 ≤ c → c < 130 → N.1 c = M.1 c) (hL : N.2 = M.2) (hp : v_isP (qp M i)) : ∃ z, z = zer (v_up1 N (qw i + 8) (fun j => j = way ∨ (0 ≤ j ∧ j < qC M i ∧ sSame (M.1 134 i) (M.1 (qw i) 3) (M.1 135 i) (qmk M i j ^^^ qmk M i way) = 1))) (qw i + 8) (qC M i) ∧ fX9_spendLike N (qw i) (nI way) = rV (v_si (v_up1 N (qw i + 8) (fun j => j = way ∨ (0 ≤ j ∧ j < qC M i ∧ sSame (M.1 134 i) (M.1 (qw i) 3) (M.1 135 i) (qmk M i j ^^^ qmk M i way) = 1))) (qw i) 2 (nI z)) := by
  obtain ⟨l1, l2, l3⟩ := wkL h
  have hb := v_isP_b hp
  have hq : qw i = 46 + 15 * i := rfl
  have nw := hN (qw i) (by omega) (by omega)
  have n8 := hN (qw i + 8) (by omega) (by omega)
  have np := hN (qp M i) (by omega) (by omega)
  have hO := kOK_of (N := N) h (by rw [nw]) (by rw [hL])
  have hLay : (v_LAY (qw i + 8)).2.2 = 1458 := by
    have := (v_LW (v_isW_qw hi)).2.2.2.1
    rw [this]
  obtain ⟨s', a, b⟩ := c_setSame (w := qw i) (R := qw i + 8) (law := M.1 134 i) (num := M.1 135 i) l2 hLay (by omega) hO (fun j hj => by
    have e := wkS h hj
    rw [n8, e.1]
    exact e.2) (wkD h) hw (Nat.zero_le _)
  have e0 : N.2.2 (qw i) 0 - 1 = qp M i := by rw [hL]; rfl
  have e3 : N.1 (qw i) 3 = M.1 (qw i) 3 := by rw [nw]
  rw [e3] at a b
  refine ⟨_, rfl, ?_⟩
  have hz : N.1 (qw i) 2 = nI (zer N (qw i + 8) (qC M i)) := by
    rw [nw]
    obtain ⟨-, -, -, -, -, -, -, -, -, -, -, sp, un⟩ := h
    rw [un]
    congr 1
    refine fb_ct_cong (fun k hk => ?_)
    show decide _ = decide _
    rw [n8, (sp k hk).1]
  unfold fX9_spendLike
  rw [e0, np, l1, l3, hz, ← nI_0, a, bi_I, nI_sub (by omega)]
  refine congrArg rV ?_
  congr 2
  omega
theorem r_isWay1 {N : vM} {w c k : Nat} (hw : N.1 130 2 = nI w) (hw2 : w ≤ 6) (hi : i < w) (hc : N.1 145 i = nI c) (hc2 : c ≤ 1458) (hk : k < c) : fX11_isWay N (nI i) (nI k) = rI 1 N := by
  unfold fX11_isWay
  rw [e_isWk1 hw hw2 hi, bi_I, if_neg (by decide), if_pos (v_in_nI (by omega) (by decide)), nI_clamp (by omega), hc, e_isIn0 (by omega) (by omega), if_pos hk, bi_I, if_neg (by decide)]
def rEn (N : vM) (i way B : Nat) : vM := v_si (v_si (v_si N 149 B (nI i)) 150 B (nI way)) 130 21 (nI (B + 1))
/-- the reference's entry, in a memory that knows what M knows of works and book -/
theorem r_enter (h : Rel M) (hi : i < qW M) {way : Nat} (hw : way < qC M i) (hB : qB M < 400) (hs : M.1 148 (2000 * i + way) = 0) (hN : ∀ c, 132 ≤ c → c < 158 → N.1 c = M.1 c) (hn : N.1 130 21 = M.1 130 21) :
    fX11_enter N (nI i) (nI way) = rI 1 (v_up1 (rEn N i way (qB M)) 148 (fun j => 2000 * i ≤ j ∧ j < 2000 * i + qC M i ∧ sSame (M.1 134 i) (M.1 (qw i) 3) (M.1 135 i) (qmk M i (j - 2000 * i) ^^^ qmk M i way) = 1)) := by
  have hb := h.B1
  have hW : qW M ≤ 6 := h.wks.2.2
  have hwk := h.wk hi
  have hc := wkC hwk
  have n21 : N.1 130 21 = nI (qB M) := hn.trans hb.1
  have hlo : M.1 (qw i) 3 = fbits (M.1 132 i) (M.1 137 i) (qit M i) := by
    obtain ⟨-, -, -, -, -, -, -, -, lo, -⟩ := hwk
    exact lo
  have hm : M.1 136 i = nI (qit M i) ∧ (M.1 132 i = 2 → qit M i ≤ 19) := by
    obtain ⟨-, -, -, -, ⟨-, m2, -, m4⟩, -⟩ := hwk
    exact ⟨m2.1, fun q => by have := m4 q; omega⟩
  have e : ∀ c, 132 ≤ c → c < 149 → (rEn N i way (qB M)).1 c = M.1 c := fun c h1 h2 => by
    show (v_si _ 130 21 _).1 c = _
    rw [si_c (by omega), si_c (by omega), si_c (by omega), hN c h1 (by omega)]
  have hO : rOK (rEn N i way (qB M)) i (qC M i) (qmk M i) := by
    refine ⟨by rw [e 145 (by decide) (by decide)]; exact hc.2.2, hc.2.1, fun k hk => ?_⟩
    rw [e 147 (by decide) (by decide)]
    exact mk_lt hwk hk
  have sp := r_spend (N := rEn N i way (qB M)) (i := i) (by omega) (m := qit M i) (by rw [e 136 (by decide) (by decide)]; exact hm.1) (by rw [e 132 (by decide) (by decide)]; exact hm.2) (R := 148) (base := 2000 * i) (len := 12000) rfl (by decide) (Or.inl rfl) (by omega) hO hw
  rw [e 134 (by decide) (by decide), e 135 (by decide) (by decide), e 132 (by decide) (by decide), e 137 (by decide) (by decide), ← hlo] at sp
  have hin : v_in (nI (qB M)) 400 = true := v_in_nI hB (by decide)
  unfold fX11_enter
  rw [n21, if_neg (show ¬ nI (qB M) = 400 from fun z => by have := (nI_eq (a := qB M) (b := 400) (by omega) (by decide)).mp z; omega), e_ix, if_pos (r_in (by omega) (by omega)), nI_clamp (by omega), hN 148 (by decide) (by decide), if_pos hs, if_pos hin, nI_clamp (by omega), show (v_si N 149 (qB M) (nI i)).1 130 21 = nI (qB M) from by rw [si_c (by decide), n21], if_pos hin, nI_clamp (by omega), show (v_si (v_si N 149 (qB M) (nI i)) 150 (qB M) (nI way)).1 130 21 = nI (qB M) from by rw [si_c (by decide), si_c (by decide), n21], nI_1, show (2000 : Int32) * nI i = nI (2000 * i) from nI_mul 2000 i]
  show bv (fX11_spend (rEn N i way (qB M)) (nI i) (nI way) 148 (nI (2000 * i))) _ = _
  rw [sp, bv_V]
end P18
