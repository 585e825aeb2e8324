section P28
variable {M N V : vM} {i : Nat}
theorem zer_all2 {R c : Nat} (h : ∀ k, k < c → N.1 R k = 0) : zer N R c = c := fb_ct_all.mpr (fun k hk => decide_eq_true (h k hk))
theorem cpM_g {S : Nat → Prop} {P Q : vM} {c0 c1 k : Nat} (h : ∀ c, S c → P.1 c = Q.1 c) (h0 : S c0) : ∀ c, S c → (v_cpM P c0 c1 k).1 c = (v_cpM Q c0 c1 k).1 c := fun c hc => by
  funext b
  show (if c = c1 ∧ b < k then P.1 c0 b else P.1 c b) = if c = c1 ∧ b < k then Q.1 c0 b else Q.1 c b
  rw [h c0 h0, h c hc]
theorem cp8_g {P Q : vM} (h : ∀ c, (149 ≤ c ∧ c < 157 ∨ 166 ≤ c ∧ c < 174) → P.1 c = Q.1 c) {c : Nat} (h1 : 149 ≤ c) (h2 : c < 157) : (cp8 P 166 149).1 c = (cp8 Q 166 149).1 c := by
  unfold cp8
  exact cpM_g (cpM_g (cpM_g (cpM_g (cpM_g (cpM_g (cpM_g (cpM_g h (by decide)) (by decide)) (by decide)) (by decide)) (by decide)) (by decide)) (by decide)) (by decide) c (Or.inl ⟨h1, h2⟩)
/-- whether the first so many of the book spend a way -/
def cdW (V : vM) (a k b : Nat) : Bool := cdB V.1 a (V.1 134 a) (V.1 (qw a) 3) (V.1 135 a) k b
/-- the class's side when the first so many of the book are spent again -/
def cRS (V N : vM) (b : Nat) : Prop :=
  N.2 = V.2 ∧ (∀ c, c < 130 → (∀ a, a < 6 → c ≠ qw a ∧ c ≠ qw a + 8) → N.1 c = V.1 c) ∧ (∀ a, a < 6 → ∀ j, j ≠ 2 → N.1 (qw a) j = V.1 (qw a) j) ∧
  (∀ a, a < qW V → ∀ k, k < qC V a → N.1 (qw a + 8) k = if cdW V a k b = true then 1 else 0) ∧ ∀ a, a < qW V → N.1 (qw a) 2 = nI (zer N (qw a + 8) (qC V a))
theorem cRS_lo {b : Nat} (h : cRS V N b) {c : Nat} (hc : c < 46) : N.1 c = V.1 c := h.2.1 c (by omega) (fun a ha => by show c ≠ 46 + 15 * a ∧ c ≠ 46 + 15 * a + 8; omega)
theorem cRS_step (h : Rel V) {b : Nat} (hb : b < qB V) (hr : cRS V N b) {a way : Nat} (ea : V.1 149 b = nI a) (ha : a < qW V) (ew : V.1 150 b = nI way) (hw : way < qC V a) :
    ∃ N', fX9_spendLike N (qw a) (nI way) = rV N' ∧ cRS V N' (b + 1) ∧ ∀ c, 130 ≤ c → N'.1 c = N.1 c := by
  have hW : qW V ≤ 6 := h.wks.2.2
  have h6 : a < 6 := by omega
  have hwk := h.wk ha
  have hcc := wkC hwk
  obtain ⟨l1, l2, l3⟩ := wkL hwk
  have hP := (qp_P h.pl.1 h6).1
  have hpb := v_isP_b hP
  have hq : qw a = 46 + 15 * a := rfl
  obtain ⟨r1, r2, r3, r4, r5⟩ := hr
  have hO := kOK_of (N := N) hwk (r3 a h6 1 (by decide)) (by rw [r1])
  have hLay : (v_LAY (qw a + 8)).2.2 = 1458 := by rw [(v_LW (v_isW_qw h6)).2.2.2.1]
  obtain ⟨s', x, z⟩ := c_setSame (w := qw a) (R := qw a + 8) (law := V.1 134 a) (num := V.1 135 a) l2 hLay (by omega) hO (fun j hj => by
    rw [r4 a ha j hj]
    by_cases q : cdW V a j b = true
    · rw [if_pos q]; exact Or.inr rfl
    · rw [if_neg q]; exact Or.inl rfl) (wkD hwk) hw (Nat.zero_le _)
  have e0 : N.2.2 (qw a) 0 - 1 = qp V a := by rw [r1]; rfl
  have np : N.1 (qp V a) = V.1 (qp V a) := r2 _ (by omega) (fun a' ha' => ⟨(plan_ne hP 0 (by decide) a' ha').1, (plan_ne hP 0 (by decide) a' ha').2.1⟩)
  have e3 : N.1 (qw a) 3 = V.1 (qw a) 3 := r3 a h6 3 (by decide)
  rw [e3] at x z
  generalize hU : v_up1 N (qw a + 8) (fun j => j = way ∨ (0 ≤ j ∧ j < qC V a ∧ sSame (V.1 134 a) (V.1 (qw a) 3) (V.1 135 a) (qmk V a j ^^^ qmk V a way) = 1)) = U at x z
  refine ⟨v_si U (qw a) 2 (nI (zer U (qw a + 8) (qC V a))), ?_, ⟨?_, fun c hc hn => ?_, fun a' ha' j hj => ?_, fun a' ha' k hk => ?_, fun a' ha' => ?_⟩, fun c hc => ?_⟩
  · unfold fX9_spendLike
    rw [e0, np, l1, l3, r5 a ha, ← nI_0, x, bi_I, nI_sub (by omega)]
    refine congrArg (fun t => rV (v_si U (qw a) 2 (nI t))) ?_
    omega
  · rw [← hU]; exact r1
  · have t := hn a h6
    rw [si_c t.1, ← hU, up_c t.2]
    exact r2 c hc hn
  · by_cases q : a' = a
    · rw [q, si_n hj, ← hU, up_c (by omega)]
      exact r3 a h6 j hj
    · rw [si_c (by show 46 + 15 * a' ≠ 46 + 15 * a; omega), ← hU, up_c (by show 46 + 15 * a' ≠ 46 + 15 * a + 8; omega)]
      exact r3 a' ha' j hj
  · have st : cdW V a' k (b + 1) = (cdW V a' k b || (decide (V.1 149 b = nI a') && decide (sSame (V.1 134 a') (V.1 (qw a') 3) (V.1 135 a') (qmk V a' k ^^^ qmk V a' (qN (V.1 150 b))) = 1))) := rfl
    rw [st, ea, ew, qN_nI (by omega)]
    by_cases q : a' = a
    · subst q
      rw [si_c (by omega), ← hU, decide_eq_true rfl, Bool.true_and]
      by_cases s : sSame (V.1 134 a') (V.1 (qw a') 3) (V.1 135 a') (qmk V a' k ^^^ qmk V a' way) = 1
      · rw [up_y (Or.inr ⟨Nat.zero_le _, hk, s⟩), decide_eq_true s, Bool.or_true, if_pos rfl]
      · have hne : k ≠ way := fun zz => s (by rw [zz, Nat.xor_self]; exact same0 l2 (wkO hwk))
        rw [up_n (fun zz => zz.elim hne (fun y => s y.2.2)), decide_eq_false s, Bool.or_false]
        exact r4 a' ha k hk
    · rw [si_c (by show 46 + 15 * a' + 8 ≠ 46 + 15 * a; omega), ← hU, up_c (by show 46 + 15 * a' + 8 ≠ 46 + 15 * a + 8; omega), decide_eq_false (fun e => q (by have := congrArg Int32.toNatClampNeg e; rw [nI_clamp (by omega), nI_clamp (by omega)] at this; exact this.symm)), Bool.false_and, Bool.or_false]
      exact r4 a' ha' k hk
  · by_cases q : a' = a
    · rw [q, si_s]
      unfold zer
      rw [si_c (by omega)]
    · have ha6 : a' < 6 := by omega
      rw [si_c (by show 46 + 15 * a' ≠ 46 + 15 * a; omega), ← hU, up_c (by show 46 + 15 * a' ≠ 46 + 15 * a + 8; omega), r5 a' ha']
      unfold zer
      rw [si_c (by show 46 + 15 * a' + 8 ≠ 46 + 15 * a; omega), up_c (by show 46 + 15 * a' + 8 ≠ 46 + 15 * a + 8; omega)]
  · rw [si_c (by omega), ← hU, up_c (by omega)]
theorem led_b2 (h : Rel V) {b : Nat} (hb : b < qB V) : ∃ a way, V.1 7 b = nI a ∧ V.1 8 b = nI way ∧ V.1 149 b = nI a ∧ a < qW V ∧ V.1 150 b = nI way ∧ way < qC V a := by
  obtain ⟨a1, a2, a3, a4, d, f⟩ := h.led.2.1 b hb
  exact ⟨qN (V.1 149 b), qN (V.1 150 b), a1.trans a3.e, a2.trans d.e, a3.e, a4, d.e, f⟩
theorem c_r47 (h : Rel V) : ∀ (n f b : Nat) (N : vM), n < f → b + n = qB V → cRS V N b → ∃ N', fX10_restore_47 f N (nI b) = rI 1 N' ∧ cRS V N' (qB V) ∧ ∀ c, 130 ≤ c → N'.1 c = N.1 c := by
  have hB := h.B1
  have hW := h.W1
  intro n
  induction n with
  | zero =>
    intro f b N hf hb hr
    cases f with
    | zero => exact absurd hf (Nat.not_lt_zero _)
    | succ f =>
      refine ⟨N, ?_, by rw [← show b = qB V by omega]; exact hr, fun _ _ => rfl⟩
      unfold fX10_restore_47
      rw [cRS_lo hr (by decide), hB.2.2, if_pos (nI_le (by omega) (by omega))]
  | succ n ih =>
    intro f b N hf hb hr
    cases f with
    | zero => exact absurd hf (Nat.not_lt_zero _)
    | succ f =>
      obtain ⟨a, way, w1, w2, w3, w4, w5, w6⟩ := led_b2 h (show b < qB V by omega)
      obtain ⟨N1, x1, x2, x3⟩ := cRS_step h (show b < qB V by omega) hr w3 w4 w5 w6
      obtain ⟨N', y1, y2, y3⟩ := ih f (b + 1) N1 (by omega) (by omega) x2
      refine ⟨N', ?_, y2, fun c hc => by rw [y3 c hc, x3 c hc]⟩
      unfold fX10_restore_47 fX1_bookWork fX1_bookWay
      rw [cRS_lo hr (show 6 < 46 by decide), hB.2.2, if_neg (nI_ge (by omega) (by omega)), show 6 + 1 = 7 from rfl, e_at (len := 400) rfl (by omega) (by decide), bi_I, bi_I, cRS_lo hr (show 7 < 46 by decide), w1, if_neg (nI_pos (by omega)), cRS_lo hr (show 0 < 46 by decide), hW.2.2, if_neg (nI_ge w4 (by omega)), if_pos (v_in_nI (by omega) (by decide)), show 6 + 2 = 8 from rfl, e_at (len := 400) rfl (by omega) (by decide), bi_I, bi_I, cRS_lo hr (show 8 < 46 by decide), w2, nI_clamp (by omega), show fX9_spendLike N (46 + 15 * a) (nI way) = rV N1 from x1, bv_V, nI_1]
      exact y1
theorem c_un10 {w : Nat} (hl : (v_LAY (w + 8)).2.2 = 1458) : ∀ (n f k : Nat) (N : vM), n < f → k + n = 1458 → (∀ j, j < k → N.1 (w + 8) j = 0) →
    ∃ N', fX9_unspendAll_10 f N w (nI k) = rV N' ∧ N'.2 = N.2 ∧ (∀ c, c ≠ w + 8 → N'.1 c = N.1 c) ∧ ∀ j, j < 1458 → N'.1 (w + 8) j = 0 := by
  intro n
  induction n with
  | zero =>
    intro f k N hf hk hr
    cases f with
    | zero => exact absurd hf (Nat.not_lt_zero _)
    | succ f =>
      refine ⟨N, ?_, rfl, fun _ _ => rfl, fun j hj => hr j (by omega)⟩
      unfold fX9_unspendAll_10
      rw [if_pos (nI_le (by omega) (by omega))]
  | succ n ih =>
    intro f k N hf hk hr
    cases f with
    | zero => exact absurd hf (Nat.not_lt_zero _)
    | succ f =>
      obtain ⟨N', a, b, d, e⟩ := ih f (k + 1) (v_si N (w + 8) k 0) (by omega) (by omega) (fun j hj => by
        by_cases q : j = k
        · rw [q, si_s]
        · rw [si_n q]; exact hr j (by omega))
      refine ⟨N', ?_, b, fun c hc => by rw [d c hc, si_c hc], e⟩
      unfold fX9_unspendAll_10
      rw [if_neg (nI_ge (by omega) (by omega)), if_pos (v_in_nI (by omega) (by decide)), nI_clamp (by omega), nI_1, show v_nz 0 = 0 by decide]
      exact a
theorem c_r22 (h : Rel V) : ∀ (n f x : Nat) (N : vM), n < f → x + n = qW V → N.2 = V.2 → (∀ c, c < 130 → (∀ a, a < 6 → c ≠ qw a ∧ c ≠ qw a + 8) → N.1 c = V.1 c) → (∀ a, a < 6 → ∀ j, j ≠ 2 → N.1 (qw a) j = V.1 (qw a) j) →
    (∀ a, a < x → N.1 (qw a) 2 = V.1 (qw a) 1 ∧ ∀ k, k < 1458 → N.1 (qw a + 8) k = 0) →
    ∃ N', fX10_restore_22 f N (nI x) = rI 1 N' ∧ cRS V N' (qB V) ∧ ∀ c, 130 ≤ c → N'.1 c = N.1 c := by
  have hW := h.W1
  have hlo : ∀ c, c < 46 → ∀ a, a < 6 → c ≠ qw a ∧ c ≠ qw a + 8 := fun c hc a ha => by show c ≠ 46 + 15 * a ∧ c ≠ 46 + 15 * a + 8; omega
  intro n
  induction n with
  | zero =>
    intro f x N hf hx h2 hc hj hz
    cases f with
    | zero => exact absurd hf (Nat.not_lt_zero _)
    | succ f =>
      have hr : cRS V N 0 := by
        refine ⟨h2, hc, hj, fun a ha k hk => ?_, fun a ha => ?_⟩
        · have := (wkC (h.wk ha)).2.1
          rw [(hz a (by omega)).2 k (by omega)]
          exact (if_neg (by show ¬ false = true; decide)).symm
        · have hcc := wkC (h.wk ha)
          rw [(hz a (by omega)).1, hcc.1, zer_all2 (fun k hk => (hz a (by omega)).2 k (by omega))]
      obtain ⟨N', y1, y2, y3⟩ := c_r47 h (qB V) FU 0 N (FU_lt (by have := h.B1.2.1; omega)) (Nat.zero_add _) hr
      refine ⟨N', ?_, y2, y3⟩
      unfold fX10_restore_22
      rw [hc 0 (by decide) (hlo 0 (by decide)), hW.2.2, if_pos (nI_le (by omega) (by omega))]
      exact y1
  | succ n ih =>
    intro f x N hf hx h2 hc hj hz
    cases f with
    | zero => exact absurd hf (Nat.not_lt_zero _)
    | succ f =>
      have hq : qw x = 46 + 15 * x := rfl
      have hLay : (v_LAY (qw x + 8)).2.2 = 1458 := by rw [(v_LW (v_isW_qw (show x < 6 by omega))).2.2.2.1]
      obtain ⟨N1, u1, u2, u3, u4⟩ := c_un10 (w := qw x) hLay 1458 FU 0 (v_si N (qw x) 2 (N.1 (qw x) 1)) (FU_lt (by decide)) rfl (fun j hj => absurd hj (Nat.not_lt_zero _))
      obtain ⟨N', y1, y2, y3⟩ := ih f (x + 1) N1 (by omega) (by omega) (by rw [u2]; exact h2) (fun c hc1 hc2 => by
          have t := hc2 x (by omega)
          rw [u3 c t.2, si_c t.1]
          exact hc c hc1 hc2) (fun a ha j hj9 => by
          rw [u3 (qw a) (by show 46 + 15 * a ≠ 46 + 15 * x + 8; omega)]
          by_cases q : a = x
          · rw [q, si_n hj9]; exact hj x (by omega) j hj9
          · rw [si_c (by show 46 + 15 * a ≠ 46 + 15 * x; omega)]; exact hj a ha j hj9) (fun a ha => by
          by_cases q : a = x
          · rw [q]
            refine ⟨?_, u4⟩
            rw [u3 (qw x) (by omega), si_s]
            exact hj x (by omega) 1 (by decide)
          · have := hz a (by omega)
            rw [u3 (qw a) (by show 46 + 15 * a ≠ 46 + 15 * x + 8; omega), si_c (by show 46 + 15 * a ≠ 46 + 15 * x; omega), u3 (qw a + 8) (by show 46 + 15 * a + 8 ≠ 46 + 15 * x + 8; omega), si_c (by show 46 + 15 * a + 8 ≠ 46 + 15 * x; omega)]
            exact this)
      refine ⟨N', ?_, y2, fun c hc9 => by rw [y3 c hc9, u3 c (by omega), si_c (by omega)]⟩
      unfold fX10_restore_22 fX9_unspendAll
      rw [hc 0 (by decide) (hlo 0 (by decide)), hW.2.2, if_neg (nI_ge (by omega) (by omega)), if_pos (v_in_nI (by omega) (by decide)), nI_clamp (by omega), show fX9_unspendAll_10 FU (v_si N (46 + 15 * x) 2 (N.1 (46 + 15 * x) 1)) (46 + 15 * x) 0 = rV N1 from u1, bv_V, nI_1]
      exact y1
/-! the reference's -/
def rRS (V S : vM) : Prop := (∀ c, 132 ≤ c → c < 158 → c ≠ 148 → S.1 c = V.1 c) ∧ S.1 130 2 = V.1 130 2 ∧ S.1 130 21 = V.1 130 21
theorem r_t33 (h : Rel V) (hi : i < qW V) : ∀ (n f b : Nat) (S : vM), n < f → b + n = qB V → rRS V S → (∀ k, k < qC V i → S.1 148 (2000 * i + k) = if cdW V i k b = true then 1 else 0) →
    ∃ S', fX11_tellSpent_33 f S (nI i) (nI b) = rV S' ∧ S'.2 = S.2 ∧ (∀ c, c ≠ 148 → S'.1 c = S.1 c) ∧ (∀ j, j < 2000 * i ∨ 2000 * i + qC V i ≤ j → S'.1 148 j = S.1 148 j) ∧ ∀ k, k < qC V i → S'.1 148 (2000 * i + k) = if cdW V i k (qB V) = true then 1 else 0 := by
  have hB := h.B1
  have hW := h.W1
  have hwk := h.wk hi
  have hcc := wkC hwk
  have hq : qw i = 46 + 15 * i := rfl
  obtain ⟨l1, l2, l3⟩ := wkL hwk
  have hlo : V.1 (qw i) 3 = fbits (V.1 132 i) (V.1 137 i) (qit V i) := by
    obtain ⟨-, -, -, -, -, -, -, -, lo, -⟩ := hwk
    exact lo
  have hm' : V.1 136 i = nI (qit V i) ∧ (V.1 132 i = 2 → qit V i ≤ 19) := by
    obtain ⟨-, -, -, -, ⟨-, m2, -, m4⟩, -⟩ := hwk
    exact ⟨m2.1, fun q => by have := m4 q; omega⟩
  intro n
  induction n with
  | zero =>
    intro f b S hf hb hS hr
    cases f with
    | zero => exact absurd hf (Nat.not_lt_zero _)
    | succ f =>
      refine ⟨S, ?_, rfl, fun _ _ => rfl, fun _ _ => rfl, by rw [← show b = qB V by omega]; exact hr⟩
      unfold fX11_tellSpent_33
      rw [hS.2.2, hB.1, if_pos (nI_le (by omega) (by omega))]
  | succ n ih =>
    intro f b S hf hb hS hr
    cases f with
    | zero => exact absurd hf (Nat.not_lt_zero _)
    | succ f =>
      obtain ⟨a, way, -, -, w3, w4, w5, w6⟩ := led_b2 h (show b < qB V by omega)
      have st : ∀ k, cdW V i k (b + 1) = (cdW V i k b || (decide (V.1 149 b = nI i) && decide (sSame (V.1 134 i) (V.1 (qw i) 3) (V.1 135 i) (qmk V i k ^^^ qmk V i (qN (V.1 150 b))) = 1))) := fun k => rfl
      unfold fX11_tellSpent_33
      rw [hS.2.2, hB.1, if_neg (nI_ge (by omega) (by omega)), if_pos (v_in_nI (by omega) (by decide)), nI_clamp (by omega), hS.1 149 (by decide) (by decide) (by decide)]
      by_cases q : V.1 149 b = nI i
      · have ea : a = i := by
          rw [w3] at q
          have := congrArg Int32.toNatClampNeg q
          rw [nI_clamp (by omega), nI_clamp (by omega)] at this
          exact this
        subst ea
        have hO : rOK S a (qC V a) (qmk V a) := by
          refine ⟨by rw [hS.1 145 (by decide) (by decide) (by decide)]; exact hcc.2.2, hcc.2.1, fun k' hk' => ?_⟩
          rw [hS.1 147 (by decide) (by decide) (by decide)]
          exact mk_lt hwk hk'
        have sp := r_spend (N := S) (i := a) (by omega) (m := qit V a) (by rw [hS.1 136 (by decide) (by decide) (by decide)]; exact hm'.1) (by rw [hS.1 132 (by decide) (by decide) (by decide)]; exact hm'.2) (R := 148) (base := 2000 * a) (len := 12000) rfl (by decide) (Or.inl rfl) (by omega) hO (way := way) w6
        rw [hS.1 134 (by decide) (by decide) (by decide), hS.1 135 (by decide) (by decide) (by decide), hS.1 132 (by decide) (by decide) (by decide), hS.1 137 (by decide) (by decide) (by decide), ← hlo] at sp
        rw [if_pos q, if_pos (v_in_nI (by omega) (by decide)), hS.1 150 (by decide) (by decide) (by decide), w5, show (2000 : Int32) * nI a = nI (2000 * a) from nI_mul 2000 a, sp, bv_V, nI_1]
        generalize hU : v_up1 S 148 (fun j => 2000 * a ≤ j ∧ j < 2000 * a + qC V a ∧ sSame (V.1 134 a) (V.1 (qw a) 3) (V.1 135 a) (qmk V a (j - 2000 * a) ^^^ qmk V a way) = 1) = U
        have u1 : ∀ c, c ≠ 148 → U.1 c = S.1 c := fun c hc => by rw [← hU, up_c hc]
        obtain ⟨S', y1, y2, y3, y4, y5⟩ := ih f (b + 1) U (by omega) (by omega) ⟨fun c h1 h2 h3 => by rw [u1 c h3]; exact hS.1 c h1 h2 h3, by rw [u1 130 (by decide)]; exact hS.2.1, by rw [u1 130 (by decide)]; exact hS.2.2⟩ (fun k hk => by
          rw [st k, w5, qN_nI (by omega), decide_eq_true q, Bool.true_and, ← hU]
          by_cases s : sSame (V.1 134 a) (V.1 (qw a) 3) (V.1 135 a) (qmk V a k ^^^ qmk V a way) = 1
          · rw [up_y ⟨by omega, by omega, by rw [Nat.add_sub_cancel_left]; exact s⟩, decide_eq_true s, Bool.or_true, if_pos rfl]
          · rw [up_n (fun z => s (by have := z.2.2; rw [Nat.add_sub_cancel_left] at this; exact this)), decide_eq_false s, Bool.or_false]
            exact hr k hk)
        refine ⟨S', y1, by rw [y2, ← hU]; rfl, fun c hc => by rw [y3 c hc, u1 c hc], fun j hj => ?_, y5⟩
        rw [y4 j hj, ← hU, up_n (fun z => by omega)]
      · rw [if_neg q, nI_1]
        exact ih f (b + 1) S (by omega) (by omega) hS (fun k hk => by
          rw [st k, decide_eq_false q, Bool.false_and, Bool.or_false]
          exact hr k hk)
theorem r_t2 (h : Rel V) (hi : i < qW V) : ∀ (n f k : Nat) (S : vM), n < f → k + n = qC V i → rRS V S → (∀ j, j < k → S.1 148 (2000 * i + j) = 0) →
    ∃ S', fX11_tellSpent_2 f S (nI i) (nI k) = rV S' ∧ S'.2 = S.2 ∧ (∀ c, c ≠ 148 → S'.1 c = S.1 c) ∧ (∀ j, j < 2000 * i ∨ 2000 * i + qC V i ≤ j → S'.1 148 j = S.1 148 j) ∧ ∀ k, k < qC V i → S'.1 148 (2000 * i + k) = if cdW V i k (qB V) = true then 1 else 0 := by
  have hW := h.W1
  have hcc := wkC (h.wk hi)
  intro n
  induction n with
  | zero =>
    intro f k S hf hk hS hz
    cases f with
    | zero => exact absurd hf (Nat.not_lt_zero _)
    | succ f =>
      unfold fX11_tellSpent_2
      rw [if_pos (v_in_nI (by omega) (by decide)), nI_clamp (by omega), hS.1 145 (by decide) (by decide) (by decide), hcc.2.2, if_pos (nI_le (by omega) (by omega))]
      exact r_t33 h hi (qB V) FU 0 S (FU_lt (by have := h.B1.2.1; omega)) (Nat.zero_add _) hS (fun k9 hk9 => by
        rw [hz k9 (by omega)]
        exact (if_neg (by show ¬ false = true; decide)).symm)
  | succ n ih =>
    intro f k S hf hk hS hz
    cases f with
    | zero => exact absurd hf (Nat.not_lt_zero _)
    | succ f =>
      obtain ⟨S', y1, y2, y3, y4, y5⟩ := ih f (k + 1) (v_si S 148 (2000 * i + k) 0) (by omega) (by omega) ⟨fun c h1 h2 h3 => by rw [si_c h3]; exact hS.1 c h1 h2 h3, by rw [si_c (by decide)]; exact hS.2.1, by rw [si_c (by decide)]; exact hS.2.2⟩ (fun j hj => by
        by_cases q : j = k
        · rw [q, si_s]
        · rw [si_n (by omega)]; exact hz j (by omega))
      refine ⟨S', ?_, y2, fun c hc => by rw [y3 c hc, si_c hc], fun j hj => by rw [y4 j hj, si_n (by omega)], y5⟩
      unfold fX11_tellSpent_2
      rw [if_pos (v_in_nI (by omega) (by decide)), nI_clamp (by omega), hS.1 145 (by decide) (by decide) (by decide), hcc.2.2, if_neg (nI_ge (by omega) (by omega)), e_ix, if_pos (r_in (by omega) (by omega)), nI_clamp (by omega), nI_1, show v_nz 0 = 0 by decide]
      exact y1
theorem r_112 (h : Rel V) : ∀ (n f x : Nat) (S : vM), n < f → x + n = qW V → rRS V S → (∀ a, a < x → ∀ k, k < qC V a → S.1 148 (2000 * a + k) = if cdW V a k (qB V) = true then 1 else 0) →
    ∃ S', fX11_restore_112 f S (nI x) = rI 1 S' ∧ S'.2 = S.2 ∧ (∀ c, c ≠ 148 → S'.1 c = S.1 c) ∧ ∀ a, a < qW V → ∀ k, k < qC V a → S'.1 148 (2000 * a + k) = if cdW V a k (qB V) = true then 1 else 0 := by
  have hW := h.W1
  intro n
  induction n with
  | zero =>
    intro f x S hf hx hS hz
    cases f with
    | zero => exact absurd hf (Nat.not_lt_zero _)
    | succ f =>
      refine ⟨S, ?_, rfl, fun _ _ => rfl, by rw [← show x = qW V by omega]; exact hz⟩
      unfold fX11_restore_112
      rw [hS.2.1, hW.1, if_pos (nI_le (by omega) (by omega))]
  | succ n ih =>
    intro f x S hf hx hS hz
    cases f with
    | zero => exact absurd hf (Nat.not_lt_zero _)
    | succ f =>
      have hx6 : x < qW V := by omega
      obtain ⟨S1, u1, u2, u3, u4, u5⟩ := r_t2 h hx6 (qC V x) FU 0 S (FU_lt (by have := (wkC (h.wk hx6)).2.1; omega)) (Nat.zero_add _) hS (fun j hj => absurd hj (Nat.not_lt_zero _))
      obtain ⟨S', y1, y2, y3, y4⟩ := ih f (x + 1) S1 (by omega) (by omega) ⟨fun c h1 h2 h3 => by rw [u3 c h3]; exact hS.1 c h1 h2 h3, by rw [u3 130 (by decide)]; exact hS.2.1, by rw [u3 130 (by decide)]; exact hS.2.2⟩ (fun a ha k hk => by
        by_cases q : a = x
        · rw [q] at hk ⊢
          exact u5 k hk
        · have := (wkC (h.wk (show a < qW V by omega))).2.1
          rw [u4 _ (by omega)]
          exact hz a (by omega) k hk)
      refine ⟨S', ?_, by rw [y2, u2], fun c hc => by rw [y3 c hc, u3 c hc], y4⟩
      unfold fX11_restore_112 fX11_tellSpent
      rw [hS.2.1, hW.1, if_neg (nI_ge (by omega) (by omega)), show fX11_tellSpent_2 FU S (nI x) 0 = rV S1 from u1, bv_V, nI_1]
      exact y1
theorem r_rest (h1 : M.1 130 51 = 1) : fX11_restore M = fX11_restore_112 FU (cp8 (v_si (v_si M 130 1 0) 130 21 (M.1 130 52)) 166 149) 0 := by
  unfold fX11_restore
  rw [if_neg (by rw [si_n (by decide), h1]; decide), c_be (len := 400) rfl rfl (by decide) (by decide), bv_V, c_be (len := 400) rfl rfl (by decide) (by decide), bv_V, c_be (len := 6) rfl rfl (by decide) (by decide), bv_V, c_be (len := 600) rfl rfl (by decide) (by decide), bv_V, c_be (len := 6) rfl rfl (by decide) (by decide), bv_V, c_be (len := 72) rfl rfl (by decide) (by decide), bv_V, c_be (len := 100) rfl rfl (by decide) (by decide), bv_V, c_be (len := 4) rfl rfl (by decide) (by decide), bv_V]
  rfl
theorem o26 (h : Rel M) : okS (fun K => gCm (fX10_restore M) (fun M1 => fX11_restore M1) K) := by
  obtain ⟨i1, i2, i3⟩ := h.img
  have hW6 : qW M ≤ 6 := h.wks.2.2
  rcases i2 with q | q
  · refine ⟨_, c0 h, fun K => gCm_ok (z := 0) (M1 := M) ?_ ?_⟩
    · unfold fX10_restore
      rw [i1, q, if_pos rfl]
    · unfold fX11_restore
      rw [si_n (by decide), q, if_pos rfl]
  · have hL := i3 q
    generalize hA : cp8 (v_si M 6 0 (M.1 15 0)) 16 7 = A
    have a1 : ∀ c, c ≠ 6 → (c < 7 ∨ 15 ≤ c) → A.1 c = M.1 c := fun c h1 h2 => by rw [← hA, cp8_c (by omega), si_c h1]
    have a2 : A.2 = M.2 := by rw [← hA]; rfl
    generalize hV : cp8 (v_si A 130 21 (A.1 130 52)) 166 149 = V
    have v1 : ∀ c, c ≠ 130 → (c < 149 ∨ 157 ≤ c) → V.1 c = A.1 c := fun c h1 h2 => by rw [← hV, cp8_c (by omega), si_c h1]
    have v2 : V.2 = M.2 := by rw [← hV, cp8_2]; exact a2
    have v130 : ∀ j, j ≠ 21 → V.1 130 j = M.1 130 j := fun j hj => by rw [← hV, cp8_c (by decide), si_n hj, a1 130 (by decide) (by decide)]
    have v21 : V.1 130 21 = M.1 130 52 := by rw [← hV, cp8_c (by decide), si_s, a1 130 (by decide) (by decide)]
    have hRV : Rel V := by
      refine Rel_led h (by rw [v2]) (fun c _ _ => by rw [v2]) (fun c hc => by rw [v1 c (by omega) (by omega), a1 c (by omega) (by omega)]) (fun j hj => v130 j (by omega)) ?_
      refine rLed_tr hW6 hL ?_ v21 (fun t j ht hj => ⟨?_, ?_⟩) (by rw [v1 145 (by decide) (by decide), a1 145 (by decide) (by decide)])
      · rw [v1 6 (by decide) (by decide), ← hA, cp8_c (by decide), si_s]
      · rw [v1 _ (by omega) (by omega), ← hA, show 6 + 1 + t = 7 + t by omega, cp8_s (by decide) ht hj, si_c (by omega)]
      · rw [← hV, cp8_s (by decide) ht hj, si_c (by omega), a1 _ (by omega) (by omega)]
    have eWV : qW V = qW M := by show qN (V.1 130 2) = _; rw [v130 2 (by decide)]; rfl
    obtain ⟨N, x1, x2, x3⟩ := c_r22 hRV (qW V) FU 0 A (FU_lt (by omega)) (Nat.zero_add _) (by rw [a2, v2]) (fun c hc _ => (v1 c (by omega) (by omega)).symm) (fun a ha j _ => by rw [v1 (qw a) (by show 46 + 15 * a ≠ 130; omega) (by show 46 + 15 * a < 149 ∨ _; omega)]) (fun a ha => absurd ha (Nat.not_lt_zero _))
    generalize hT : cp8 (v_si (v_si N 130 1 0) 130 21 (N.1 130 52)) 166 149 = T
    have t1 : ∀ c, c ≠ 130 → (c < 149 ∨ 157 ≤ c) → T.1 c = N.1 c := fun c h1 h2 => by rw [← hT, cp8_c (by omega), si_c h1, si_c h1]
    have t149 : ∀ c, 149 ≤ c → c < 157 → T.1 c = V.1 c := fun c h1 h2 => by
      rw [← hT, ← hV]
      refine cp8_g (fun c hc => ?_) h1 h2
      rw [si_c (by omega), si_c (by omega), x3 c (by omega), si_c (by omega)]
    have t130 : ∀ j, j ≠ 1 → j ≠ 21 → T.1 130 j = M.1 130 j := fun j h1 h2 => by rw [← hT, cp8_c (by decide), si_n h2, si_n h1, x3 130 (by decide), a1 130 (by decide) (by decide)]
    have t21 : T.1 130 21 = M.1 130 52 := by rw [← hT, cp8_c (by decide), si_s, x3 130 (by decide), a1 130 (by decide) (by decide)]
    have thi : ∀ c, 131 ≤ c → (c < 149 ∨ 157 ≤ c) → T.1 c = V.1 c := fun c h1 h2 => by rw [t1 c (by omega) h2, x3 c (by omega), v1 c (by omega) h2]
    obtain ⟨S, y1, y2, y3, y4⟩ := r_112 hRV (qW V) FU 0 T (FU_lt (by omega)) (Nat.zero_add _) ⟨fun c h1 h2 h3 => by
        by_cases z : 149 ≤ c ∧ c < 157
        · exact t149 c z.1 z.2
        · exact thi c (by omega) (by omega), by rw [t130 2 (by decide) (by decide), v130 2 (by decide)], by rw [t21, v21]⟩ (fun a ha => absurd ha (Nat.not_lt_zero _))
    obtain ⟨r1, r2, r3, r4, r5⟩ := x2
    have sS : S.2 = V.2 := by rw [y2, ← hT, cp8_2]; exact r1
    have s130 : ∀ j, j ≠ 1 → S.1 130 j = V.1 130 j := fun j hj => by
      rw [y3 130 (by decide)]
      by_cases z : j = 21
      · rw [z, t21, v21]
      · rw [t130 j hj z, v130 j z]
    have slo : ∀ c, c < 130 → S.1 c = N.1 c := fun c hc => by rw [y3 c (by omega), t1 c (by omega) (by omega)]
    have h01 : ∀ a, a < qW V → ∀ k, k < qC V a → S.1 (qw a + 8) k = S.1 148 (2000 * a + k) ∧ (S.1 148 (2000 * a + k) = 0 ∨ S.1 148 (2000 * a + k) = 1) := fun a ha k hk => by
      have hq : qw a = 46 + 15 * a := rfl
      rw [slo _ (by omega), r4 a ha k hk, y4 a ha k hk]
      refine ⟨rfl, ?_⟩
      by_cases z : cdW V a k (qB V) = true
      · rw [if_pos z]; exact Or.inr rfl
      · rw [if_neg z]; exact Or.inl rfl
    refine ⟨S, ?_, fun K => gCm_ok (z := 1) (M1 := N) ?_ ?_⟩
    · refine Rel_sp hRV (by rw [sS]) (fun c _ _ => by rw [sS]) (fun c hc hn h148 => ?_) (fun j hj => s130 j (by omega)) (fun a ha j hj => ?_) h01 (fun a ha => ?_)
      · by_cases z : c < 130
        · rw [slo c z]
          exact r2 c z hn
        · rw [y3 c h148]
          by_cases z2 : 149 ≤ c ∧ c < 157
          · exact t149 c z2.1 z2.2
          · exact thi c (by omega) (by omega)
      · have hq : qw a = 46 + 15 * a := rfl
        rw [slo _ (by omega)]
        exact r3 a (by omega) j hj
      · have hq : qw a = 46 + 15 * a := rfl
        rw [slo _ (by omega), r5 a ha]
        refine congrArg nI ?_
        refine fb_ct_cong (fun k hk => ?_)
        show decide _ = decide _
        rw [← slo _ (by omega), (h01 a ha k hk).1]
    · unfold fX10_restore
      rw [i1, q, if_neg (by decide), c_copy, bv_V, show cp8 (v_si M 6 0 (M.1 15 0)) (15 + 1) (6 + 1) = A from hA]
      exact x1
    · rw [r_rest (by rw [x3 130 (by decide), a1 130 (by decide) (by decide)]; exact q), hT]
      exact y1
end P28
