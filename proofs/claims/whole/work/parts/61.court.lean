section P21
variable {M N : vM} {i : Nat}
/-- whether the first so many of the book condemn a way by a law -/
def cdB (A : Nat → Nat → Int32) (i : Nat) (law lo num : Int32) (k : Nat) : Nat → Bool
  | 0 => false
  | b + 1 => cdB A i law lo num k b || (decide (A 149 b = nI i) && decide (sSame law lo num (qN (A 147 (2000 * i + k)) ^^^ qN (A 147 (2000 * i + qN (A 150 b)))) = 1))
theorem cdB_mono {A : Nat → Nat → Int32} {law lo num : Int32} {k : Nat} : ∀ n b, cdB A i law lo num k b = true → cdB A i law lo num k (b + n) = true
  | 0, _, h => h
  | n + 1, b, h => by
    show (cdB A i law lo num k (b + n) || _) = true
    rw [cdB_mono n b h]
    rfl
theorem led_b (h : Rel M) {b : Nat} (hb : b < qB M) (e : M.1 149 b = nI i) (hi : i < 6) : M.1 150 b = nI (qN (M.1 150 b)) ∧ qN (M.1 150 b) < qC M i := by
  obtain ⟨-, -, -, -, d, f⟩ := h.led.2.1 b hb
  have f2 : qN (M.1 150 b) < qC M (qN (M.1 149 b)) := f
  rw [e, qN_nI (by omega)] at f2
  exact ⟨d.1, f2⟩
theorem l_ct79 (h : Rel M) (hi : i < qW M) {K : vM → Int32 → Int32 → Int32 → Int32 → Int32 → Int32 → Option (vR × vM)} {law num bits left : Int32} {k : Nat} (hk : k < qC M i) :
    ∀ (n f b : Nat), n < f → b + n = qB M → cdB M.1 i law bits num k b = false → fX11_court_79 K f M (nI i) law num bits left (nI k) 0 (nI b) = fX11_court_146 K M (nI i) law num bits left (nI k) (if cdB M.1 i law bits num k (qB M) = true then 1 else 0) := by
  have hb := h.B1
  have hW : qW M ≤ 6 := h.wks.2.2
  have hc := (wkC (h.wk hi)).2.1
  intro n
  induction n with
  | zero =>
    intro f b hf hk2 hcd
    cases f with
    | zero => exact absurd hf (Nat.not_lt_zero _)
    | succ f =>
      unfold fX11_court_79
      have : b = qB M := by omega
      rw [hb.1, if_pos (nI_le (by omega) (by omega)), ← this, hcd]
      rfl
  | succ n ih =>
    intro f b hf hk2 hcd
    cases f with
    | zero => exact absurd hf (Nat.not_lt_zero _)
    | succ f =>
      have hin : v_in (nI b) 400 = true := v_in_nI (by omega) (by decide)
      unfold fX11_court_79
      rw [hb.1, if_neg (nI_ge (by omega) (by omega)), if_pos rfl, if_pos hin, nI_clamp (by omega)]
      have step : cdB M.1 i law bits num k (b + 1) = (cdB M.1 i law bits num k b || (decide (M.1 149 b = nI i) && decide (sSame law bits num (qN (M.1 147 (2000 * i + k)) ^^^ qN (M.1 147 (2000 * i + qN (M.1 150 b)))) = 1))) := rfl
      by_cases q : M.1 149 b = nI i
      · obtain ⟨w1, w2⟩ := led_b h (by omega) q (by omega)
        obtain ⟨k1, k2⟩ := mk_lt (h.wk hi) hk
        obtain ⟨v1, v2⟩ := mk_lt (h.wk hi) w2
        have ek : qN (M.1 147 (2000 * i + k)) = qmk M i k := rfl
        have ev : qN (M.1 147 (2000 * i + qN (M.1 150 b))) = qmk M i (qN (M.1 150 b)) := rfl
        rw [if_pos q, r_markOf (by omega) (by omega), bi_I, if_pos hin, w1, r_markOf (by omega) (by omega), bi_I, k1, v1, r_areSame k2 v2, bi_I]
        rw [hcd, ek, ev, decide_eq_true q] at step
        rcases sSame01 law bits num (qmk M i k ^^^ qmk M i (qN (M.1 150 b))) with s | s
        · rw [s, if_pos rfl, nI_1]
          rw [s] at step
          exact ih f (b + 1) (by omega) (by omega) step
        · rw [s, if_neg (by decide), nI_1]
          rw [s] at step
          have ht : cdB M.1 i law bits num k (qB M) = true := by
            have := cdB_mono n (b + 1) (show cdB M.1 i law bits num k (b + 1) = true from step)
            rw [show b + 1 + n = qB M by omega] at this
            exact this
          rw [ht, if_pos rfl]
          cases f with
          | zero => omega
          | succ f =>
            unfold fX11_court_79
            rw [hb.1]
            by_cases z : qB M ≤ b + 1
            · rw [if_pos (nI_le z (by omega))]
            · rw [if_neg (nI_ge (by omega) (by omega)), if_neg (by decide)]
      · rw [if_neg q, nI_1]
        rw [hcd, decide_eq_false q] at step
        exact ih f (b + 1) (by omega) (by omega) step
theorem l_ct62 (h : Rel M) (hi : i < qW M) {law num bits : Int32} : ∀ (n f k s : Nat), n < f → k + n = qC M i → fX11_court_62 f M (nI i) law num bits (nI s) (nI k) = rI (nI (s + cntF (fun k => ¬ cdB M.1 i law bits num k (qB M) = true) n k)) M := by
  have hW : qW M ≤ 6 := h.wks.2.2
  have hc := wkC (h.wk hi)
  have hb := h.B1
  intro n
  induction n with
  | zero =>
    intro f k s hf hk
    cases f with
    | zero => exact absurd hf (Nat.not_lt_zero _)
    | succ f =>
      unfold fX11_court_62
      rw [if_pos (v_in_nI (by omega) (by decide)), nI_clamp (by omega), hc.2.2, if_pos (nI_le (by omega) (by omega))]
      rfl
  | succ n ih =>
    intro f k s hf hk
    cases f with
    | zero => exact absurd hf (Nat.not_lt_zero _)
    | succ f =>
      unfold fX11_court_62 cntF
      rw [if_pos (v_in_nI (by omega) (by decide)), nI_clamp (by omega), hc.2.2, if_neg (nI_ge (by omega) (by omega))]
      have e := l_ct79 h hi (K := fX11_court_62 f) (law := law) (num := num) (bits := bits) (left := nI s) (k := k) (by omega) (qB M) FU 0 (FU_lt (by omega)) (Nat.zero_add _) rfl
      rw [nI_0] at e
      rw [e]
      unfold fX11_court_146
      by_cases q : cdB M.1 i law bits num k (qB M) = true
      · rw [if_pos q, if_neg (by decide), if_neg (fun z => z q), nI_1, show nI s + 0 = nI s from nI_add s 0, ih f (k + 1) s (by omega) (by omega), Nat.zero_add]
      · rw [if_neg q, if_pos rfl, if_pos q, nI_1, nI_1, ih f (k + 1) (s + 1) (by omega) (by omega), Nat.add_assoc]
/-- the class's own way: a row of those condemned -/
theorem l_cc62 (h : Rel M) (hi : i < qW M) {law num : Int32} (hl : law = 0 ∨ law = 1 ∨ law = 2) (hnum : law = 2 → ∃ n, 1 ≤ n ∧ n < 2 ^ 31 ∧ num = nI n) : ∀ (n f b : Nat) (N : vM), n < f → b + n = qB M → N.2 = M.2 → (∀ c, c ≠ 39 → N.1 c = M.1 c) → (∀ k, k < qC M i → N.1 39 k = if cdB M.1 i law (M.1 (qw i) 3) num k b = true then 1 else 0) →
    ∃ N', fX10_court_62 f N (nI i) law num (qw i) (nI (zer N 39 (qC M i))) (nI b) = rI (nI (zer N' 39 (qC M i))) N' ∧ N'.2 = M.2 ∧ (∀ c, c ≠ 39 → N'.1 c = M.1 c) ∧ (∀ k, k < qC M i → N'.1 39 k = if cdB M.1 i law (M.1 (qw i) 3) num k (qB M) = true then 1 else 0) := by
  have hW : qW M ≤ 6 := h.wks.2.2
  have hwk := h.wk hi
  have hc := wkC hwk
  have hb := h.B1
  have hq : qw i = 46 + 15 * i := rfl
  intro n
  induction n with
  | zero =>
    intro f b N hf hk h2 h39 hin
    cases f with
    | zero => exact absurd hf (Nat.not_lt_zero _)
    | succ f =>
      have : b = qB M := by omega
      refine ⟨N, ?_, h2, h39, by rw [← this]; exact hin⟩
      unfold fX10_court_62
      rw [h39 6 (by decide), hb.2.2, if_pos (nI_le (by omega) (by omega))]
  | succ n ih =>
    intro f b N hf hk h2 h39 hin
    cases f with
    | zero => exact absurd hf (Nat.not_lt_zero _)
    | succ f =>
      have hbq : b < qB M := by omega
      obtain ⟨d1, d2, -⟩ := h.led.2.1 b hbq
      have step : ∀ k, cdB M.1 i law (M.1 (qw i) 3) num k (b + 1) = (cdB M.1 i law (M.1 (qw i) 3) num k b || (decide (M.1 149 b = nI i) && decide (sSame law (M.1 (qw i) 3) num (qN (M.1 147 (2000 * i + k)) ^^^ qN (M.1 147 (2000 * i + qN (M.1 150 b)))) = 1))) := fun k => rfl
      unfold fX10_court_62 fX1_bookWork fX1_bookWay
      rw [h39 6 (by decide), hb.2.2, if_neg (nI_ge (by omega) (by omega)), show 6 + 1 = 7 from rfl, e_at (len := 400) rfl (by omega) (by decide), bi_I, bi_I, h39 7 (by decide), show M.1 7 b = M.1 149 b from d1]
      by_cases q : M.1 149 b = nI i
      · obtain ⟨w1, w2⟩ := led_b h hbq q (by omega)
        have hO := kOK_of (N := N) hwk (by rw [h39 (qw i) (by omega)]) (by rw [h2])
        obtain ⟨s', a, z⟩ := c_setSame (w := qw i) (R := 39) (law := law) (num := num) hl rfl (by omega) hO (fun j hj => by
          rw [hin j hj]
          by_cases t : cdB M.1 i law (M.1 (qw i) 3) num j b = true
          · rw [if_pos t]; exact Or.inr rfl
          · rw [if_neg t]; exact Or.inl rfl) (wkD hwk) w2 (Nat.zero_le _)
        rw [h39 (qw i) (by omega)] at a z
        rw [if_pos q, show 6 + 2 = 8 from rfl, e_at (len := 400) rfl (by omega) (by decide), bi_I, bi_I, h39 8 (by decide), show M.1 8 b = M.1 150 b from d2, w1]
        rw [show (0 : Int32) = nI 0 from rfl, a, bi_I, nI_sub (by omega), nI_1]
        have e2 : zer N 39 (qC M i) - s' = zer (v_up1 N 39 (fun j => j = qN (M.1 150 b) ∨ (0 ≤ j ∧ j < qC M i ∧ sSame law (M.1 (qw i) 3) num (qmk M i j ^^^ qmk M i (qN (M.1 150 b))) = 1))) 39 (qC M i) := by omega
        rw [e2]
        refine ih f (b + 1) _ (by omega) (by omega) h2 (fun c hc9 => by rw [up_c hc9]; exact h39 c hc9) (fun k hk9 => ?_)
        have st := step k
        rw [decide_eq_true q, Bool.true_and, show qN (M.1 147 (2000 * i + k)) = qmk M i k from rfl, show qN (M.1 147 (2000 * i + qN (M.1 150 b))) = qmk M i (qN (M.1 150 b)) from rfl] at st
        rw [st]
        by_cases s : sSame law (M.1 (qw i) 3) num (qmk M i k ^^^ qmk M i (qN (M.1 150 b))) = 1
        · rw [up_y (Or.inr ⟨Nat.zero_le _, hk9, s⟩), decide_eq_true s, Bool.or_true, if_pos rfl]
        · have hne : k ≠ qN (M.1 150 b) := fun zz => s (by rw [zz, Nat.xor_self]; exact same0 hl hnum)
          rw [up_n (fun zz => zz.elim hne (fun y => s y.2.2)), decide_eq_false s, Bool.or_false]
          exact hin k hk9
      · rw [if_neg q, nI_1]
        refine ih f (b + 1) N (by omega) (by omega) h2 h39 (fun k hk9 => ?_)
        rw [step k, decide_eq_false q, Bool.false_and, Bool.or_false]
        exact hin k hk9
theorem l_cc28 {law num x : Int32} {w : Nat} : ∀ (n f k : Nat) (N : vM), n < f → k + n = 1458 → (∀ j, j < k → N.1 39 j = 0) → ∃ N', fX10_court_28 f N x law num w (nI k) = fX10_court_62 FU N' x law num w (N'.1 w 1) 0 ∧ N'.2 = N.2 ∧ (∀ c, c ≠ 39 → N'.1 c = N.1 c) ∧ ∀ j, j < 1458 → N'.1 39 j = 0 := by
  intro n
  induction n with
  | zero =>
    intro f k N hf hk hz
    cases f with
    | zero => exact absurd hf (Nat.not_lt_zero _)
    | succ f =>
      have : k = 1458 := by omega
      subst this
      refine ⟨N, ?_, rfl, fun _ _ => rfl, hz⟩
      unfold fX10_court_28
      rw [if_pos (nI_le (Nat.le_refl _) (by decide))]
  | succ n ih =>
    intro f k N hf hk hz
    cases f with
    | zero => exact absurd hf (Nat.not_lt_zero _)
    | succ f =>
      unfold fX10_court_28
      rw [if_neg (nI_ge (show k < 1458 by omega) (by decide)), if_pos (v_in_nI (by omega) (by decide)), nI_clamp (by omega), show v_nz 0 = 0 from by decide, nI_1]
      obtain ⟨N', a, b, c, d⟩ := ih f (k + 1) (v_si N 39 k 0) (by omega) (by omega) (fun j hj => by
        by_cases q : j = k
        · rw [q, si_s]
        · rw [si_n q]; exact hz j (by omega))
      exact ⟨N', a, b, fun c' h' => by rw [c c' h', si_c h'], d⟩
theorem zer_all {c : Nat} (h : ∀ k, k < c → N.1 39 k = 0) : zer N 39 c = c := by
  unfold zer
  exact fb_ct_all.mpr (fun k hk => decide_eq_true (h k hk))
theorem cdB_g {A B : Nat → Nat → Int32} (h1 : A 147 = B 147) (h2 : A 149 = B 149) (h3 : A 150 = B 150) {law lo num : Int32} {k : Nat} : ∀ b, cdB A i law lo num k b = cdB B i law lo num k b
  | 0 => rfl
  | b + 1 => by
    show (cdB A i law lo num k b || (decide (A 149 b = nI i) && decide (sSame law lo num (qN (A 147 (2000 * i + k)) ^^^ qN (A 147 (2000 * i + qN (A 150 b)))) = 1))) = (cdB B i law lo num k b || (decide (B 149 b = nI i) && decide (sSame law lo num (qN (B 147 (2000 * i + k)) ^^^ qN (B 147 (2000 * i + qN (B 150 b)))) = 1)))
    rw [cdB_g h1 h2 h3 b, h1, h2, h3]
theorem cnt_g {p q : Nat → Prop} [DecidablePred p] [DecidablePred q] (h : ∀ k, p k ↔ q k) : ∀ n k, cntF p n k = cntF q n k
  | 0, _ => rfl
  | n + 1, k => by
    show (if p k then 1 else 0) + cntF p n (k + 1) = (if q k then 1 else 0) + cntF q n (k + 1)
    rw [cnt_g h n]
    by_cases z : p k
    · rw [if_pos z, if_pos ((h k).mp z)]
    · rw [if_neg z, if_neg (fun y => z ((h k).mpr y))]
theorem o22 (h : Rel M) (x y z : Int32) : okS (fun K => gWr (fL_court M x y z) (fun M1 => fX11_court M1 x y z) K) := by
  unfold fL_court
  rcases isWk h x with ⟨a, b⟩ | ⟨i, hi, rfl⟩
  · refine fin_f1 h (by unfold fX10_court; rw [a]; rfl) rfl ?_
    unfold fX11_court
    rw [b (v_si M 130 1 0) rfl, bi_I, if_pos rfl]
    rfl
  have h6 : i < 6 := by have := h.W1.2.1; omega
  have hq : qw i = 46 + 15 * i := rfl
  have hwk := h.wk hi
  have hc := wkC hwk
  have hb := h.B1
  rcases wWithin (M := M) (x := y) (a := 0) (b := 2) (by decide) (by decide) with ⟨a, b⟩ | ⟨v, -, hv, rfl⟩
  · refine fin_f2 h (by unfold fX10_court; rw [wOf h hi, br_R, show (0 : Int32) = nI 0 from rfl, show (2 : Int32) = nI 2 from rfl, a]; rfl) rfl ?_
    unfold fX11_court
    rw [rOf (c0 h) hi, bi_I, if_neg (by decide), show fX11_isIn (v_si M 130 1 0) y 0 2 = rI 0 _ from b _, bi_I, if_pos rfl]
    rfl
  have hw : ∀ M1 : vM, fX10_refuseUnlessWithin M1 (nI v) 0 2 = rV M1 := fun M1 => wWithinY (a := 0) (b := 2) (by omega) hv (by decide)
  have hr : ∀ M1 : vM, fX11_isIn M1 (nI v) 0 2 = rI 1 M1 := fun M1 => e_isIn1 (a := 0) (b := 2) (by omega) hv (by decide)
  have hl : nI v = 0 ∨ nI v = 1 ∨ nI v = 2 := by
    have : v = 0 ∨ v = 1 ∨ v = 2 := by omega
    rcases this with rfl | rfl | rfl
    · exact Or.inl rfl
    · exact Or.inr (Or.inl rfl)
    · exact Or.inr (Or.inr rfl)
  have main : (nI v = 2 → ∃ n, 1 ≤ n ∧ n < 2 ^ 31 ∧ z = nI n) → fX10_court M (nI i) (nI v) z = fX10_court_28 FU M (nI i) (nI v) z (qw i) 0 → (∀ M1 : vM, Rel M1 → i < qW M1 → fX11_court M1 (nI i) (nI v) z = fX11_court_49 (v_si M1 130 1 0) (nI i) (nI v) z) → okS (fun K => gWr (vWi (fX10_court M (nI i) (nI v) z) kt2) (fun M1 => fX11_court M1 (nI i) (nI v) z) K) := by
    intro hn h1 h2
    obtain ⟨N, a, n2, nc, nz⟩ := l_cc28 (law := nI v) (num := z) (x := nI i) (w := qw i) 1458 FU 0 M (FU_lt (by omega)) rfl (fun j hj => absurd hj (Nat.not_lt_zero _))
    obtain ⟨N', a', n2', nc', nz'⟩ := l_cc62 h hi hl hn (qB M) FU 0 N (FU_lt (by omega)) (Nat.zero_add _) n2 nc (fun k hk => nz k (by omega))
    rw [zer_all (fun k hk => nz k (by omega))] at a'
    have hval : fX10_court M (nI i) (nI v) z = rI (nI (zer N' 39 (qC M i))) N' := by
      rw [h1, ← nI_0, a, nc (qw i) (by omega), hc.1, ← nI_0]
      exact a'
    have hR' : Rel N' := Rel_congr h (by rw [n2']) (fun c hcc => nc' c (by omega)) (fun j hj => by rw [nc' 130 (by decide)]) (fun c _ _ => by rw [n2'])
    have hz : zer N' 39 (qC M i) = 0 + cntF (fun k => ¬ cdB M.1 i (nI v) (M.1 (qw i) 3) z k (qB M) = true) (qC M i) 0 := by
      rw [Nat.zero_add, ← cnt_ct0]
      unfold zer
      refine fb_ct_cong (fun k hk => ?_)
      rw [nz' k hk]
      by_cases t : cdB M.1 i (nI v) (M.1 (qw i) 3) z k (qB M) = true
      · rw [if_pos t, decide_eq_false (by decide), decide_eq_false (fun y => y t)]
      · rw [if_neg t, decide_eq_true rfl, decide_eq_true t]
    generalize hS : v_sl N' 174 0 (nI (zer N' 39 (qC M i))).toInt64 = S
    have hRS : Rel S := by rw [← hS]; exact Rel_sl hR' (by omega)
    have sc : ∀ c, c ≠ 39 → S.1 c = M.1 c := fun c hcc => by rw [← hS]; exact nc' c hcc
    refine fin_val (M1 := N') (M2 := v_si S 130 1 0) hval ?_ rfl (by rw [hS]; rfl) (c0 hRS)
    rw [hS]
    have hRc := c0 hRS
    have hiS : i < qW (v_si S 130 1 0) := by show i < qN (S.1 130 2); rw [sc 130 (by decide)]; exact hi
    have hwS := hRc.wk hiS
    have s1 : ∀ c, c ≠ 39 → c ≠ 130 → (v_si S 130 1 0).1 c = M.1 c := fun c h1 h2 => by rw [si_c h2, sc c h1]
    have hlo : fbits ((v_si S 130 1 0).1 132 i) ((v_si S 130 1 0).1 137 i) (qit (v_si S 130 1 0) i) = M.1 (qw i) 3 := by
      have e9 : (v_si S 130 1 0).1 (qw i) 3 = M.1 (qw i) 3 := by rw [s1 (qw i) (by omega) (by omega)]
      rw [← e9]
      obtain ⟨-, -, -, -, -, -, -, -, lo, -⟩ := hwS
      exact lo.symm
    have eC : qC (v_si S 130 1 0) i = qC M i := by
      show qN ((v_si S 130 1 0).1 145 i) = _
      rw [s1 145 (by decide) (by decide)]
      rfl
    have eB : qB (v_si S 130 1 0) = qB M := by
      show qN (S.1 130 21) = _
      rw [sc 130 (by decide)]
      rfl
    rw [h2 S hRS hiS]
    unfold fX11_court_49
    rw [r_freeBits hwS h6, bi_I, hlo]
    have e4 := l_ct62 hRc hiS (law := nI v) (num := z) (bits := M.1 (qw i) 3) (qC M i) FU 0 0 (FU_lt (by omega)) (by rw [eC]; exact Nat.zero_add _)
    rw [eB] at e4
    refine e4.trans ?_
    rw [hz]
    have e5 := cnt_g (p := fun k => ¬ cdB (v_si S 130 1 0).1 i (nI v) (M.1 (qw i) 3) z k (qB M) = true) (q := fun k => ¬ cdB M.1 i (nI v) (M.1 (qw i) 3) z k (qB M) = true) (fun k => by rw [cdB_g (s1 147 (by decide) (by decide)) (s1 149 (by decide) (by decide)) (s1 150 (by decide) (by decide))]) (qC M i) 0
    rw [e5]
  by_cases q : v = 2
  · subst q
    rcases wWithin (M := M) (x := z) (a := 1) (b := 9) (by decide) (by decide) with ⟨a, b⟩ | ⟨u, hu1, hu2, rfl⟩
    · refine fin_f2 h (by unfold fX10_court; rw [wOf h hi, br_R, hw, bv_V, if_pos (show nI 2 = 2 from rfl), show (1 : Int32) = nI 1 from rfl, show (9 : Int32) = nI 9 from rfl, a]; rfl) rfl ?_
      unfold fX11_court
      rw [rOf (c0 h) hi, bi_I, if_neg (by decide), hr, bi_I, if_neg (by decide), if_pos (show nI 2 = 2 from rfl), show fX11_isIn (v_si M 130 1 0) z 1 9 = rI 0 _ from b _, bi_I, if_pos rfl]
      rfl
    · refine main (fun _ => ⟨u, hu1, by omega, rfl⟩) ?_ (fun M1 h1 hi1 => ?_)
      · unfold fX10_court
        rw [wOf h hi, br_R, hw, bv_V, if_pos (show nI 2 = 2 from rfl), show fX10_refuseUnlessWithin M (nI u) 1 9 = rV M from wWithinY (a := 1) (b := 9) hu1 hu2 (by decide), bv_V]
      · unfold fX11_court
        rw [rOf (c0 h1) hi1, bi_I, if_neg (by decide), hr, bi_I, if_neg (by decide), if_pos (show nI 2 = 2 from rfl), show fX11_isIn (v_si M1 130 1 0) (nI u) 1 9 = rI 1 _ from e_isIn1 (a := 1) (b := 9) hu1 hu2 (by decide), bi_I, if_neg (by decide)]
  · have q2 : ¬ nI v = 2 := fun y => q ((nI_eq (a := v) (b := 2) (by omega) (by decide)).mp y)
    refine main (fun y => absurd y q2) ?_ (fun M1 h1 hi1 => ?_)
    · unfold fX10_court
      rw [wOf h hi, br_R, hw, bv_V, if_neg q2]
    · unfold fX11_court
      rw [rOf (c0 h1) hi1, bi_I, if_neg (by decide), hr, bi_I, if_neg (by decide), if_neg q2]
end P21
