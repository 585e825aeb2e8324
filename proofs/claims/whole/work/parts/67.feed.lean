section P27
variable {M N M' : vM} {i : Nat}
theorem Rel_tp (h : Rel M) (h0 : M'.2 = M.2) (hc : ∀ c, (c = 0 ∨ 6 ≤ c ∧ c < 24 ∨ 40 ≤ c ∧ c < 130 ∨ 132 ≤ c ∧ c < 157 ∨ 166 ≤ c ∧ c < 174) → M'.1 c = M.1 c) (hm : ∀ j, j = 2 ∨ j = 21 ∨ j = 40 ∨ j = 51 ∨ j = 52 → M'.1 130 j = M.1 130 j) (ht : rTape M') : Rel M' := by
  have eW : qW M' = qW M := by simp only [qW, hm 2 (by simp)]
  have h22 : M'.2.2 = M.2.2 := by rw [h0]
  refine ⟨rPl_congr h.pl h22, ht, ?_, ?_, fun i hi => ?_, ?_, ?_, ?_, fun h1 => ?_⟩
  · rw [hc 0 (by omega), hm 40 (by simp)]
    exact h.flt
  · rw [hc 0 (by omega), hm 2 (by simp)]
    exact h.wks
  · rw [eW] at hi
    have hW : qW M ≤ 6 := h.wks.2.2
    exact rWk_congr (h.wk hi) (qp_P h.pl.1 (by omega)).1 (by omega) h22 (fun c h1 h2 => hc c (by omega)) (fun c h1 h2 => hc c (by omega)) (fun c _ _ => by rw [h0])
  · rw [eW]
    exact rLed_congr h.led (fun j hj => hc _ (by omega)) (fun j hj => hc _ (by omega)) (hm 21 (by simp)) (hc 145 (by omega))
  · rw [hc 0 (by omega), hm 51 (by simp)]
    exact h.img.1
  · rw [hm 51 (by simp)]
    exact h.img.2.1
  · rw [hm 51 (by simp)] at h1
    rw [eW]
    exact rLed_congr (h.img.2.2 h1) (fun j hj => hc _ (by omega)) (fun j hj => hc _ (by omega)) (hm 52 (by simp)) (hc 145 (by omega))
def byC (x : Int32) (n : Nat) : Int32 := (Int32.toInt8 (x >>> (nI (8 * n) &&& 31))).toInt32
theorem c_tk {x : Int32} : ∀ (n f p : Nat) (N : vM), n < f → n ≤ 4 → p + n ≤ 700 → N.1 1 1 = nI p →
    ∃ N', fX8_take_3 f N x (nI (8 * n) - 8) = rV N' ∧ N'.2 = N.2 ∧ (∀ c, c ≠ 1 → c ≠ 2 → N'.1 c = N.1 c) ∧ N'.1 1 1 = nI (p + n) ∧ ∀ t, N'.1 2 t = if p ≤ t ∧ t < p + n then byC x (n - 1 - (t - p)) else N.1 2 t := by
  intro n
  induction n with
  | zero =>
    intro f p N hf hn hp h1
    cases f with
    | zero => exact absurd hf (Nat.not_lt_zero _)
    | succ f =>
      refine ⟨N, ?_, rfl, fun _ _ _ => rfl, h1, fun t => by rw [if_neg (by omega)]⟩
      unfold fX8_take_3
      rw [if_pos (show nI (8 * 0) - 8 < 0 by decide)]
  | succ n ih =>
    intro f p N hf hn hp h1
    cases f with
    | zero => exact absurd hf (Nat.not_lt_zero _)
    | succ f =>
      have e1 : nI (8 * (n + 1)) - 8 = nI (8 * n) := (nI_sub (a := 8 * (n + 1)) (b := 8) (by omega)).trans (by rw [show 8 * (n + 1) - 8 = 8 * n by omega])
      have eb : v_nb ((Int32.toInt8 (x >>> (nI (8 * n) &&& 31))).toInt32) = byC x n := fb_byte_twice _
      unfold fX8_take_3
      rw [e1, if_neg (nI_pos (by omega)), h1, if_neg (show ¬ nI 700 ≤ nI p from nI_ge (by omega) (by omega)), if_pos (v_in_nI (by omega) (by decide)), nI_clamp (by omega), eb, si_c (show (1 : Nat) ≠ 2 by decide), h1, nI_1]
      obtain ⟨N', a, b, c, d, e⟩ := ih f (p + 1) (v_si (v_si N 2 p (byC x n)) 1 1 (nI (p + 1))) (by omega) (by omega) (by omega) si_s
      refine ⟨N', ?_, b, fun c' h3 h4 => by rw [c c' h3 h4, si_c h3, si_c h4], by rw [d, show p + 1 + n = p + (n + 1) by omega], fun t => ?_⟩
      · rw [show nI (8 * n) + -8 = nI (8 * n) - 8 from (Int32.sub_eq_add_neg _ _).symm]
        exact a
      · rw [e t, si_c (show (2 : Nat) ≠ 1 by decide)]
        by_cases q : p + 1 ≤ t ∧ t < p + 1 + n
        · rw [if_pos q, if_pos (by omega), show n - 1 - (t - (p + 1)) = n + 1 - 1 - (t - p) by omega]
        · rw [if_neg q]
          by_cases q2 : t = p
          · rw [q2, si_s, if_pos (by omega), show n + 1 - 1 - (p - p) = n by omega]
          · rw [si_n q2, if_neg (by omega)]
theorem c_tk4 {x : Int32} {p : Nat} (hp : p + 4 ≤ 700) (h1 : N.1 1 1 = nI p) : ∃ N', fX8_take N x = rV N' ∧ N'.2 = N.2 ∧ (∀ c, c ≠ 1 → c ≠ 2 → N'.1 c = N.1 c) ∧ N'.1 1 1 = nI (p + 4) ∧ ∀ t, N'.1 2 t = if p ≤ t ∧ t < p + 4 then byC x (3 - (t - p)) else N.1 2 t :=
  c_tk 4 FU p N (FU_lt (by decide)) (Nat.le_refl _) hp h1
def xsF (a b c d e : Int32) (q : Nat) : Int32 := if q = 0 then a else if q = 1 then b else if q = 2 then c else if q = 3 then d else e
def byR (x : Int32) (n : Nat) : Int32 := (x >>> (nI (8 * n) &&& 31)) &&& 255
theorem r_fd {x1 x2 x3 x4 x5 : Int32} : ∀ (n f k p : Nat) (N : vM), n < f → k + n = 20 → p + n ≤ 700 → N.1 130 31 = nI p →
    ∃ N', fX11_feed_23 f N x1 x2 x3 x4 x5 (nI k) = rI (nI (p + n)) N' ∧ N'.2 = N.2 ∧ (∀ c, c ≠ 130 → c ≠ 157 → N'.1 c = N.1 c) ∧ (∀ j, j ≠ 31 → N'.1 130 j = N.1 130 j) ∧ N'.1 130 31 = nI (p + n) ∧ ∀ t, N'.1 157 t = if p ≤ t ∧ t < p + n then byR (xsF x1 x2 x3 x4 x5 ((k + (t - p)) / 4)) (3 - (k + (t - p)) % 4) else N.1 157 t := by
  intro n
  induction n with
  | zero =>
    intro f k p N hf hk hp h1
    cases f with
    | zero => exact absurd hf (Nat.not_lt_zero _)
    | succ f =>
      refine ⟨N, ?_, rfl, fun _ _ _ => rfl, fun _ _ => rfl, h1, fun t => by rw [if_neg (by omega)]⟩
      unfold fX11_feed_23
      rw [if_pos (show (20 : Int32) ≤ nI k from nI_le (show 20 ≤ k by omega) (by omega)), h1]
      rfl
  | succ n ih =>
    intro f k p N hf hk hp h1
    cases f with
    | zero => exact absurd hf (Nat.not_lt_zero _)
    | succ f =>
      have e0 : fX11_feed_23 (f + 1) N x1 x2 x3 x4 x5 (nI k) = fX11_feed_76 (fX11_feed_23 f) N x1 x2 x3 x4 x5 (nI k) (xsF x1 x2 x3 x4 x5 (k / 4)) := by
        unfold fX11_feed_23
        unfold xsF
        rw [if_neg (show ¬ (20 : Int32) ≤ nI k from nI_ge (show k < 20 by omega) (by decide))]
        by_cases q1 : k < 4
        · rw [if_neg (show ¬ (4 : Int32) ≤ nI k from nI_ge q1 (by decide)), if_pos (show k / 4 = 0 by omega)]
        · rw [if_pos (show (4 : Int32) ≤ nI k from nI_le (show 4 ≤ k by omega) (by omega)), if_neg (show ¬ k / 4 = 0 by omega)]
          by_cases q2 : k < 8
          · rw [if_neg (show ¬ (8 : Int32) ≤ nI k from nI_ge q2 (by decide)), if_pos (show k / 4 = 1 by omega)]
          · rw [if_pos (show (8 : Int32) ≤ nI k from nI_le (show 8 ≤ k by omega) (by omega)), if_neg (show ¬ k / 4 = 1 by omega)]
            by_cases q3 : k < 12
            · rw [if_neg (show ¬ (12 : Int32) ≤ nI k from nI_ge q3 (by decide)), if_pos (show k / 4 = 2 by omega)]
            · rw [if_pos (show (12 : Int32) ≤ nI k from nI_le (show 12 ≤ k by omega) (by omega)), if_neg (show ¬ k / 4 = 2 by omega)]
              by_cases q4 : k < 16
              · rw [if_neg (show ¬ (16 : Int32) ≤ nI k from nI_ge q4 (by decide)), if_pos (show k / 4 = 3 by omega)]
              · rw [if_pos (show (16 : Int32) ≤ nI k from nI_le (show 16 ≤ k by omega) (by omega)), if_neg (show ¬ k / 4 = 3 by omega)]
      have e1 : (24 : Int32) - 8 * (nI k - nI k / 4 * 4) = nI (8 * (3 - k % 4)) := by
        rw [show nI k - nI k / 4 * 4 = nI (k % 4) from fa_rem (a := k) (k := 2) (by omega) (by decide), show (8 : Int32) * nI (k % 4) = nI (8 * (k % 4)) from nI_mul 8 (k % 4)]
        exact (nI_sub (a := 24) (by omega)).trans (by rw [show 24 - 8 * (k % 4) = 8 * (3 - k % 4) by omega])
      have eb : ((xsF x1 x2 x3 x4 x5 (k / 4)) >>> (nI (8 * (3 - k % 4)) &&& 31)) &&& 255 = byR (xsF x1 x2 x3 x4 x5 (k / 4)) (3 - k % 4) := rfl
      rw [e0]
      unfold fX11_feed_76
      rw [h1, if_pos (v_in_nI (by omega) (by decide)), nI_clamp (by omega), e1, eb, si_c (show (130 : Nat) ≠ 157 by decide), h1, nI_1, nI_1]
      generalize hy : byR (xsF x1 x2 x3 x4 x5 (k / 4)) (3 - k % 4) = y
      obtain ⟨N', a, b, c, d, e, g⟩ := ih f (k + 1) (p + 1) (v_si (v_si N 157 p y) 130 31 (nI (p + 1))) (by omega) (by omega) (by omega) si_s
      refine ⟨N', by rw [a, show p + 1 + n = p + (n + 1) by omega], b, fun c' h3 h4 => by rw [c c' h3 h4, si_c h3, si_c h4], fun j hj => by rw [d j hj, si_n hj, si_c (by decide)], by rw [e, show p + 1 + n = p + (n + 1) by omega], fun t => ?_⟩
      rw [g t, si_c (show (157 : Nat) ≠ 130 by decide)]
      by_cases q : p + 1 ≤ t ∧ t < p + 1 + n
      · rw [if_pos q, if_pos (by omega), show k + 1 + (t - (p + 1)) = k + (t - p) by omega]
      · rw [if_neg q]
        by_cases q2 : t = p
        · rw [q2, si_s, if_pos (by omega), Nat.sub_self, Nat.add_zero, hy]
        · rw [si_n q2, if_neg (by omega)]
theorem byR_b (x : Int32) (n : Nat) : nIb (byR x n) 255 ∧ ((byR x n).toInt8).toInt32 = byC x n := by
  refine ⟨?_, ?_⟩
  · unfold byR
    generalize x >>> (nI (8 * n) &&& 31) = y
    have h1 : (y &&& 255).toBitVec = (BitVec.ofNat 32 ((y.toBitVec.toNat) % 256)) := by
      rw [Int32.toBitVec_and]
      apply BitVec.eq_of_toNat_eq
      rw [BitVec.toNat_and, BitVec.toNat_ofNat, show (255 : Int32).toBitVec.toNat = 2 ^ 8 - 1 from rfl, Nat.and_two_pow_sub_one_eq_mod, Nat.mod_eq_of_lt (show y.toBitVec.toNat % 256 < 2 ^ 32 by omega)]
    have h2 : y &&& 255 = nI (y.toBitVec.toNat % 256) := Int32.toBitVec_inj.mp h1
    rw [h2]
    exact nIb_nI (by omega) (by decide)
  · unfold byR byC
    rw [fa_byte_low]
theorem o0 (h : Rel M) (a b c d e : Int32) : okS (fun K => gCm (fX10_feed M a b c d e) (fun M1 => fX11_feed M1 a b c d e) K) := by
  obtain ⟨t1, t2, t3, t4⟩ := h.tape
  generalize hp : qN (M.1 130 31) = p at t1 t2 t4
  have h11 : M.1 1 1 = nI p := t3.trans t2
  have e20 : nI p + 20 = nI (p + 20) := nI_add p 20
  by_cases q : p + 20 ≤ 700
  · obtain ⟨N1, a1, b1, c1, d1, e1⟩ := c_tk4 (N := M) (x := a) (p := p) (by omega) h11
    obtain ⟨N2, a2, b2, c2, d2, e2⟩ := c_tk4 (N := N1) (x := b) (p := p + 4) (by omega) d1
    obtain ⟨N3, a3, b3, c3, d3, e3⟩ := c_tk4 (N := N2) (x := c) (p := p + 4 + 4) (by omega) d2
    obtain ⟨N4, a4, b4, c4, d4, e4⟩ := c_tk4 (N := N3) (x := d) (p := p + 4 + 4 + 4) (by omega) d3
    obtain ⟨N5, a5, b5, c5, d5, e5⟩ := c_tk4 (N := N4) (x := e) (p := p + 4 + 4 + 4 + 4) (by omega) d4
    have n5c : ∀ c', c' ≠ 1 → c' ≠ 2 → N5.1 c' = M.1 c' := fun c' h1 h2 => by rw [c5 c' h1 h2, c4 c' h1 h2, c3 c' h1 h2, c2 c' h1 h2, c1 c' h1 h2]
    have n52 : N5.2 = M.2 := by rw [b5, b4, b3, b2, b1]
    have n5t : ∀ t, N5.1 2 t = if p ≤ t ∧ t < p + 20 then byC (xsF a b c d e ((0 + (t - p)) / 4)) (3 - (0 + (t - p)) % 4) else M.1 2 t := by
      intro t
      unfold xsF
      rw [e5, e4, e3, e2, e1]
      by_cases z : p ≤ t ∧ t < p + 20
      · rw [if_pos z]
        obtain ⟨q9, hq9⟩ : ∃ q9, q9 = (0 + (t - p)) / 4 := ⟨_, rfl⟩
        rw [← hq9]
        rcases (show q9 = 0 ∨ q9 = 1 ∨ q9 = 2 ∨ q9 = 3 ∨ q9 = 4 by omega) with w | w | w | w | w <;> rw [w]
        · rw [if_neg (by omega), if_neg (by omega), if_neg (by omega), if_neg (by omega), if_pos (by omega), if_pos rfl]
          exact congrArg (byC a) (by omega)
        · rw [if_neg (by omega), if_neg (by omega), if_neg (by omega), if_pos (by omega), if_neg (by decide), if_pos rfl]
          exact congrArg (byC b) (by omega)
        · rw [if_neg (by omega), if_neg (by omega), if_pos (by omega), if_neg (by decide), if_neg (by decide), if_pos rfl]
          exact congrArg (byC c) (by omega)
        · rw [if_neg (by omega), if_pos (by omega), if_neg (by decide), if_neg (by decide), if_neg (by decide), if_pos rfl]
          exact congrArg (byC d) (by omega)
        · rw [if_pos (by omega), if_neg (by decide), if_neg (by decide), if_neg (by decide), if_neg (by decide)]
          exact congrArg (byC e) (by omega)
      · rw [if_neg z, if_neg (by omega), if_neg (by omega), if_neg (by omega), if_neg (by omega), if_neg (by omega)]
    obtain ⟨N6, a6, b6, c6, d6, e6, g6⟩ := r_fd (x1 := a) (x2 := b) (x3 := c) (x4 := d) (x5 := e) 20 FU 0 p (v_si N5 130 1 0) (FU_lt (by decide)) rfl q (by rw [si_n (by decide), n5c 130 (by decide) (by decide)]; exact t2)
    refine ⟨N6, ?_, fun K => gCm_ok (z := nI (p + 20)) (M1 := N5) ?_ ?_⟩
    · refine Rel_tp h (by rw [b6]; exact n52) (fun c' hc' => by rw [c6 c' (by omega) (by omega), si_c (by omega), n5c c' (by omega) (by omega)]) (fun j hj => by rw [d6 j (by omega), si_n (by omega), n5c 130 (by decide) (by decide)]) ?_
      refine ⟨by rw [e6, qN_nI (by omega)]; exact q, by rw [e6, qN_nI (by omega)], ?_, fun t ht => ?_⟩
      · rw [c6 1 (by decide) (by decide), si_c (by decide), d5, e6]
      · rw [e6, qN_nI (by omega)] at ht
        rw [c6 2 (by decide) (by decide), si_c (show (2 : Nat) ≠ 130 by decide), n5t t, g6 t]
        by_cases z : p ≤ t ∧ t < p + 20
        · rw [if_pos z, if_pos z]
          obtain ⟨y1, y2⟩ := byR_b (xsF a b c d e ((0 + (t - p)) / 4)) (3 - (0 + (t - p)) % 4)
          exact ⟨y1, y2.symm⟩
        · rw [if_neg z, if_neg z, si_c (by decide), n5c 157 (by decide) (by decide)]
          exact t4 t (by omega)
    · unfold fX10_feed
      rw [h11, e20, if_pos (show nI (p + 20) ≤ 700 from nI_le q (by decide)), a1, bv_V, a2, bv_V, a3, bv_V, a4, bv_V, a5, bv_V, d5]
    · unfold fX11_feed
      rw [si_n (by decide), n5c 130 (by decide) (by decide), t2, e20, if_pos (show nI (p + 20) ≤ 700 from nI_le q (by decide))]
      exact a6
  · refine ⟨_, c0 h, fun K => gCm_ok (z := -1) (M1 := M) ?_ ?_⟩
    · unfold fX10_feed
      rw [h11, e20, if_neg (show ¬ nI (p + 20) ≤ (700 : Int32) from nI_ge (show 700 < p + 20 by omega) (by omega))]
    · unfold fX11_feed
      rw [si_n (by decide), t2, e20, if_neg (show ¬ nI (p + 20) ≤ (700 : Int32) from nI_ge (show 700 < p + 20 by omega) (by omega))]
end P27
