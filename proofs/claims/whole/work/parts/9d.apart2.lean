section P55
variable {M N N0 : vM} {i n far : Nat} {mk co : Nat → Nat}
theorem tb_self {s k : Nat} : (s ||| 2 ^ k).testBit k = true := by rw [tb_or, decide_eq_true rfl, Bool.or_true]
theorem tb_oth {s k j : Nat} (h : j ≠ k) : (s ||| 2 ^ k).testBit j = s.testBit j := by rw [tb_or, decide_eq_false h, Bool.or_false]
theorem c_ch (hn : n ≤ 14) (hc : ∀ j, j < n → co j < 1048576) (h30 : ∀ t, t < n → N0.1 30 t = nI (co t)) (h31 : ∀ t, t < n → N0.1 31 t = nI (clS far n mk t)) : ∀ (e d k s b : Nat) (N : vM), e < d → k + e = n → s < 2 ^ k → vSt far mk s → b < 16384 → b < 2 ^ n → vSt far mk b → bst N N0 n co b →
    ∃ N' b', fX6_choose_r d N (nI k) (nI s) (nI (wS (fun _ => 1) n s)) (nI (wS co n s)) = rV N' ∧ bst N' N0 n co b' ∧ b' < 2 ^ n ∧ vSt far mk b' ∧ kyS co n b' ≤ kyS co n b ∧ ∀ t, t < 2 ^ n → vSt far mk t → (∀ j, j < k → t.testBit j = s.testBit j) → kyS co n b' ≤ kyS co n t := by
  have p14 : 2 ^ n ≤ 16384 := Nat.pow_le_pow_right (j := 14) (by decide) hn
  intro e
  induction e with
  | zero =>
    intro d k s b N hd hk hs hv hb hb2 hbv hB
    cases d with
    | zero => exact absurd hd (Nat.not_lt_zero _)
    | succ d =>
      obtain rfl : k = n := by omega
      have hsz := wS_le (w := fun _ => 1) (s := s) (B := 1) k (fun j hj => Nat.le_refl 1)
      have hbz := wS_le (w := fun _ => 1) (s := b) (B := 1) k (fun j hj => Nat.le_refl 1)
      have g3 := hB.2.2.1
      have g4 := hB.2.2.2.1
      show ∃ N' b', fX6_choose_b (fX6_choose_r d) N (nI k) (nI s) (nI (wS (fun _ => 1) k s)) (nI (wS co k s)) = rV N' ∧ _
      unfold fX6_choose_b
      rw [g3, g4, nI_add, nI_sub (Nat.le_add_left _ _), Nat.add_sub_cancel]
      by_cases q : wS (fun _ => 1) k b ≤ wS (fun _ => 1) k s
      · obtain ⟨N', k1, k2⟩ := c_keep hn hc (s := s) (by omega) hb hB
        rw [if_pos (nI_le q (by omega)), if_pos (nI_le (Nat.le_refl k) (by omega))]
        refine ⟨N', _, by unfold fX6_choose_30; rw [k1, bv_V], k2, by split <;> omega, by split <;> assumption, by split <;> omega, fun t t1 t2 t3 => ?_⟩
        have : t = s := Nat.eq_of_testBit_eq (fun j => by
          by_cases z : j < k
          · exact t3 j z
          · rw [lt_tb t1 j (by omega), lt_tb hs j (by omega)])
        rw [this]
        split <;> omega
      · rw [if_neg (nI_ge (by omega) (by omega))]
        refine ⟨N, b, rfl, hB, hb2, hbv, Nat.le_refl _, fun t t1 t2 t3 => ?_⟩
        have : t = s := Nat.eq_of_testBit_eq (fun j => by
          by_cases z : j < k
          · exact t3 j z
          · rw [lt_tb t1 j (by omega), lt_tb hs j (by omega)])
        rw [this]
        exact Nat.le_of_lt ((ky_lt hn hc hb (by omega)).mpr (Or.inl (by omega)))
  | succ e ih =>
    intro d k s b N hd hk hs hv hb hb2 hbv hB
    cases d with
    | zero => exact absurd hd (Nat.not_lt_zero _)
    | succ d =>
      have hkn : k < n := by omega
      have hsz := wS_le (w := fun _ => 1) (s := s) (B := 1) n (fun j hj => Nat.le_refl 1)
      have hbz := wS_le (w := fun _ => 1) (s := b) (B := 1) n (fun j hj => Nat.le_refl 1)
      have hs14 : s < 16384 := Nat.lt_of_lt_of_le hs (Nat.le_trans (Nat.pow_le_pow_right (by decide) (Nat.le_of_lt hkn)) p14)
      have g3 := hB.2.2.1
      have g4 := hB.2.2.2.1
      have hsk : s.testBit k = false := lt_tb hs k (Nat.le_refl k)
      show ∃ N' b', fX6_choose_b (fX6_choose_r d) N (nI k) (nI s) (nI (wS (fun _ => 1) n s)) (nI (wS co n s)) = rV N' ∧ _
      unfold fX6_choose_b
      rw [g3, g4, nI_add, nI_sub (show k ≤ wS (fun _ => 1) n s + n by omega)]
      by_cases q : wS (fun _ => 1) n b ≤ wS (fun _ => 1) n s + n - k
      · have p2 : 2 ^ k < 2 ^ (k + 1) := Nat.pow_lt_pow_right (by decide) (Nat.lt_succ_self k)
        rw [if_pos (nI_le q (by omega)), if_neg (nI_ge hkn (by omega)), if_pos (show nI k < 14 from nI_lt (show k < 14 by omega) (by decide)), e_at (len := 14) rfl (by omega) (by decide), bi_I, hB.2.1 31 (by decide), h31 k hkn]
        have without : ∀ (N1 : vM) (b1 : Nat), b1 < 2 ^ n → vSt far mk b1 → bst N1 N0 n co b1 → kyS co n b1 ≤ kyS co n b → (∀ t, t < 2 ^ n → vSt far mk t → (∀ j, j < k → t.testBit j = s.testBit j) → t.testBit k = true → kyS co n b1 ≤ kyS co n t) → ∃ N' b', fX6_choose_78 (fX6_choose_r d) N1 (nI k) (nI s) (nI (wS (fun _ => 1) n s)) (nI (wS co n s)) = rV N' ∧ bst N' N0 n co b' ∧ b' < 2 ^ n ∧ vSt far mk b' ∧ kyS co n b' ≤ kyS co n b ∧ ∀ t, t < 2 ^ n → vSt far mk t → (∀ j, j < k → t.testBit j = s.testBit j) → kyS co n b' ≤ kyS co n t := fun N1 b1 h1 h2 h3 h4 h5 => by
          obtain ⟨N', b', y1, y2, y3, y4, y5, y6⟩ := ih d (k + 1) s b1 N1 (by omega) (by omega) (by omega) hv (by omega) h1 h2 h3
          refine ⟨N', b', ?_, y2, y3, y4, Nat.le_trans y5 h4, fun t t1 t2 t3 => ?_⟩
          · unfold fX6_choose_78
            rw [nI_1, y1, bv_V]
          · by_cases z : t.testBit k = true
            · exact Nat.le_trans y5 (h5 t t1 t2 t3 z)
            · refine y6 t t1 t2 (fun j hj => ?_)
              by_cases w : j = k
              · rw [w, hsk]
                cases hz : t.testBit k
                · rfl
                · exact absurd hz z
              · exact t3 j (by omega)
        have hor := vS_or (far := far) (mk := mk) (n := n) hkn hs hv
        have hdis := i_dis (y := clS far n mk k) (x := s) (Nat.lt_trans (cl_lt hn) (by decide))
        by_cases z : nI (clS far n mk k) &&& nI s = 0
        · rw [if_pos z, e_at (len := 14) rfl (by omega) (by decide), bi_I, hB.2.1 30 (by decide), h30 k hkn, sh1 k (by omega), fa_or, nI_1, nI_1, nI_add, ← wS_or (w := co) hsk n hkn, ← wS_or (w := fun _ => 1) hsk n hkn]
          obtain ⟨N1, b1, x1, x2, x3, x4, x5, x6⟩ := ih d (k + 1) (s ||| 2 ^ k) b N (by omega) (by omega) (Nat.or_lt_two_pow (Nat.lt_trans hs p2) p2) (hor.mpr (hdis.mp z)) hb hb2 hbv hB
          rw [x1, bv_V]
          refine without N1 b1 x3 x4 x2 x5 (fun t t1 t2 t3 t4 => x6 t t1 t2 (fun j hj => ?_))
          by_cases w : j = k
          · rw [w, t4, tb_self]
          · rw [tb_oth w]
            exact t3 j (by omega)
        · rw [if_neg z]
          refine without N b hb2 hbv hB (Nat.le_refl _) (fun t t1 t2 t3 t4 => ?_)
          exfalso
          refine z (hdis.mpr (fun x hx => ?_))
          obtain ⟨c1, c2, c3⟩ := cl_tb.mp hx
          cases hsx : s.testBit x
          · rfl
          · exfalso
            have hxk : x < k := by
              apply Nat.lt_of_not_le
              intro w
              rw [lt_tb hs x w] at hsx
              cases hsx
            have := t2 k x hxk t4 (by rw [t3 x hxk]; exact hsx)
            rw [Nat.xor_comm] at this
            omega
      · rw [if_neg (nI_ge (by omega) (by omega))]
        refine ⟨N, b, rfl, hB, hb2, hbv, Nat.le_refl _, fun t t1 t2 t3 => ?_⟩
        have hx := wS_ext (s := s) (t := t) (k := k) t3 (lt_tb hs) (n - k)
        rw [show k + (n - k) = n by omega] at hx
        exact Nat.le_of_lt ((ky_lt hn hc hb (by omega)).mpr (Or.inl (by omega)))
/-! the clashes -/
theorem c_cl5 {k : Nat} (hn : n ≤ 14) (hf : far ≤ 30) (hk : k < n) (h28 : N.1 28 3 = nI n) (h29 : ∀ t, t < n → N.1 29 t = nI (mk t)) (hm : ∀ t, t < n → mk t < 1048576) : ∀ (e f j : Nat), e < f → j + e = n →
    fX6_clashesOf_5 f N (nI k) (nI far) (nI (bdF (fun j => !decide (j = k) && decide (pcn 32 (mk j ^^^ mk k) < far)) id j)) (nI j) = rI (nI (clS far n mk k)) N := by
  intro e
  induction e with
  | zero =>
    intro f j hf hj
    cases f with
    | zero => exact absurd hf (Nat.not_lt_zero _)
    | succ f =>
      obtain rfl : j = n := by omega
      unfold fX6_clashesOf_5
      rw [h28, if_pos (nI_le (Nat.le_refl _) (by omega))]
      rfl
  | succ e ih =>
    intro f j hf2 hj
    cases f with
    | zero => exact absurd hf2 (Nat.not_lt_zero _)
    | succ f =>
      have i2 := ih f (j + 1) (by omega) (by omega)
      rw [show bdF (fun j => !decide (j = k) && decide (pcn 32 (mk j ^^^ mk k) < far)) id (j + 1) = if (!decide (j = k) && decide (pcn 32 (mk j ^^^ mk k) < far)) = true then bdF (fun j => !decide (j = k) && decide (pcn 32 (mk j ^^^ mk k) < far)) id j ||| 2 ^ j else bdF (fun j => !decide (j = k) && decide (pcn 32 (mk j ^^^ mk k) < far)) id j from rfl] at i2
      generalize bdF (fun j => !decide (j = k) && decide (pcn 32 (mk j ^^^ mk k) < far)) id j = x at i2
      have hp := pcn_lt (x := mk j ^^^ mk k)
      unfold fX6_clashesOf_5
      rw [h28, if_neg (nI_ge (by omega) (by omega)), nI_1]
      by_cases q : j = k
      · rw [if_pos (by rw [q])]
        rw [if_neg (show ¬ (!decide (j = k) && decide (pcn 32 (mk j ^^^ mk k) < far)) = true by rw [decide_eq_true q]; simp)] at i2
        exact i2
      · rw [if_neg (nI_ne (by omega) (by omega) q), e_at (len := 14) rfl (by omega) (by decide), bi_I, e_at (len := 14) rfl (by omega) (by decide), bi_I, h29 j (by omega), h29 k hk, nx_xor, pop_nat (Nat.lt_trans (Nat.xor_lt_two_pow (n := 20) (hm j (by omega)) (hm k hk)) (by decide)), bi_I]
        by_cases w : pcn 32 (mk j ^^^ mk k) < far
        · rw [if_neg (nI_ge w (by omega)), sh1 j (by omega), fa_or]
          rw [if_pos (show (!decide (j = k) && decide (pcn 32 (mk j ^^^ mk k) < far)) = true by rw [decide_eq_false q, decide_eq_true w]; rfl)] at i2
          exact i2
        · rw [if_pos (nI_le (by omega) (by omega))]
          rw [if_neg (show ¬ (!decide (j = k) && decide (pcn 32 (mk j ^^^ mk k) < far)) = true by rw [decide_eq_false w, Bool.and_false]; decide)] at i2
          exact i2
theorem c_s80 (hn : n ≤ 14) (hf : far ≤ 30) (hm : ∀ t, t < n → mk t < 1048576) (hc : ∀ j, j < n → co j < 1048576) (h28 : N0.1 28 3 = nI n) (h29 : ∀ t, t < n → N0.1 29 t = nI (mk t)) (h30 : ∀ t, t < n → N0.1 30 t = nI (co t)) : ∀ (e f j : Nat) (N : vM), e < f → j + e = n → N.2 = N0.2 → (∀ c, c ≠ 31 → N.1 c = N0.1 c) → (∀ t, t < j → N.1 31 t = nI (clS far n mk t)) →
    ∃ N' b, fX6_seek_80 f N (nI far) (nI j) = rV N' ∧ N'.2 = N0.2 ∧ (∀ c, c ≠ 28 → c ≠ 31 → N'.1 c = N0.1 c) ∧ N'.1 28 4 = nI (wS (fun _ => 1) n b) ∧ N'.1 28 5 = nI (wS co n b) ∧ N'.1 28 6 = nI b ∧ b < 2 ^ n ∧ vSt far mk b ∧ ∀ t, t < 2 ^ n → vSt far mk t → kyS co n b ≤ kyS co n t := by
  intro e
  induction e with
  | zero =>
    intro f j N hf hj h2 h3 h31
    cases f with
    | zero => exact absurd hf (Nat.not_lt_zero _)
    | succ f =>
      obtain rfl : j = n := by omega
      have z1 : ∀ w, wS w j 0 = 0 := fun w => by
        have := wS_hi (w := w) (s := 0) (k := 0) (fun j _ => Nat.zero_testBit j) j
        rw [Nat.zero_add] at this
        exact this
      have hv0 : vSt far mk 0 := fun a b _ ha _ => by rw [Nat.zero_testBit] at ha; cases ha
      obtain ⟨N', b', y1, y2, y3, y4, y5, y6⟩ := c_ch (N0 := v_si (v_si (v_si N 28 4 0) 28 5 0) 28 6 0) (mk := mk) (far := far) hn hc (fun t ht => by rw [si_c (by decide), si_c (by decide), si_c (by decide), h3 30 (by decide)]; exact h30 t ht) (fun t ht => by rw [si_c (by decide), si_c (by decide), si_c (by decide)]; exact h31 t ht) j 16 0 0 0 (v_si (v_si (v_si N 28 4 0) 28 5 0) 28 6 0) (by omega) (Nat.zero_add _) (by decide) hv0 (by decide) (Nat.two_pow_pos _) hv0 ⟨rfl, fun _ _ => rfl, by rw [si_n (by decide), si_n (by decide), si_n (by decide), h3 28 (by decide)]; exact h28, by rw [si_n (by decide), si_n (by decide), si_s, z1]; rfl, by rw [si_n (by decide), si_s, z1]; rfl, by rw [si_s]; rfl⟩
      rw [z1, z1] at y1
      refine ⟨N', b', ?_, ?_, fun c c1 c2 => ?_, y2.2.2.2.1, y2.2.2.2.2.1, y2.2.2.2.2.2, y3, y4, fun t t1 t2 => y6 t t1 t2 (fun j hj => absurd hj (Nat.not_lt_zero _))⟩
      · unfold fX6_seek_80 fX6_choose
        rw [h3 28 (by decide), h28, if_pos (nI_le (Nat.le_refl _) (by omega))]
        refine Eq.trans (congrArg (fun x => bv x fun M5 => rV M5) y1) ?_
        rw [bv_V]
      · rw [y2.1]
        exact h2
      · rw [y2.2.1 c c1, si_c c1, si_c c1, si_c c1]
        exact h3 c c2
  | succ e ih =>
    intro f j N hf2 hj h2 h3 h31
    cases f with
    | zero => exact absurd hf2 (Nat.not_lt_zero _)
    | succ f =>
      obtain ⟨N', b, y1, y⟩ := ih f (j + 1) (v_si N 31 j (nI (clS far n mk j))) (by omega) (by omega) h2 (fun c hc => by rw [si_c hc]; exact h3 c hc) (fun t ht => by
        by_cases z : t = j
        · rw [z, si_s]
        · rw [si_n z]; exact h31 t (by omega))
      refine ⟨N', b, ?_, y⟩
      have e5 := c_cl5 (N := N) (mk := mk) (k := j) hn hf (by omega) (by rw [h3 28 (by decide)]; exact h28) (fun t ht => by rw [h3 29 (by decide)]; exact h29 t ht) hm n FU 0 (FU_lt (by omega)) (Nat.zero_add _)
      unfold fX6_seek_80 fX6_clashesOf
      rw [h3 28 (by decide), h28, if_neg (nI_ge (by omega) (by omega))]
      refine Eq.trans (congrArg (fun x => bi x fun y8 M9 => bv (fX10_put M9 31 (nI j) y8) fun M12 => fX6_seek_80 f M12 (nI far) (nI j + 1)) e5) ?_
      rw [bi_I, e_put (len := 14) rfl (by omega) (by decide), bv_V, nI_1]
      exact y1
end P55
