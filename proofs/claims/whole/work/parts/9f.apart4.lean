section P57
variable {M N S : vM} {i n far : Nat} {mk co : Nat → Nat}
theorem r_141 (hi : i < 6) (hn : n ≤ 14) (hS : fewS S i n mk co) {s : Nat} (hs : s < 2 ^ n) {x2 x3 x5 x6 x7 x9 : Int32} {k98 : vM → Int32 → Int32 → Int32 → Int32 → Int32 → Int32 → Int32 → Int32 → Option (vR × vM)} : ∀ (e f j : Nat), e < f → j + e = n →
    fX11_apart_141 k98 f S (nI i) x2 x3 (nI n) x5 x6 x7 (nI s) x9 (nI (wS co j s)) (nI j) = if x9 = x6 then if nI (wS co n s) < x7 then k98 S (nI i) x2 x3 (nI n) (nI s) x9 (nI (wS co n s)) (nI (s + 1)) else k98 S (nI i) x2 x3 (nI n) x5 x6 x7 (nI (s + 1)) else k98 S (nI i) x2 x3 (nI n) (nI s) x9 (nI (wS co n s)) (nI (s + 1)) := by
  have p14 : 2 ^ n ≤ 16384 := Nat.pow_le_pow_right (j := 14) (by decide) hn
  intro e
  induction e with
  | zero =>
    intro f j hf hj
    cases f with
    | zero => exact absurd hf (Nat.not_lt_zero _)
    | succ f =>
      obtain rfl : j = n := by omega
      unfold fX11_apart_141
      rw [if_pos (nI_le (Nat.le_refl _) (by omega)), nI_1]
  | succ e ih =>
    intro f j hf hj
    cases f with
    | zero => exact absurd hf (Nat.not_lt_zero _)
    | succ f =>
      have i2 := ih f (j + 1) (by omega) (by omega)
      obtain ⟨w, w1, w2, -, w4, -, -⟩ := hS j (by omega)
      have hv := r_in hi w1
      unfold fX11_apart_141
      rw [if_neg (nI_ge (by omega) (by omega)), if_pos (v_in_nI (by omega) (by decide)), nI_clamp (show j < 2 ^ 31 by omega), w2, e_ix, if_pos hv, nI_clamp (by omega), w4, nI_1]
      rw [wS] at i2
      by_cases q : s.testBit j = true
      · rw [i_b1 (by omega) (by omega) q, Int32.one_mul, nI_add]
        rw [if_pos q] at i2
        exact i2
      · rw [i_b0 (by omega) (by omega) q, Int32.zero_mul, Int32.add_zero]
        rw [if_neg q, Nat.add_zero] at i2
        exact i2
theorem r_98 {v : Nat} (hi : i < 6) (hn : n ≤ 14) (hf30 : far ≤ 30) (hS : fewS S i n mk co) (hv3 : v < 3) : ∀ (e f s b : Nat), e < f → s + e = 2 ^ n → b < s → vSt far mk b → (∀ t, t < s → vSt far mk t → kyS co n b ≤ kyS co n t) →
    ∃ b', b' < 2 ^ n ∧ vSt far mk b' ∧ (∀ t, t < 2 ^ n → vSt far mk t → kyS co n b' ≤ kyS co n t) ∧ fX11_apart_98 f S (nI i) (nI far) (nI v) (nI n) (nI b) (nI (wS (fun _ => 1) n b)) (nI (wS co n b)) (nI s) = rI (if v = 0 then nI (wS (fun _ => 1) n b') else if v = 1 then nI (wS co n b') else nI b') S := by
  have p14 : 2 ^ n ≤ 16384 := Nat.pow_le_pow_right (j := 14) (by decide) hn
  have hco : ∀ j, j < n → co j < 1048576 := fun j hj => by
    obtain ⟨w, -, -, -, -, -, h⟩ := hS j hj
    exact h
  intro e
  induction e with
  | zero =>
    intro f s b hf hs hb hbv hbm
    cases f with
    | zero => exact absurd hf (Nat.not_lt_zero _)
    | succ f =>
      obtain rfl : s = 2 ^ n := by omega
      refine ⟨b, hb, hbv, hbm, ?_⟩
      unfold fX11_apart_98
      rw [sh1 n (by omega), if_pos (nI_le (Nat.le_refl _) (by omega))]
      rcases (show v = 0 ∨ v = 1 ∨ v = 2 by omega) with rfl | rfl | rfl <;> rfl
  | succ e ih =>
    intro f s b hf hs hb hbv hbm
    cases f with
    | zero => exact absurd hf (Nat.not_lt_zero _)
    | succ f =>
      have hs2 : s < 2 ^ n := by omega
      have hk := ky_lt (n := n) (co := co) hn hco (s := s) (b := b) (by omega) (by omega)
      have hk2 := ky_lt (n := n) (co := co) hn hco (s := b) (b := s) (by omega) (by omega)
      have hss := wS_le (w := fun _ => 1) (s := s) (B := 1) n (fun j hj => Nat.le_refl 1)
      have hbs := wS_le (w := fun _ => 1) (s := b) (B := 1) n (fun j hj => Nat.le_refl 1)
      have hsc := wS_le (w := co) (s := s) (B := 1048575) n (fun j hj => by have := hco j hj; omega)
      have hbc := wS_le (w := co) (s := b) (B := 1048575) n (fun j hj => by have := hco j hj; omega)
      have keep := ih f (s + 1) b (by omega) (by omega) (by omega) hbv
      have take := ih f (s + 1) s (by omega) (by omega) (by omega)
      have hpc : pcn 32 s = wS (fun _ => 1) n s := by
        rw [← wS_pcn, ← wS_hi (w := fun _ => 1) (lt_tb hs2) (32 - n), show n + (32 - n) = 32 by omega]
      have upd : vSt far mk s → kyS co n s < kyS co n b → ∀ t, t < s + 1 → vSt far mk t → kyS co n s ≤ kyS co n t := fun _ h1 t t1 t2 => by
        by_cases z : t = s
        · rw [z]; exact Nat.le_refl _
        · exact Nat.le_trans (Nat.le_of_lt h1) (hbm t (by omega) t2)
      have stay : (vSt far mk s → kyS co n b ≤ kyS co n s) → ∀ t, t < s + 1 → vSt far mk t → kyS co n b ≤ kyS co n t := fun h1 t t1 t2 => by
        by_cases z : t = s
        · rw [z]; rw [z] at t2; exact h1 t2
        · exact hbm t (by omega) t2
      have e13 := r_3 hi hn hf30 hS hs2 14 FU 0 (FU_lt (by omega)) (Nat.zero_add _)
      have eap := ap_iff (far := far) (mk := mk) hn hs2
      have e141 := r_141 (co := co) (mk := mk) hi hn hS hs2 (x2 := nI far) (x3 := nI v) (x5 := nI b) (x6 := nI (wS (fun _ => 1) n b)) (x7 := nI (wS co n b)) (x9 := nI (wS (fun _ => 1) n s)) (k98 := fX11_apart_98 f) n FU 0 (FU_lt (by omega)) (Nat.zero_add _)
      unfold fX11_apart_98
      rw [sh1 n (by omega), if_neg (nI_ge hs2 (by omega)), ref_bitsOf (by omega), bi_I, hpc, nI_1]
      by_cases q1 : wS (fun _ => 1) n s < wS (fun _ => 1) n b
      · rw [if_pos (nI_lt q1 (by omega))]
        exact keep (stay (fun _ => Nat.le_of_lt (hk2.mpr (Or.inl q1))))
      · rw [if_neg (nI_nlt (by omega) (by omega))]
        unfold fX11_areApart
        rw [show (0 : Int32) = nI 0 from rfl, e13, bi_I]
        by_cases q2 : vSt far mk s
        · rw [if_pos (eap.mpr q2), if_neg (show ¬ (1 : Int32) = nI 0 by decide)]
          refine Exists.elim (p := fun b' => b' < 2 ^ n ∧ vSt far mk b' ∧ (∀ t, t < 2 ^ n → vSt far mk t → kyS co n b' ≤ kyS co n t) ∧ fX11_apart_141 (fX11_apart_98 f) FU S (nI i) (nI far) (nI v) (nI n) (nI b) (nI (wS (fun _ => 1) n b)) (nI (wS co n b)) (nI s) (nI (wS (fun _ => 1) n s)) (nI 0) (nI 0) = rI (if v = 0 then nI (wS (fun _ => 1) n b') else if v = 1 then nI (wS co n b') else nI b') S) ?_ (fun b' h => ⟨b', h⟩)
          rw [show fX11_apart_141 (fX11_apart_98 f) FU S (nI i) (nI far) (nI v) (nI n) (nI b) (nI (wS (fun _ => 1) n b)) (nI (wS co n b)) (nI s) (nI (wS (fun _ => 1) n s)) (nI 0) (nI 0) = _ from e141]
          by_cases q3 : wS (fun _ => 1) n s = wS (fun _ => 1) n b
          · rw [if_pos (congrArg nI q3)]
            by_cases q4 : wS co n s < wS co n b
            · rw [if_pos (nI_lt q4 (by omega))]
              exact take q2 (upd q2 (hk.mpr (Or.inr ⟨q3, Or.inl q4⟩)))
            · rw [if_neg (nI_nlt (by omega) (by omega))]
              exact keep (stay (fun _ => Nat.le_of_not_lt (fun z => by have := hk.mp z; omega)))
          · rw [if_neg (nI_ne (by omega) (by omega) q3)]
            exact take q2 (upd q2 (hk.mpr (Or.inl (by omega))))
        · rw [if_neg (fun z => q2 (eap.mp z)), if_pos (show (0 : Int32) = nI 0 from rfl)]
          exact keep (stay (fun z => absurd z q2))
end P57
