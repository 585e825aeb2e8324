section P54
variable {M N N0 : vM} {i n far : Nat} {mk co : Nat → Nat}
def wS (w : Nat → Nat) : Nat → Nat → Nat
  | 0, _ => 0
  | n + 1, s => wS w n s + if s.testBit n = true then w n else 0
theorem wS_g {w : Nat → Nat} {s t : Nat} : ∀ n, (∀ j, j < n → s.testBit j = t.testBit j) → wS w n s = wS w n t
  | 0, _ => rfl
  | n + 1, h => by
    rw [wS, wS, wS_g n (fun j hj => h j (by omega)), h n (Nat.lt_succ_self n)]
theorem wS_or {w : Nat → Nat} {s k : Nat} (hs : s.testBit k = false) : ∀ n, k < n → wS w n (s ||| 2 ^ k) = wS w n s + w k
  | 0, h => absurd h (Nat.not_lt_zero _)
  | n + 1, h => by
    rw [wS, wS]
    by_cases q : n = k
    · rw [q, wS_g (t := s) k (fun j hj => by rw [tb_or, decide_eq_false (show ¬ j = k by omega), Bool.or_false]), tb_or, decide_eq_true rfl, Bool.or_true, if_pos rfl, hs, if_neg (by decide)]
      omega
    · rw [wS_or hs n (by omega), tb_or, decide_eq_false q, Bool.or_false]
      omega
theorem wS_ext {s t k : Nat} (h : ∀ j, j < k → t.testBit j = s.testBit j) (hs : ∀ j, k ≤ j → s.testBit j = false) : ∀ d, wS (fun _ => 1) (k + d) t ≤ wS (fun _ => 1) (k + d) s + d
  | 0 => by
    rw [wS_g (s := t) (t := s) (k + 0) (fun j hj => h j hj)]
    exact Nat.le_refl _
  | d + 1 => by
    have ih := wS_ext h hs d
    rw [show k + (d + 1) = k + d + 1 from rfl, wS, wS, hs (k + d) (Nat.le_add_right _ _), if_neg (show ¬ false = true by decide)]
    split <;> omega
theorem wS_le {w : Nat → Nat} {s B : Nat} : ∀ n, (∀ j, j < n → w j ≤ B) → wS w n s ≤ n * B
  | 0, _ => Nat.zero_le _
  | n + 1, h => by
    have ih := wS_le (w := w) (s := s) (B := B) n (fun j hj => h j (by omega))
    have := h n (Nat.lt_succ_self n)
    rw [wS, Nat.add_mul, Nat.one_mul]
    split <;> omega
theorem wS_pcn {s : Nat} : ∀ n, wS (fun _ => 1) n s = pcn n s
  | 0 => rfl
  | n + 1 => by
    rw [wS, wS_pcn n, pcn_add 1 n s]
    refine congrArg (fun x => pcn n s + x) ?_
    rw [Nat.testBit_eq_decide_div_mod_eq]
    show _ = s / 2 ^ n % 2 + 0
    by_cases q : s / 2 ^ n % 2 = 1
    · rw [if_pos (decide_eq_true q), q]
    · rw [if_neg (by rw [decide_eq_false q]; decide)]
      omega
theorem wS_hi {w : Nat → Nat} {s k : Nat} (hs : ∀ j, k ≤ j → s.testBit j = false) : ∀ d, wS w (k + d) s = wS w k s
  | 0 => rfl
  | d + 1 => by
    rw [show k + (d + 1) = k + d + 1 from rfl, wS, hs (k + d) (Nat.le_add_right _ _), if_neg (show ¬ false = true by decide), wS_hi hs d, Nat.add_zero]
theorem lt_tb {s k : Nat} (h : s < 2 ^ k) : ∀ j, k ≤ j → s.testBit j = false := fun j hj => Nat.testBit_lt_two_pow (Nat.lt_of_lt_of_le h (Nat.pow_le_pow_right (by decide) hj))
def vSt (far : Nat) (mk : Nat → Nat) (s : Nat) : Prop := ∀ a b, b < a → s.testBit a = true → s.testBit b = true → far ≤ pcn 32 (mk a ^^^ mk b)
def clS (far n : Nat) (mk : Nat → Nat) (k : Nat) : Nat := bdF (fun j => !decide (j = k) && decide (pcn 32 (mk j ^^^ mk k) < far)) id n
theorem cl_tb {k t : Nat} : (clS far n mk k).testBit t = true ↔ t < n ∧ t ≠ k ∧ pcn 32 (mk t ^^^ mk k) < far := by
  unfold clS
  rw [bd_tb]
  refine ⟨fun ⟨j, a, b, c⟩ => ?_, fun ⟨a, b, c⟩ => ⟨t, a, ?_, rfl⟩⟩
  · rw [show t = j from c.symm]
    rw [Bool.and_eq_true, decide_eq_true_eq, Bool.not_eq_true', decide_eq_false_iff_not] at b
    exact ⟨a, b⟩
  · rw [Bool.and_eq_true, decide_eq_true_eq, Bool.not_eq_true', decide_eq_false_iff_not]
    exact ⟨b, c⟩
theorem cl_lt {k : Nat} (hn : n ≤ 14) : clS far n mk k < 2 ^ 14 := by
  apply Nat.lt_of_not_le
  intro h
  obtain ⟨j, h1, h2⟩ := Nat.exists_ge_and_testBit_of_ge_two_pow h
  have := (cl_tb.mp h2).1
  omega
theorem vS_or {s k : Nat} (hk : k < n) (hs : s < 2 ^ k) (hv : vSt far mk s) : vSt far mk (s ||| 2 ^ k) ↔ ∀ t, (clS far n mk k).testBit t = true → s.testBit t = false := by
  have hh := lt_tb hs
  refine ⟨fun h t ht => ?_, fun h a b hab ha hb => ?_⟩
  · obtain ⟨t1, t2, t3⟩ := cl_tb.mp ht
    cases hst : s.testBit t
    · rfl
    · exfalso
      have htk : t < k := by
        apply Nat.lt_of_not_le
        intro z
        rw [hh t z] at hst
        cases hst
      have := h k t htk (by rw [tb_or, decide_eq_true rfl, Bool.or_true]) (by rw [tb_or, hst, Bool.true_or])
      rw [Nat.xor_comm] at this
      omega
  · rw [tb_or] at ha hb
    have hbk : s.testBit b = true := by
      by_cases z : b = k
      · exfalso
        rw [decide_eq_false (show ¬ a = k by omega), Bool.or_false, hh a (by omega)] at ha
        cases ha
      · rw [decide_eq_false z, Bool.or_false] at hb
        exact hb
    have hbk2 : b < k := by
      apply Nat.lt_of_not_le
      intro z
      rw [hh b z] at hbk
      cases hbk
    by_cases z : a = k
    · rw [z]
      apply Nat.le_of_not_lt
      intro hl
      have := h b (cl_tb.mpr ⟨by omega, by omega, by rw [Nat.xor_comm]; exact hl⟩)
      rw [this] at hbk
      cases hbk
    · rw [decide_eq_false z, Bool.or_false] at ha
      exact hv a b hab ha hbk
def kyS (co : Nat → Nat) (n s : Nat) : Nat := ((14 - wS (fun _ => 1) n s) * 16777216 + wS co n s) * 16384 + s
theorem ky_lt {s b : Nat} (hn : n ≤ 14) (hc : ∀ j, j < n → co j < 1048576) (hs : s < 16384) (hb : b < 16384) : kyS co n s < kyS co n b ↔ wS (fun _ => 1) n b < wS (fun _ => 1) n s ∨ (wS (fun _ => 1) n s = wS (fun _ => 1) n b ∧ (wS co n s < wS co n b ∨ (wS co n s = wS co n b ∧ s < b))) := by
  have h1 := wS_le (w := fun _ => 1) (s := s) (B := 1) n (fun j hj => Nat.le_refl 1)
  have h2 := wS_le (w := fun _ => 1) (s := b) (B := 1) n (fun j hj => Nat.le_refl 1)
  have h3 := wS_le (w := co) (s := s) (B := 1048575) n (fun j hj => by have := hc j hj; omega)
  have h4 := wS_le (w := co) (s := b) (B := 1048575) n (fun j hj => by have := hc j hj; omega)
  unfold kyS
  omega
theorem ky_inj {s b : Nat} (hs : s < 16384) (hb : b < 16384) (h : kyS co n s = kyS co n b) : s = b := by
  unfold kyS at h
  omega
/-- the class's best so far -/
def bst (N N0 : vM) (n : Nat) (co : Nat → Nat) (b : Nat) : Prop := N.2 = N0.2 ∧ (∀ c, c ≠ 28 → N.1 c = N0.1 c) ∧ N.1 28 3 = nI n ∧ N.1 28 4 = nI (wS (fun _ => 1) n b) ∧ N.1 28 5 = nI (wS co n b) ∧ N.1 28 6 = nI b
theorem c_keep {s b : Nat} (hn : n ≤ 14) (hc : ∀ j, j < n → co j < 1048576) (hs : s < 16384) (hb : b < 16384) (h : bst N N0 n co b) :
    ∃ N', fX6_keepIfBetter N (nI s) (nI (wS (fun _ => 1) n s)) (nI (wS co n s)) = rV N' ∧ bst N' N0 n co (if kyS co n s < kyS co n b then s else b) := by
  have h1 := wS_le (w := fun _ => 1) (s := s) (B := 1) n (fun j hj => Nat.le_refl 1)
  have h2 := wS_le (w := fun _ => 1) (s := b) (B := 1) n (fun j hj => Nat.le_refl 1)
  have h3 := wS_le (w := co) (s := s) (B := 1048575) n (fun j hj => by have := hc j hj; omega)
  have h4 := wS_le (w := co) (s := b) (B := 1048575) n (fun j hj => by have := hc j hj; omega)
  have hk := ky_lt (n := n) (co := co) hn hc hs hb
  obtain ⟨g1, g2, g3, g4, g5, g6⟩ := h
  have yes : kyS co n s < kyS co n b → ∃ N', fX6_keepIfBetter_61 N (nI s) (nI (wS (fun _ => 1) n s)) (nI (wS co n s)) 1 = rV N' ∧ bst N' N0 n co (if kyS co n s < kyS co n b then s else b) := fun q => by
    refine ⟨v_si (v_si (v_si N 28 4 (nI (wS (fun _ => 1) n s))) 28 5 (nI (wS co n s))) 28 6 (nI s), rfl, ?_⟩
    rw [if_pos q]
    exact ⟨g1, fun c hc => by rw [si_c hc, si_c hc, si_c hc]; exact g2 c hc, by rw [si_n (by decide), si_n (by decide), si_n (by decide)]; exact g3, by rw [si_n (by decide), si_n (by decide), si_s], by rw [si_n (by decide), si_s], by rw [si_s]⟩
  have no : ¬ kyS co n s < kyS co n b → ∃ N', fX6_keepIfBetter_61 N (nI s) (nI (wS (fun _ => 1) n s)) (nI (wS co n s)) 0 = rV N' ∧ bst N' N0 n co (if kyS co n s < kyS co n b then s else b) := fun q => by
    refine ⟨N, rfl, ?_⟩
    rw [if_neg q]
    exact ⟨g1, g2, g3, g4, g5, g6⟩
  unfold fX6_keepIfBetter
  rw [g4, g5, g6]
  by_cases q1 : wS (fun _ => 1) n s = wS (fun _ => 1) n b
  · rw [if_pos (congrArg nI q1)]
    by_cases q2 : wS co n s = wS co n b
    · rw [if_pos (congrArg nI q2)]
      by_cases q3 : s < b
      · rw [if_neg (nI_ge q3 (by omega))]
        exact yes (hk.mpr (Or.inr ⟨q1, Or.inr ⟨q2, q3⟩⟩))
      · rw [if_pos (nI_le (by omega) (by omega))]
        exact no (fun z => by have := hk.mp z; omega)
    · rw [if_neg (nI_ne (by omega) (by omega) q2)]
      by_cases q3 : wS co n s < wS co n b
      · rw [if_neg (nI_ge q3 (by omega))]
        exact yes (hk.mpr (Or.inr ⟨q1, Or.inl q3⟩))
      · rw [if_pos (nI_le (by omega) (by omega))]
        exact no (fun z => by have := hk.mp z; omega)
  · rw [if_neg (nI_ne (by omega) (by omega) q1)]
    by_cases q3 : wS (fun _ => 1) n b < wS (fun _ => 1) n s
    · rw [if_neg (nI_ge q3 (by omega))]
      exact yes (hk.mpr (Or.inl q3))
    · rw [if_pos (nI_le (by omega) (by omega))]
      exact no (fun z => by have := hk.mp z; omega)
end P54
