section P56
variable {M N S : vM} {i n far : Nat} {mk co : Nat → Nat}
theorem Rel_28 (h : Rel M) (h2 : N.2 = M.2) (hc : ∀ c, c ≠ 28 → c ≠ 29 → c ≠ 30 → c ≠ 31 → N.1 c = M.1 c) : Rel N :=
  Rel_congr h (by rw [h2]) (fun c hcc => hc c (by omega) (by omega) (by omega) (by omega)) (fun j _ => by rw [hc 130 (by decide) (by decide) (by decide) (by decide)]) (fun c _ _ => by rw [h2])
theorem c_at28 (h : Rel M) (hi : i < qW M) (h2 : N.2 = M.2) (hc : ∀ c, c ≠ 28 → c ≠ 29 → c ≠ 30 → c ≠ 31 → N.1 c = M.1 c) {r : Nat} (hr : r < (uL M.1 i).length) : fX9_markOf N (qw i) (atL (uL M.1 i) r) = rI (nI (qmk M i ((uL M.1 i).getD r 0))) N ∧ fX9_costOf N (qw i) (atL (uL M.1 i) r) = rI (nI (qco M i ((uL M.1 i).getD r 0))) N ∧ fX9_nextUnspent N (qw i) (atL (uL M.1 i) r + 1) = rI (atL (uL M.1 i) (r + 1)) N := by
  have hR := Rel_28 h h2 hc
  have hiN : i < qW N := by show i < qN (N.1 130 2); rw [hc 130 (by decide) (by decide) (by decide) (by decide)]; exact hi
  have wN := hR.wk hiN
  have eu : uL N.1 i = uL M.1 i := uL_g (hc 148 (by decide) (by decide) (by decide) (by decide)) (hc 145 (by decide) (by decide) (by decide) (by decide))
  have hm := (uL_mem (getD_mem (uL N.1 i) r 0 (by rw [eu]; exact hr))).1
  have hm2 := (uL_mem (getD_mem (uL M.1 i) r 0 hr)).1
  obtain ⟨w1, -, w3, -, -⟩ := wkW (h.wk hi) (k := (uL M.1 i).getD r 0) hm2
  have e1 : atL (uL M.1 i) r = nI ((uL N.1 i).getD r 0) := by rw [eu]; exact if_pos hr
  refine ⟨?_, ?_, ?_⟩
  · rw [e1, e_markOf wN hm, eu, hc 147 (by decide) (by decide) (by decide) (by decide), w3]
  · rw [e1, e_costOf wN hm, eu, hc 146 (by decide) (by decide) (by decide) (by decide), w1]
  · have := c_nxS wN (r := r) (by rw [eu]; exact hr)
    rw [eu] at this
    exact this
theorem c_s11 (h : Rel M) (hi : i < qW M) (hn : n = min 14 (uL M.1 i).length) : ∀ (e f r : Nat) (N : vM), e < f → r + e = n → N.2 = M.2 → (∀ c, c ≠ 28 → c ≠ 29 → c ≠ 30 → c ≠ 31 → N.1 c = M.1 c) → N.1 28 3 = nI r → (∀ t, t < r → N.1 29 t = nI (qmk M i ((uL M.1 i).getD t 0)) ∧ N.1 30 t = nI (qco M i ((uL M.1 i).getD t 0))) →
    ∃ N', fX6_seek_11 f N (qw i) (nI far) (atL (uL M.1 i) r) = fX6_seek_80 FU N' (nI far) 0 ∧ N'.2 = M.2 ∧ (∀ c, c ≠ 28 → c ≠ 29 → c ≠ 30 → c ≠ 31 → N'.1 c = M.1 c) ∧ N'.1 28 3 = nI n ∧ ∀ t, t < n → N'.1 29 t = nI (qmk M i ((uL M.1 i).getD t 0)) ∧ N'.1 30 t = nI (qco M i ((uL M.1 i).getD t 0)) := by
  intro e
  induction e with
  | zero =>
    intro f r N hf hr h2 hc h3 h29
    cases f with
    | zero => exact absurd hf (Nat.not_lt_zero _)
    | succ f =>
      obtain rfl : r = n := by omega
      refine ⟨N, ?_, h2, hc, h3, h29⟩
      unfold fX6_seek_11
      by_cases q : (uL M.1 i).length ≤ r
      · rw [if_pos (atL_out q)]
      · rw [if_neg (atL_ne (by omega) (uL_2000 (h.wk hi))), h3, if_pos (show (14 : Int32) ≤ nI r from nI_le (show 14 ≤ r by omega) (by omega))]
  | succ e ih =>
    intro f r N hf hr h2 hc h3 h29
    cases f with
    | zero => exact absurd hf (Nat.not_lt_zero _)
    | succ f =>
      have hrl : r < (uL M.1 i).length := by omega
      have hr14 : r < 14 := by omega
      obtain ⟨t1, -, -⟩ := c_at28 (N := N) h hi h2 hc hrl
      generalize hA : v_si N 29 r (nI (qmk M i ((uL M.1 i).getD r 0))) = A
      have a2 : A.2 = M.2 := by rw [← hA]; exact h2
      have ac : ∀ c, c ≠ 28 → c ≠ 29 → c ≠ 30 → c ≠ 31 → A.1 c = M.1 c := fun c c1 c2 c3 c4 => by rw [← hA, si_c c2]; exact hc c c1 c2 c3 c4
      have a3 : A.1 28 3 = nI r := by rw [← hA, si_c (by decide)]; exact h3
      obtain ⟨-, t2, -⟩ := c_at28 (N := A) h hi a2 ac hrl
      generalize hB : v_si (v_si A 30 r (nI (qco M i ((uL M.1 i).getD r 0)))) 28 3 (nI (r + 1)) = B
      have b2 : B.2 = M.2 := by rw [← hB]; exact a2
      have bc : ∀ c, c ≠ 28 → c ≠ 29 → c ≠ 30 → c ≠ 31 → B.1 c = M.1 c := fun c c1 c2 c3 c4 => by rw [← hB, si_c c1, si_c c3]; exact ac c c1 c2 c3 c4
      obtain ⟨-, -, t3⟩ := c_at28 (N := B) h hi b2 bc hrl
      obtain ⟨N', y1, y⟩ := ih f (r + 1) B (by omega) (by omega) b2 bc (by rw [← hB, si_s]) (fun t ht => by
        rw [← hB, si_c (show (29 : Nat) ≠ 28 by decide), si_c (show (29 : Nat) ≠ 30 by decide), si_c (show (30 : Nat) ≠ 28 by decide)]
        by_cases z : t = r
        · rw [z, si_s, ← hA, si_s]
          exact ⟨rfl, rfl⟩
        · rw [si_n z, ← hA, si_n z, si_c (show (30 : Nat) ≠ 29 by decide)]
          exact h29 t (by omega))
      refine ⟨N', ?_, y⟩
      unfold fX6_seek_11
      rw [if_neg (atL_ne hrl (uL_2000 (h.wk hi))), h3, if_neg (show ¬ (14 : Int32) ≤ nI r from nI_ge (show r < 14 by omega) (by decide)), t1, bi_I, e_put (len := 14) rfl hr14 (by decide), bv_V, hA, t2, bi_I, a3, e_put (len := 14) rfl hr14 (by decide), bv_V, si_c (show (28 : Nat) ≠ 30 by decide), a3, nI_1, hB, t3, bi_I]
      exact y1
theorem r_59 (h : Rel M) (hi : i < qW M) (hn : n = min 14 (uL M.1 i).length) {v : Int32} : ∀ (e f j : Nat) (N : vM), e < f → j + e = n → N.2 = M.2 → (∀ c, c ≠ 158 → N.1 c = M.1 c) → (∀ t, t < j → N.1 158 t = nI ((uL M.1 i).getD t 0)) →
    ∃ N', fX11_apart_59 f N (nI i) (nI far) v (nI n) (nI j) = fX11_apart_98 FU N' (nI i) (nI far) v (nI n) 0 0 0 1 ∧ N'.2 = M.2 ∧ (∀ c, c ≠ 158 → N'.1 c = M.1 c) ∧ ∀ t, t < n → N'.1 158 t = nI ((uL M.1 i).getD t 0) := by
  intro e
  induction e with
  | zero =>
    intro f j N hf hj h2 hc h5
    cases f with
    | zero => exact absurd hf (Nat.not_lt_zero _)
    | succ f =>
      obtain rfl : j = n := by omega
      refine ⟨N, ?_, h2, hc, h5⟩
      unfold fX11_apart_59
      rw [if_pos (nI_le (Nat.le_refl _) (by omega))]
  | succ e ih =>
    intro f j N hf hj h2 hc h5
    cases f with
    | zero => exact absurd hf (Nat.not_lt_zero _)
    | succ f =>
      have hjl : j < (uL M.1 i).length := by omega
      have h6 : i < 6 := by have := h.W1.2.1; omega
      have hR : Rel N := Rel_congr h (by rw [h2]) (fun c hcc => hc c (by omega)) (fun j _ => by rw [hc 130 (by decide)]) (fun c _ _ => by rw [h2])
      have hiN : i < qW N := by show i < qN (N.1 130 2); rw [hc 130 (by decide)]; exact hi
      have eu : uL N.1 i = uL M.1 i := uL_g (hc 148 (by decide)) (hc 145 (by decide))
      obtain ⟨N', y1, y⟩ := ih f (j + 1) (v_si N 158 j (nI ((uL M.1 i).getD j 0))) (by omega) (by omega) h2 (fun c h1 => by rw [si_c h1]; exact hc c h1) (fun t ht => by
        by_cases z : t = j
        · rw [z, si_s]
        · rw [si_n z]; exact h5 t (by omega))
      refine ⟨N', ?_, y⟩
      unfold fX11_apart_59
      rw [if_neg (nI_ge (by omega) (by omega)), r_leftAt (hR.wk hiN) h6, bi_I, sLeft_at (by omega), eu, if_pos (v_in_nI (by omega) (by decide)), nI_clamp (by omega), nI_1, show atL (uL M.1 i) j = nI ((uL M.1 i).getD j 0) from if_pos hjl]
      exact y1
/-- what the reference reads of the few -/
def fewS (S : vM) (i n : Nat) (mk co : Nat → Nat) : Prop := ∀ t, t < n → ∃ w, w < 2000 ∧ S.1 158 t = nI w ∧ S.1 147 (2000 * i + w) = nI (mk t) ∧ S.1 146 (2000 * i + w) = nI (co t) ∧ mk t < 1048576 ∧ co t < 1048576
theorem r_13 (hi : i < 6) (hn : n ≤ 14) (hf30 : far ≤ 30) (hS : fewS S i n mk co) {s a : Nat} (hs : s < 2 ^ n) (ha : a < 14) {k3 : vM → Int32 → Int32 → Int32 → Int32 → Option (vR × vM)} : ∀ (e f b : Nat), e < f → b + e = a →
    fX11_areApart_13 k3 f S (nI i) (nI s) (nI far) (nI a) (nI b) = if (s.testBit a && !allF (fun b => !s.testBit b || decide (far ≤ pcn 32 (mk a ^^^ mk b))) e b) = true then rI 0 S else k3 S (nI i) (nI s) (nI far) (nI a + 1) := by
  have p14 : 2 ^ n ≤ 16384 := Nat.pow_le_pow_right (j := 14) (by decide) hn
  intro e
  induction e with
  | zero =>
    intro f b hf hb
    cases f with
    | zero => exact absurd hf (Nat.not_lt_zero _)
    | succ f =>
      unfold fX11_areApart_13
      rw [if_pos (nI_le (by omega) (by omega)), if_neg (by rw [allF, Bool.not_true, Bool.and_false]; decide)]
  | succ e ih =>
    intro f b hf hb
    cases f with
    | zero => exact absurd hf (Nat.not_lt_zero _)
    | succ f =>
      have i2 := ih f (b + 1) (by omega) (by omega)
      unfold fX11_areApart_13
      rw [if_neg (nI_ge (by omega) (by omega))]
      by_cases qa : s.testBit a = true
      · have han : a < n := by
          apply Nat.lt_of_not_le
          intro z
          rw [lt_tb hs a z] at qa
          cases qa
        rw [i_b1 (by omega) (by omega) qa, if_pos rfl]
        rw [allF]
        by_cases qb : s.testBit b = true
        · obtain ⟨w, w1, w2, w3, -, w5, -⟩ := hS a han
          obtain ⟨u, u1, u2, u3, -, u5, -⟩ := hS b (by omega)
          have hp := pcn_lt (x := mk a ^^^ mk b)
          rw [i_b1 (by omega) (by omega) qb, if_pos rfl, if_pos (v_in_nI (by omega) (by decide)), nI_clamp (show a < 2 ^ 31 by omega), w2, r_markOf hi w1, bi_I, if_pos (v_in_nI (by omega) (by decide)), nI_clamp (show b < 2 ^ 31 by omega), u2, r_markOf hi u1, bi_I, w3, u3, nx_xor, ref_bitsOf (Nat.lt_trans (Nat.xor_lt_two_pow (n := 20) w5 u5) (by decide)), bi_I, nI_1]
          by_cases z : far ≤ pcn 32 (mk a ^^^ mk b)
          · rw [if_pos (nI_le z (by omega)), i2, if_pos (show (!s.testBit b || decide (far ≤ pcn 32 (mk a ^^^ mk b))) = true by rw [decide_eq_true z, Bool.or_true])]
          · rw [if_neg (nI_ge (by omega) (by omega)), if_neg (show ¬ (!s.testBit b || decide (far ≤ pcn 32 (mk a ^^^ mk b))) = true by rw [decide_eq_false z, qb]; decide), if_pos (by rw [qa]; rfl)]
        · rw [i_b0 (by omega) (by omega) qb, if_neg (by decide), nI_1, i2, if_pos (show (!s.testBit b || decide (far ≤ pcn 32 (mk a ^^^ mk b))) = true by cases hz : s.testBit b; rfl; exact absurd hz qb)]
      · rw [i_b0 (by omega) (by omega) qa, if_neg (by decide), if_neg (fun z => qa (by rw [Bool.and_eq_true] at z; exact z.1))]
def apB (far : Nat) (mk : Nat → Nat) (s a : Nat) : Bool := !(s.testBit a && !allF (fun b => !s.testBit b || decide (far ≤ pcn 32 (mk a ^^^ mk b))) a 0)
theorem r_3 (hi : i < 6) (hn : n ≤ 14) (hf30 : far ≤ 30) (hS : fewS S i n mk co) {s : Nat} (hs : s < 2 ^ n) : ∀ (e f a : Nat), e < f → a + e = 14 →
    fX11_areApart_3 f S (nI i) (nI s) (nI far) (nI a) = rI (if allF (apB far mk s) e a = true then 1 else 0) S := by
  intro e
  induction e with
  | zero =>
    intro f a hf ha
    cases f with
    | zero => exact absurd hf (Nat.not_lt_zero _)
    | succ f =>
      unfold fX11_areApart_3
      rw [if_pos (show (14 : Int32) ≤ nI a from nI_le (show 14 ≤ a by omega) (by omega)), allF, if_pos rfl]
  | succ e ih =>
    intro f a hf ha
    cases f with
    | zero => exact absurd hf (Nat.not_lt_zero _)
    | succ f =>
      have e1 := r_13 hi hn hf30 hS hs (a := a) (by omega) (k3 := fX11_areApart_3 f) a FU 0 (FU_lt (by omega)) (Nat.zero_add _)
      unfold fX11_areApart_3
      rw [if_neg (show ¬ (14 : Int32) ≤ nI a from nI_ge (show a < 14 by omega) (by decide))]
      refine Eq.trans e1 ?_
      rw [nI_1, ih f (a + 1) (by omega) (by omega), allF]
      by_cases q : (s.testBit a && !allF (fun b => !s.testBit b || decide (far ≤ pcn 32 (mk a ^^^ mk b))) a 0) = true
      · rw [if_pos q, if_neg (show ¬ apB far mk s a = true by unfold apB; rw [q]; decide)]
        rfl
      · rw [if_neg q, if_pos (show apB far mk s a = true by unfold apB; rw [Bool.not_eq_true'];  cases hz : (s.testBit a && !allF (fun b => !s.testBit b || decide (far ≤ pcn 32 (mk a ^^^ mk b))) a 0); rfl; exact absurd hz q)]
theorem ap_iff (hn : n ≤ 14) {s : Nat} (hs : s < 2 ^ n) : allF (apB far mk s) 14 0 = true ↔ vSt far mk s := by
  rw [all_iff]
  refine ⟨fun h a b hab ha hb => ?_, fun h a _ _ => ?_⟩
  · have ha14 : a < 14 := by
      apply Nat.lt_of_not_le
      intro z
      rw [lt_tb hs a (by omega)] at ha
      cases ha
    have h1 := h a (Nat.zero_le _) (by omega)
    unfold apB at h1
    rw [ha, Bool.true_and, Bool.not_not, all_iff] at h1
    have h2 := h1 b (Nat.zero_le _) (by omega)
    rw [hb, Bool.not_true, Bool.false_or, decide_eq_true_eq] at h2
    exact h2
  · unfold apB
    cases ha : s.testBit a
    · rfl
    · rw [Bool.true_and, Bool.not_not, all_iff]
      intro b _ hb
      cases hbs : s.testBit b
      · rfl
      · rw [Bool.not_true, Bool.false_or, decide_eq_true_eq]
        exact h a b (by omega) ha hbs
end P56
