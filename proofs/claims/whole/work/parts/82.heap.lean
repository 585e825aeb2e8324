section P42
variable {S : vM} {i : Nat} {K : Nat → Nat}
/-! the reference's rows of costs and marks as one row of numbers -/
def rKy (S : vM) (i n : Nat) (K : Nat → Nat) : Prop := ∀ k, k < n → S.1 146 (2000 * i + k) = nI (K k / 1048576) ∧ S.1 147 (2000 * i + k) = nI (K k % 1048576) ∧ K k < 1099511627776
def frK (i : Nat) (S S' : vM) : Prop := S'.2 = S.2 ∧ (∀ c, c ≠ 146 → c ≠ 147 → S'.1 c = S.1 c) ∧ ∀ c j, (j < 2000 * i ∨ 2000 * i + 2000 ≤ j) → S'.1 c j = S.1 c j
theorem frK_r (i : Nat) (S : vM) : frK i S S := ⟨rfl, fun _ _ _ => rfl, fun _ _ _ => rfl⟩
theorem frK_t {S1 S2 S3 : vM} (h1 : frK i S1 S2) (h2 : frK i S2 S3) : frK i S1 S3 :=
  ⟨h2.1.trans h1.1, fun c a b => (h2.2.1 c a b).trans (h1.2.1 c a b), fun c j h => (h2.2.2 c j h).trans (h1.2.2 c j h)⟩
theorem nI_m1 (x : Int32) : x + (-1) = x - 1 := (Int32.sub_eq_add_neg x 1).symm
theorem r_ahead {n a b : Nat} (hi : i < 6) (h : rKy S i n K) (hn : n ≤ 2000) (ha : a < n) (hb : b < n) : fX11_isAhead S (nI i) (nI a) (nI b) = rI (if K a < K b then 1 else 0) S := by
  obtain ⟨a1, a2, a3⟩ := h a ha
  obtain ⟨b1, b2, b3⟩ := h b hb
  unfold fX11_isAhead
  rw [e_ix, e_ix, if_pos (r_in hi (by omega)), if_pos (r_in hi (by omega)), nI_clamp (by omega), nI_clamp (by omega), a1, b1]
  by_cases q : K a / 1048576 = K b / 1048576
  · rw [if_pos (congrArg nI q), if_pos (r_in hi (by omega)), if_pos (r_in hi (by omega)), a2, b2]
    by_cases q2 : K b % 1048576 ≤ K a % 1048576
    · rw [if_pos (nI_le q2 (by omega)), if_neg (by omega)]
    · rw [if_neg (nI_ge (by omega) (by omega)), if_pos (by omega)]
  · rw [if_neg (fun e => q ((nI_eq (by omega) (by omega)).mp e)), if_pos (r_in hi (by omega)), if_pos (r_in hi (by omega))]
    by_cases q2 : K b / 1048576 ≤ K a / 1048576
    · rw [if_pos (nI_le q2 (by omega)), if_neg (by omega)]
    · rw [if_neg (nI_ge (by omega) (by omega)), if_pos (by omega)]
def r_sw (S : vM) (A B : Nat) : vM := v_si (v_si (v_si (v_si S 146 A (S.1 146 B)) 147 A (S.1 147 B)) 146 B (S.1 146 A)) 147 B (S.1 147 A)
theorem r_sw6 {A B j : Nat} : (r_sw S A B).1 146 j = if j = B then S.1 146 A else if j = A then S.1 146 B else S.1 146 j := by
  unfold r_sw
  rw [si_c (by decide)]
  by_cases q : j = B
  · rw [if_pos q, q, si_s]
  · rw [si_n q, if_neg q, si_c (by decide)]
    by_cases q2 : j = A
    · rw [if_pos q2, q2, si_s]
    · rw [si_n q2, if_neg q2]
theorem r_sw7 {A B j : Nat} : (r_sw S A B).1 147 j = if j = B then S.1 147 A else if j = A then S.1 147 B else S.1 147 j := by
  unfold r_sw
  by_cases q : j = B
  · rw [if_pos q, q, si_s]
  · rw [si_n q, if_neg q, si_c (by decide)]
    by_cases q2 : j = A
    · rw [if_pos q2, q2, si_s]
    · rw [si_n q2, if_neg q2, si_c (by decide)]
theorem r_sw_c {A B c j : Nat} (h : (c ≠ 146 ∧ c ≠ 147) ∨ (j ≠ A ∧ j ≠ B)) : (r_sw S A B).1 c j = S.1 c j := by
  show (if c = 147 ∧ j = B then _ else if c = 146 ∧ j = B then _ else if c = 147 ∧ j = A then _ else if c = 146 ∧ j = A then _ else S.1 c j) = _
  rw [if_neg (by omega), if_neg (by omega), if_neg (by omega), if_neg (by omega)]
theorem r_swap {n a b : Nat} (hi : i < 6) (h : rKy S i n K) (hn : n ≤ 2000) (ha : a < n) (hb : b < n) : ∃ S', fX11_swap S (nI i) (nI a) (nI b) = rV S' ∧ rKy S' i n (swp K a b) ∧ frK i S S' := by
  refine ⟨r_sw S (2000 * i + a) (2000 * i + b), ?_, fun k hk => ?_, rfl, fun c h1 h2 => ?_, fun c j hj => r_sw_c (by omega)⟩
  · unfold fX11_swap
    rw [e_ix, e_ix, if_pos (r_in hi (by omega)), if_pos (r_in hi (by omega)), if_pos (r_in hi (by omega)), if_pos (r_in hi (by omega)), if_pos (r_in hi (by omega)), if_pos (r_in hi (by omega)), if_pos (r_in hi (by omega)), if_pos (r_in hi (by omega)), nI_clamp (by omega), nI_clamp (by omega), si_c (by decide)]
    rfl
  · obtain ⟨a1, a2, a3⟩ := h a ha
    obtain ⟨b1, b2, b3⟩ := h b hb
    rw [r_sw6, r_sw7]
    by_cases q : k = b
    · subst q
      rw [if_pos rfl, if_pos rfl, sw_b]
      exact ⟨a1, a2, a3⟩
    · rw [if_neg (show ¬ 2000 * i + k = 2000 * i + b by omega), if_neg (show ¬ 2000 * i + k = 2000 * i + b by omega)]
      by_cases q2 : k = a
      · subst q2
        rw [if_pos rfl, if_pos rfl, sw_a]
        exact ⟨b1, b2, b3⟩
      · rw [if_neg (show ¬ 2000 * i + k = 2000 * i + a by omega), if_neg (show ¬ 2000 * i + k = 2000 * i + a by omega), sw_o q2 q]
        exact h k hk
  · funext j
    exact r_sw_c (Or.inl ⟨h1, h2⟩)
theorem r_sink {N n lo : Nat} (hi : i < 6) (hN : N ≤ 1458) (hn : n ≤ N) : ∀ (d f x : Nat) (S : vM) (K : Nat → Nat), d < f → n ≤ x + d → lo ≤ x → x ≤ 1458 → rKy S i N K → hpE n lo x K → hpG n lo x K →
    ∃ S' K', fX11_sink_3 f S (nI i) (nI n) (nI x) = rV S' ∧ rKy S' i N K' ∧ frK i S S' ∧ pmN n K' K ∧ (∀ k, n ≤ k → K' k = K k) ∧ hpF n lo K' := by
  intro d
  induction d with
  | zero =>
    intro f x S K hf hd hlo hx hK hE hG
    cases f with
    | zero => exact absurd hf (Nat.not_lt_zero _)
    | succ f =>
      refine ⟨S, K, ?_, hK, frK_r i S, pm_r n K, fun _ _ => rfl, hp_e hE (fun c h1 h2 => by omega)⟩
      unfold fX11_sink_3
      rw [show (2 : Int32) * nI x = nI (2 * x) from nI_mul 2 x, nI_1, if_pos (nI_le (by omega) (by omega))]
  | succ d ih =>
    intro f x S K hf hd hlo hx hK hE hG
    cases f with
    | zero => exact absurd hf (Nat.not_lt_zero _)
    | succ f =>
      have e2 : (2 : Int32) * nI x = nI (2 * x) := nI_mul 2 x
      have fin : ∀ y, (y = 2 * x + 1 ∨ y = 2 * x + 2) → y < n → (∀ c, (c = 2 * x + 1 ∨ c = 2 * x + 2) → c < n → K c ≤ K y) →
          ∃ S' K', fX11_sink_46 (fX11_sink_3 f) S (nI i) (nI n) (nI x) (nI y) = rV S' ∧ rKy S' i N K' ∧ frK i S S' ∧ pmN n K' K ∧ (∀ k, n ≤ k → K' k = K k) ∧ hpF n lo K' := by
        intro y hy hyn hm
        by_cases q : K x < K y
        · obtain ⟨S1, s1, s2, s3⟩ := r_swap (b := y) hi hK (by omega) (show x < N by omega) (by omega)
          have hs := hp_s hlo hE hG hy hyn hm q
          obtain ⟨S', K', t1, t2, t3, t4, t5, t6⟩ := ih f y S1 (swp K x y) (by omega) (by omega) (by omega) (by omega) s2 hs.1 hs.2
          refine ⟨S', K', ?_, t2, frK_t s3 t3, pm_t t4 (pm_w K (by omega) hyn), fun k hk => by rw [t5 k hk, sw_o (by omega) (by omega)], t6⟩
          unfold fX11_sink_46
          rw [r_ahead hi hK (by omega) (show x < N by omega) (show y < N by omega), bi_I, if_pos q, if_neg (by decide), s1, bv_V]
          exact t1
        · refine ⟨S, K, ?_, hK, frK_r i S, pm_r n K, fun _ _ => rfl, hp_e hE (fun c h1 h2 => by have := hm c h1 h2; omega)⟩
          unfold fX11_sink_46
          rw [r_ahead hi hK (by omega) (show x < N by omega) (show y < N by omega), bi_I, if_neg q, if_pos rfl]
      unfold fX11_sink_3
      rw [e2, nI_1]
      by_cases q1 : n ≤ 2 * x + 1
      · rw [if_pos (nI_le q1 (by omega))]
        exact ⟨S, K, rfl, hK, frK_r i S, pm_r n K, fun _ _ => rfl, hp_e hE (fun c h1 h2 => by omega)⟩
      · rw [if_neg (nI_ge (by omega) (by omega)), nI_1]
        by_cases q2 : n ≤ 2 * x + 1 + 1
        · rw [if_pos (nI_le q2 (by omega))]
          exact fin (2 * x + 1) (Or.inl rfl) (by omega) (fun c h1 h2 => by rw [show c = 2 * x + 1 by omega]; exact Nat.le_refl _)
        · rw [if_neg (nI_ge (by omega) (by omega)), r_ahead hi hK (by omega) (show 2 * x + 1 < N by omega) (show 2 * x + 1 + 1 < N by omega), bi_I]
          by_cases q3 : K (2 * x + 1) < K (2 * x + 1 + 1)
          · rw [if_pos q3, if_neg (by decide)]
            refine fin (2 * x + 1 + 1) (Or.inr rfl) (by omega) (fun c h1 h2 => ?_)
            rcases h1 with z | z
            · rw [z]; omega
            · rw [z]; exact Nat.le_refl _
          · rw [if_neg q3, if_pos rfl]
            refine fin (2 * x + 1) (Or.inl rfl) (by omega) (fun c h1 h2 => ?_)
            rcases h1 with z | z
            · rw [z]; exact Nat.le_refl _
            · rw [z, show 2 * x + 2 = 2 * x + 1 + 1 from rfl]; omega
theorem r_build {N : Nat} (hi : i < 6) (hN : N ≤ 1458) : ∀ (k f : Nat) (S : vM) (K : Nat → Nat), k < f → k ≤ 1458 → S.1 145 i = nI N → rKy S i N K → hpF N k K →
    ∃ S' K', fX11_sort_9 f S (nI i) (nI k - 1) = fX11_sort_40 FU S' (nI i) (nI N - 1) ∧ rKy S' i N K' ∧ frK i S S' ∧ pmN N K' K ∧ hpF N 0 K' := by
  intro k
  induction k with
  | zero =>
    intro f S K hf hk h5 hK hF
    cases f with
    | zero => exact absurd hf (Nat.not_lt_zero _)
    | succ f =>
      refine ⟨S, K, ?_, hK, frK_r i S, pm_r N K, hF⟩
      unfold fX11_sort_9
      rw [if_pos (by decide), if_pos (v_in_nI (by omega) (by decide)), nI_clamp (by omega), h5]
  | succ k ih =>
    intro f S K hf hk h5 hK hF
    cases f with
    | zero => exact absurd hf (Nat.not_lt_zero _)
    | succ f =>
      have hb := hp_b hF
      obtain ⟨S1, K1, s1, s2, s3, s4, s5, s6⟩ := r_sink hi hN (Nat.le_refl N) N FU k S K (FU_lt (by omega)) (by omega) (Nat.le_refl k) (by omega) hK hb.1 hb.2
      obtain ⟨S', K', t1, t2, t3, t4, t5⟩ := ih f S1 K1 (by omega) (by omega) (by rw [s3.2.1 145 (by decide) (by decide)]; exact h5) s2 s6
      refine ⟨S', K', ?_, t2, frK_t s3 t3, pm_t t4 s4, t5⟩
      unfold fX11_sort_9
      rw [nI_pred, if_neg (nI_pos (by omega)), if_pos (v_in_nI (by omega) (by decide)), nI_clamp (by omega), h5, show fX11_sink S (nI i) (nI k) (nI N) = rV S1 from s1, bv_V, nI_m1]
      exact t1
theorem r_ext {N : Nat} (hi : i < 6) (hN : N ≤ 1458) : ∀ (m f : Nat) (S : vM) (K : Nat → Nat), m < f → m < N → rKy S i N K → hpT (m + 1) N K →
    ∃ S' K', fX11_sort_40 f S (nI i) (nI m) = rV S' ∧ rKy S' i N K' ∧ frK i S S' ∧ pmN N K' K ∧ stN N K' := by
  intro m
  induction m with
  | zero =>
    intro f S K hf hm hK hT
    cases f with
    | zero => exact absurd hf (Nat.not_lt_zero _)
    | succ f =>
      refine ⟨S, K, ?_, hK, frK_r i S, pm_r N K, fun j k h1 h2 => ?_⟩
      · unfold fX11_sort_40
        rw [if_pos (by decide)]
      · by_cases q : j = 0
        · subst q
          exact hT.2.1 0 k (by omega) (by omega) h2
        · exact hT.2.2 j k (by omega) h1 h2
  | succ m ih =>
    intro f S K hf hm hK hT
    cases f with
    | zero => exact absurd hf (Nat.not_lt_zero _)
    | succ f =>
      obtain ⟨S1, s1, s2, s3⟩ := r_swap (a := 0) (b := m + 1) hi hK (by omega) (by omega) hm
      have hb := hp_b (n := m + 1) (lo := 0) (hp_w hT.1)
      obtain ⟨S2, K2, u1, u2, u3, u4, u5, u6⟩ := r_sink hi hN (show m + 1 ≤ N by omega) (m + 1) FU 0 S1 (swp K 0 (m + 1)) (FU_lt (by omega)) (by omega) (Nat.le_refl 0) (by omega) s2 hb.1 hb.2
      obtain ⟨S', K', t1, t2, t3, t4, t5⟩ := ih f S2 K2 (by omega) (by omega) u2 (hp_t (by omega) hT u6 u4 u5)
      refine ⟨S', K', ?_, t2, frK_t s3 (frK_t u3 t3), pm_t t4 (pm_t (pm_up u4 (by omega) u5) (pm_w K (by omega) hm)), t5⟩
      unfold fX11_sort_40
      rw [if_neg (nI_nle (by omega) (by omega)), ← nI_0, s1, bv_V, show fX11_sink S1 (nI i) (nI 0) (nI (m + 1)) = rV S2 from u1, bv_V, nI_m1, nI_pred]
      exact t1
/-- the reference's sort -/
theorem r_sort {N : Nat} (hi : i < 6) (hN : N ≤ 1458) (h5 : S.1 145 i = nI N) (hK : rKy S i N K) : ∃ S' K', fX11_sort S (nI i) = rV S' ∧ rKy S' i N K' ∧ frK i S S' ∧ pmN N K' K ∧ stN N K' := by
  have e0 : fX11_sort S (nI i) = fX11_sort_9 FU S (nI i) (nI (N / 2 + 1) - 1) := by
    unfold fX11_sort
    rw [if_pos (v_in_nI (by omega) (by decide)), nI_clamp (by omega), h5, show nI N / 2 = nI (N / 2) from pk_div (d := 2) (by omega) (by decide) (by decide), nI_pred]
  obtain ⟨S1, K1, s1, s2, s3, s4, s5⟩ := r_build hi hN (N / 2 + 1) FU S K (FU_lt (by omega)) (by omega) h5 hK (fun j c h1 h2 h3 => by omega)
  rw [e0, s1]
  cases N with
  | zero =>
    refine ⟨S1, K1, ?_, s2, s3, s4, fun j k h1 h2 => absurd h2 (Nat.not_lt_zero _)⟩
    obtain ⟨f, hf⟩ : ∃ f, FU = f + 1 := ⟨99999, rfl⟩
    rw [hf]
    unfold fX11_sort_40
    rw [if_pos (by decide)]
  | succ N =>
    obtain ⟨S', K', t1, t2, t3, t4, t5⟩ := r_ext hi hN N FU S1 K1 (FU_lt (by omega)) (by omega) s2 ⟨s5, fun a b h1 h2 h3 => by omega, fun a b h1 h2 h3 => by omega⟩
    exact ⟨S', K', by rw [nI_pred]; exact t1, t2, frK_t s3 t3, pm_t t4 s4, t5⟩
end P42
