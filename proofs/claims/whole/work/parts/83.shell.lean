section P43
variable {N : vM} {w : Nat} {K : Nat → Nat}
/-! the class's row of keys -/
def cKy (N : vM) (w n : Nat) (K : Nat → Nat) : Prop := ∀ k, k < n → N.2.1 (w + 7) k = lN (K k) ∧ K k < 1099511627776
/-- only the row of keys has changed, and there the first n -/
def frL (w n : Nat) (N N' : vM) : Prop := N'.1 = N.1 ∧ N'.2.2 = N.2.2 ∧ (∀ c, c ≠ w + 7 → N'.2.1 c = N.2.1 c) ∧ ∀ j, n ≤ j → N'.2.1 (w + 7) j = N.2.1 (w + 7) j
theorem frL_r (w n : Nat) (N : vM) : frL w n N N := ⟨rfl, rfl, fun _ _ => rfl, fun _ _ => rfl⟩
theorem frL_t {n : Nat} {N1 N2 N3 : vM} (h1 : frL w n N1 N2) (h2 : frL w n N2 N3) : frL w n N1 N3 :=
  ⟨h2.1.trans h1.1, h2.2.1.trans h1.2.1, fun c a => (h2.2.2.1 c a).trans (h1.2.2.1 c a), fun j h => (h2.2.2.2 j h).trans (h1.2.2.2 j h)⟩
theorem frL_s {n j : Nat} {x : Int64} (hj : j < n) : frL w n N (v_sl N (w + 7) j x) :=
  ⟨rfl, rfl, fun c a => sl_c a, fun k hk => sl_n (by omega)⟩
def put1 (K : Nat → Nat) (j v : Nat) : Nat → Nat := fun k => if k = j then v else K k
theorem put1_s (K : Nat → Nat) (j v : Nat) : put1 K j v j = v := if_pos rfl
theorem put1_n {K : Nat → Nat} {j v k : Nat} (h : k ≠ j) : put1 K j v k = K k := if_neg h
theorem cKy_put {n j v : Nat} (h : cKy N w n K) (hv : v < 1099511627776) : cKy (v_sl N (w + 7) j (lN v)) w n (put1 K j v) := by
  intro k hk
  by_cases q : k = j
  · rw [q, sl_s, put1_s]
    exact ⟨rfl, hv⟩
  · rw [sl_n q, put1_n q]
    exact h k hk
theorem lN_leB {a b : Nat} (ha : a < 1099511627776) (hb : b < 1099511627776) : lg_cmp (lN a) (lN b) ≤ 0 ↔ a ≤ b := by
  have hlt : lN a > lN b ↔ b < a := by
    show lN b < lN a ↔ b < a
    rw [fa_lt64, pf_lI (by omega), pf_lI (by omega)]
    omega
  unfold lg_cmp
  by_cases q : a ≤ b
  · rw [if_neg (fun h => by have := hlt.mp h; omega)]
    split
    · exact ⟨fun _ => q, fun _ => by decide⟩
    · exact ⟨fun _ => q, fun _ => by decide⟩
  · rw [if_pos (hlt.mpr (by omega))]
    exact ⟨fun h => absurd h (by decide), fun h => absurd h q⟩
theorem put1_sw {j j' v : Nat} (hj : j' ≠ j) : put1 (put1 K j (K j')) j' v = swp (put1 K j v) j j' := by
  funext k
  unfold swp
  by_cases q : k = j
  · rw [if_pos q, q, put1_n (fun e => hj e.symm), put1_s, put1_n hj]
  · rw [if_neg q]
    by_cases q2 : k = j'
    · rw [if_pos q2, q2, put1_s, put1_s]
    · rw [if_neg q2, put1_n q2, put1_n q, put1_n q]
/-- in order but for the place j, where a number stands that is below those behind it -/
def insN (i j : Nat) (V : Nat → Nat) : Prop := (∀ a b, a < b → b ≤ i → a ≠ j → b ≠ j → V a ≤ V b) ∧ ∀ b, j < b → b ≤ i → V j ≤ V b
theorem ins_end {i j : Nat} {V : Nat → Nat} (h : insN i j V) (hj : j = 0 ∨ V (j - 1) ≤ V j) : stN (i + 1) V := by
  intro a b h1 h2
  by_cases q : a = j
  · rw [q]
    exact h.2 b (by omega) (by omega)
  · by_cases q2 : b = j
    · have h3 : V (j - 1) ≤ V j := hj.resolve_left (by omega)
      rw [q2]
      by_cases q3 : a = j - 1
      · rw [q3]
        exact h3
      · exact Nat.le_trans (h.1 a (j - 1) (by omega) (by omega) q (by omega)) h3
    · exact h.1 a b h1 (by omega) q q2
theorem ins_sw {i j : Nat} {V : Nat → Nat} (h : insN i j V) (hj : 0 < j) (hi : j ≤ i) (hl : V j ≤ V (j - 1)) : insN i (j - 1) (swp V j (j - 1)) := by
  refine ⟨fun a b h1 h2 h3 h4 => ?_, fun b h1 h2 => ?_⟩
  · by_cases q : a = j
    · rw [q, sw_a, sw_o (by omega) h4]
      exact h.1 (j - 1) b (by omega) h2 (by omega) (by omega)
    · rw [sw_o q h3]
      by_cases q2 : b = j
      · rw [q2, sw_a]
        exact h.1 a (j - 1) (by omega) (by omega) q (by omega)
      · rw [sw_o q2 h4]
        exact h.1 a b h1 h2 q q2
  · rw [sw_b]
    by_cases q : b = j
    · rw [q, sw_a]
      exact hl
    · rw [sw_o q (by omega)]
      exact h.2 b (by omega) h2
theorem l_s37 {k10 : vM → Nat → Int32 → Int32 → Option (vR × vM)} {n g i : Nat} (hn : n ≤ 1458) (hg : 0 < g) (hg2 : g ≤ 1093) (hi : i < n) {v : Nat} (hv : v < 1099511627776) : ∀ (d f j : Nat) (N : vM) (K : Nat → Nat), d < f → j ≤ d → j ≤ i → cKy N w n K → (g = 1 → insN i j (put1 K j v)) →
    ∃ N' K', fX9_sort_37 k10 f N w (nI g) (nI i) (lN v) (nI j) = k10 N' w (nI g) (nI (i + 1)) ∧ cKy N' w n K' ∧ frL w n N N' ∧ pmN n K' (put1 K j v) ∧ (g = 1 → stN (i + 1) K') := by
  have fin : ∀ (j : Nat) (N : vM) (K : Nat → Nat), j ≤ i → cKy N w n K → (g = 1 → insN i j (put1 K j v)) → (g = 1 → j = 0 ∨ K (j - 1) ≤ v) →
      ∃ N' K', (if v_in (nI j) 1458 = true then k10 (v_sl N (w + 7) (Int32.toNatClampNeg (nI j)) (lN v)) w (nI g) (nI i + 1) else none) = k10 N' w (nI g) (nI (i + 1)) ∧ cKy N' w n K' ∧ frL w n N N' ∧ pmN n K' (put1 K j v) ∧ (g = 1 → stN (i + 1) K') := by
    intro j N K hj hK hI hz
    refine ⟨v_sl N (w + 7) j (lN v), put1 K j v, ?_, cKy_put hK hv, frL_s (by omega), pm_r n _, fun hg1 => ins_end (hI hg1) ?_⟩
    · rw [if_pos (v_in_nI (by omega) (by decide)), nI_clamp (by omega), nI_1]
    · rcases hz hg1 with z | z
      · exact Or.inl z
      · by_cases q : j = 0
        · exact Or.inl q
        · right
          rw [put1_s, put1_n (by omega)]
          exact z
  intro d
  induction d with
  | zero =>
    intro f j N K hf hd hj hK hI
    cases f with
    | zero => exact absurd hf (Nat.not_lt_zero _)
    | succ f =>
      unfold fX9_sort_37
      rw [if_pos (nI_lt (by omega) (by omega))]
      exact fin j N K hj hK hI (fun _ => Or.inl (by omega))
  | succ d ih =>
    intro f j N K hf hd hj hK hI
    cases f with
    | zero => exact absurd hf (Nat.not_lt_zero _)
    | succ f =>
      unfold fX9_sort_37
      by_cases q : j < g
      · rw [if_pos (nI_lt q (by omega))]
        exact fin j N K hj hK hI (fun h1 => Or.inl (by omega))
      · have hk := hK (j - g) (by omega)
        rw [if_neg (nI_nlt (by omega) (by omega)), nI_sub (by omega), if_pos (v_in_nI (by omega) (by decide)), nI_clamp (n := j - g) (by omega), hk.1]
        by_cases q2 : K (j - g) ≤ v
        · rw [if_pos ((lN_leB hk.2 hv).mpr q2)]
          exact fin j N K hj hK hI (fun h1 => Or.inr (by rw [h1] at q2; exact q2))
        · rw [if_neg (fun e => q2 ((lN_leB hk.2 hv).mp e)), if_pos (v_in_nI (by omega) (by decide)), if_pos (v_in_nI (by omega) (by decide)), nI_clamp (n := j) (by omega)]
          have ew : put1 (put1 K j (K (j - g))) (j - g) v = swp (put1 K j v) j (j - g) := put1_sw (by omega)
          obtain ⟨N', K', t1, t2, t3, t4, t5⟩ := ih f (j - g) (v_sl N (w + 7) j (lN (K (j - g)))) (put1 K j (K (j - g))) (by omega) (by omega) (by omega) (cKy_put hK hk.2) (fun h1 => by
            rw [ew, h1]
            refine ins_sw (hI h1) (by omega) hj ?_
            rw [put1_s, put1_n (by omega), ← h1]
            omega)
          rw [ew] at t4
          exact ⟨N', K', t1, t2, frL_t (frL_s (by omega)) t3, pm_t t4 (pm_w _ (by omega) (by omega)), t5⟩
theorem put1_id {j : Nat} : put1 K j (K j) = K := by
  funext k
  unfold put1
  by_cases q : k = j
  · rw [if_pos q, q]
  · rw [if_neg q]
theorem l_s10 {k4 : vM → Nat → Int32 → Option (vR × vM)} {n g : Nat} (hn : n ≤ 1458) (hg : 0 < g) (hg2 : g ≤ 1093) : ∀ (d f i : Nat) (N : vM) (K : Nat → Nat), d < f → n ≤ i + d → i ≤ 1458 → N.1 w 1 = nI n → cKy N w n K → (g = 1 → stN i K) →
    ∃ N' K', fX9_sort_10 k4 f N w (nI g) (nI i) = k4 N' w (nI (g / 3)) ∧ cKy N' w n K' ∧ frL w n N N' ∧ pmN n K' K ∧ (g = 1 → stN n K') := by
  have e3 : nI g / 3 = nI (g / 3) := pk_div (d := 3) (by omega) (by decide) (by decide)
  intro d
  induction d with
  | zero =>
    intro f i N K hf hd hi h1 hK hI
    cases f with
    | zero => exact absurd hf (Nat.not_lt_zero _)
    | succ f =>
      refine ⟨N, K, ?_, hK, frL_r w n N, pm_r n K, fun hg1 j k h2 h3 => hI hg1 j k h2 (by omega)⟩
      unfold fX9_sort_10
      rw [h1, if_pos (nI_le (by omega) (by omega)), e3]
  | succ d ih =>
    intro f i N K hf hd hi h1 hK hI
    cases f with
    | zero => exact absurd hf (Nat.not_lt_zero _)
    | succ f =>
      unfold fX9_sort_10
      by_cases q : n ≤ i
      · refine ⟨N, K, ?_, hK, frL_r w n N, pm_r n K, fun hg1 j k h2 h3 => hI hg1 j k h2 (by omega)⟩
        rw [h1, if_pos (nI_le q (by omega)), e3]
      · have hk := hK i (by omega)
        rw [h1, if_neg (nI_ge (by omega) (by omega)), if_neg (nI_ge (by omega) (by decide)), if_pos (v_in_nI (by omega) (by decide)), nI_clamp (by omega), hk.1]
        obtain ⟨N1, K1, s1, s2, s3, s4, s5⟩ := l_s37 (k10 := fX9_sort_10 k4 f) hn hg hg2 (show i < n by omega) hk.2 i FU i N K (FU_lt (by omega)) (Nat.le_refl i) (Nat.le_refl i) hK (fun hg1 => by
          rw [put1_id]
          exact ⟨fun a b h2 h3 h4 h5 => hI hg1 a b h2 (by omega), fun b h2 h3 => by omega⟩)
        rw [put1_id] at s4
        obtain ⟨N', K', t1, t2, t3, t4, t5⟩ := ih f (i + 1) N1 K1 (by omega) (by omega) (by omega) (by rw [s3.1]; exact h1) s2 s5
        exact ⟨N', K', s1.trans t1, t2, frL_t s3 t3, pm_t t4 s4, t5⟩
theorem l_s4 {n g : Nat} (hn : n ≤ 1458) (hg : 0 < g) (hg2 : g ≤ 1093) (f : Nat) (h1 : N.1 w 1 = nI n) (hK : cKy N w n K) :
    ∃ N' K', fX9_sort_4 (f + 1) N w (nI g) = fX9_sort_4 f N' w (nI (g / 3)) ∧ cKy N' w n K' ∧ frL w n N N' ∧ pmN n K' K ∧ (g = 1 → stN n K') := by
  obtain ⟨N', K', s1, s2, s3, s4, s5⟩ := l_s10 (k4 := fX9_sort_4 f) hn hg hg2 n FU g N K (FU_lt (by omega)) (by omega) (by omega) h1 hK (fun hg1 a b h2 h3 => by omega)
  refine ⟨N', K', ?_, s2, s3, s4, s5⟩
  rw [fX9_sort_4, if_neg (nI_nle hg (by omega))]
  exact s1
/-- the class's sort -/
theorem c_sort {n : Nat} (hn : n ≤ 1458) (h1 : N.1 w 1 = nI n) (hK : cKy N w n K) : ∃ N' K', fX9_sort N w = rV N' ∧ cKy N' w n K' ∧ frL w n N N' ∧ pmN n K' K ∧ stN n K' := by
  obtain ⟨f, hf⟩ : ∃ f, FU = f + 1 + 1 + 1 + 1 + 1 + 1 + 1 + 1 := ⟨99992, rfl⟩
  obtain ⟨N1, K1, a1, b1, c1, d1, -⟩ := l_s4 (g := 1093) hn (by decide) (by decide) (f + 1 + 1 + 1 + 1 + 1 + 1 + 1) h1 hK
  obtain ⟨N2, K2, a2, b2, c2, d2, -⟩ := l_s4 (g := 364) hn (by decide) (by decide) (f + 1 + 1 + 1 + 1 + 1 + 1) (by rw [c1.1]; exact h1) b1
  obtain ⟨N3, K3, a3, b3, c3, d3, -⟩ := l_s4 (g := 121) hn (by decide) (by decide) (f + 1 + 1 + 1 + 1 + 1) (by rw [c2.1, c1.1]; exact h1) b2
  obtain ⟨N4, K4, a4, b4, c4, d4, -⟩ := l_s4 (g := 40) hn (by decide) (by decide) (f + 1 + 1 + 1 + 1) (by rw [c3.1, c2.1, c1.1]; exact h1) b3
  obtain ⟨N5, K5, a5, b5, c5, d5, -⟩ := l_s4 (g := 13) hn (by decide) (by decide) (f + 1 + 1 + 1) (by rw [c4.1, c3.1, c2.1, c1.1]; exact h1) b4
  obtain ⟨N6, K6, a6, b6, c6, d6, -⟩ := l_s4 (g := 4) hn (by decide) (by decide) (f + 1 + 1) (by rw [c5.1, c4.1, c3.1, c2.1, c1.1]; exact h1) b5
  obtain ⟨N7, K7, a7, b7, c7, d7, e7⟩ := l_s4 (g := 1) hn (by decide) (by decide) (f + 1) (by rw [c6.1, c5.1, c4.1, c3.1, c2.1, c1.1]; exact h1) b6
  refine ⟨N7, K7, ?_, b7, frL_t c1 (frL_t c2 (frL_t c3 (frL_t c4 (frL_t c5 (frL_t c6 c7))))), pm_t d7 (pm_t d6 (pm_t d5 (pm_t d4 (pm_t d3 (pm_t d2 d1))))), e7 rfl⟩
  unfold fX9_sort
  rw [hf, show (1093 : Int32) = nI 1093 from rfl, a1, show 1093 / 3 = 364 from rfl, a2, show 364 / 3 = 121 from rfl, a3, show 121 / 3 = 40 from rfl, a4, show 40 / 3 = 13 from rfl, a5, show 13 / 3 = 4 from rfl, a6, show 4 / 3 = 1 from rfl, a7, show 1 / 3 = 0 from rfl]
  unfold fX9_sort_4
  rw [if_pos (by decide)]
/-- both sorts end in one row -/
theorem srt2 {n : Nat} {K0 K1 K2 : Nat → Nat} (h0 : inN n K0) (p1 : pmN n K1 K0) (p2 : pmN n K2 K0) (s1 : stN n K1) (s2 : stN n K2) : ∀ k, k < n → K1 k = K2 k :=
  st_one s1 s2 (pm_i p2 h0) (pm_t p1 (pm_s p2))
end P43
