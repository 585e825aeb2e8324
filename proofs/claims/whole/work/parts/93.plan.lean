section P53
variable {N N' S S' : vM} {L t e p r kd z lw ot m nr fr : Nat} {b F T C Kd A B : Nat → Nat}
/-! what a plan's reading may change: class, reference -/
def frP (p : Nat) (N N' : vM) : Prop := N'.2 = N.2 ∧ (∀ c, c ≠ 3 → (c < p ∨ p + 5 < c) → N'.1 c = N.1 c) ∧ N'.1 3 8 = N.1 3 8
def rwQ (r c j : Nat) : Prop := ((132 ≤ c ∧ c < 139) ∧ j = r) ∨ ((139 ≤ c ∧ c < 142) ∧ 20 * r ≤ j ∧ j < 20 * r + 20) ∨ ((142 ≤ c ∧ c < 145) ∧ 12 * r ≤ j ∧ j < 12 * r + 12)
def frQ (r : Nat) (S S' : vM) : Prop := S'.2 = S.2 ∧ (∀ c j, c ≠ 130 → ¬ rwQ r c j → S'.1 c j = S.1 c j) ∧ ∀ j, (j < 32 ∨ 39 < j) → S'.1 130 j = S.1 130 j
theorem frP_r (p : Nat) (N : vM) : frP p N N := ⟨rfl, fun _ _ _ => rfl, rfl⟩
theorem frQ_r (r : Nat) (S : vM) : frQ r S S := ⟨rfl, fun _ _ _ _ => rfl, fun _ _ => rfl⟩
theorem frP_t {N1 N2 N3 : vM} (h1 : frP p N1 N2) (h2 : frP p N2 N3) : frP p N1 N3 := ⟨h2.1.trans h1.1, fun c a d => (h2.2.1 c a d).trans (h1.2.1 c a d), h2.2.2.trans h1.2.2⟩
theorem frQ_t {S1 S2 S3 : vM} (h1 : frQ r S1 S2) (h2 : frQ r S2 S3) : frQ r S1 S3 := ⟨h2.1.trans h1.1, fun c j a d => (h2.2.1 c j a d).trans (h1.2.1 c j a d), fun j h => (h2.2.2 j h).trans (h1.2.2 j h)⟩
theorem frP_A (h : frA N N') : frP p N N' := ⟨h.1, fun c a _ => h.2.1 c a, h.2.2⟩
theorem frQ_B (h : frB S S') : frQ r S S' := ⟨h.1, fun c j a _ => by rw [h.2.1 c a], h.2.2⟩
theorem frP_s {c j : Nat} {x : Int32} (h1 : p ≤ c) (h2 : c ≤ p + 5) (h3 : 3 < p) : frP p N (v_si N c j x) := ⟨rfl, fun d a a2 => si_c (by omega), by rw [si_c (by omega)]⟩
theorem frQ_s {c j : Nat} {x : Int32} (h : rwQ r c j) : frQ r S (v_si S c j x) := by
  refine ⟨rfl, fun d k a a2 => ?_, fun k hk => ?_⟩
  · show (if d = c ∧ k = j then x else S.1 d k) = S.1 d k
    rw [if_neg (fun q => a2 (by rw [q.1, q.2]; exact h))]
  · unfold rwQ at h
    rw [si_c (by omega)]
theorem gd_P (h : gd N S L b t e p) {p' j c : Nat} {x : Int32} (hc : c ≠ 3 ∧ c ≠ 2) : gd (v_si N c j x) S L b t e p := gd_c h (fun k _ => by rw [si_c (fun z => hc.1 z.symm)]) (si_c (fun z => hc.2 z.symm)) (fun _ _ _ => rfl) rfl
theorem gd_Q (h : gd N S L b t e p) {j c : Nat} {x : Int32} (hc : c ≠ 130 ∧ c ≠ 157) : gd N (v_si S c j x) L b t e p := gd_c h (fun _ _ => rfl) rfl (fun k _ _ => by rw [si_c (fun z => hc.1 z.symm)]) (si_c (fun z => hc.2 z.symm))
theorem bd_P (h : bd N S) {j c : Nat} {x : Int32} (hc : c ≠ 3) : bd (v_si N c j x) S := bd_c h (by rw [si_c (fun z => hc z.symm)]) (by rw [si_c (fun z => hc z.symm)]) rfl rfl
theorem bd_Q (h : bd N S) {j c : Nat} {x : Int32} (hc : c ≠ 130) : bd N (v_si S c j x) := bd_c h rfl rfl (by rw [si_c (fun z => hc z.symm)]) (by rw [si_c (fun z => hc z.symm)])
/-! a work read so far, as both have it -/
def plX (N S : vM) (p r kd z lw ot m nr fr : Nat) (F T C Kd A B : Nat → Nat) : Prop :=
  plV kd z m nr fr F T C Kd A B ∧ plC N p kd z m nr fr F T C Kd A B ∧ plR S r kd z m nr fr F T C Kd A B ∧ (N.1 p 2 = nI lw ∧ N.1 p 3 = nI ot) ∧ (S.1 134 r = nI lw ∧ S.1 135 r = nI ot) ∧ lw ≤ 2 ∧ ot ≤ 9 ∧ (lw = 2 → 1 ≤ ot)
def plE (N S : vM) (p r : Nat) : Prop := ∃ kd z lw ot m nr fr F T C Kd A B, plX N S p r kd z lw ot m nr fr F T C Kd A B
theorem plV_m (h : plV kd z m nr fr F T C Kd A B) : m ≤ 20 := by
  obtain ⟨h1, -, -, -, -, h5, h6, h7, -⟩ := h
  rcases (show kd = 0 ∨ kd = 1 ∨ kd = 2 by omega) with q | q | q
  · exact (h5 q).2.1
  · have := h6 q
    omega
  · have := h7 q
    omega
theorem plX_c (h : plX N S p r kd z lw ot m nr fr F T C Kd A B) (hN : ∀ c, p ≤ c → c ≤ p + 5 → N'.1 c = N.1 c) (hS : ∀ c j, rwQ r c j → S'.1 c j = S.1 c j) : plX N' S' p r kd z lw ot m nr fr F T C Kd A B := by
  obtain ⟨hV, hC, hR, h1, h2, h3⟩ := h
  have hm := plV_m hV
  have hn := hV.2.2.1
  have n0 := hN p (by omega) (by omega)
  have n1 := hN (p + 1) (by omega) (by omega)
  have n2 := hN (p + 2) (by omega) (by omega)
  have n3 := hN (p + 3) (by omega) (by omega)
  have n4 := hN (p + 4) (by omega) (by omega)
  have n5 := hN (p + 5) (by omega) (by omega)
  have s7 : ∀ c, 132 ≤ c → c < 139 → S'.1 c r = S.1 c r := fun c a d => hS c r (Or.inl ⟨⟨a, d⟩, rfl⟩)
  have s20 : ∀ c s, 139 ≤ c → c < 142 → s < m → S'.1 c (20 * r + s) = S.1 c (20 * r + s) := fun c s a d f => hS c _ (Or.inr (Or.inl ⟨⟨a, d⟩, by omega, by omega⟩))
  have s12 : ∀ c s, 142 ≤ c → c < 145 → s < nr → S'.1 c (12 * r + s) = S.1 c (12 * r + s) := fun c s a d f => hS c _ (Or.inr (Or.inr ⟨⟨a, d⟩, by omega, by omega⟩))
  obtain ⟨c0, c1, c4, c5, c6, cc, cn, cs⟩ := hC
  obtain ⟨r0, r1, r4, r6, r5, rc, rn, rs⟩ := hR
  refine ⟨hV, ⟨by rw [n0]; exact c0, by rw [n0]; exact c1, by rw [n0]; exact c4, by rw [n0]; exact c5, by rw [n0]; exact c6, fun s hs => by rw [n1]; exact cc s hs, fun hk s hs => by rw [n2, n3]; exact cn hk s hs, fun s hs => by rw [n4, n5]; exact cs s hs⟩,
    ⟨by rw [s7 132 (by decide) (by decide)]; exact r0, by rw [s7 133 (by decide) (by decide)]; exact r1, by rw [s7 136 (by decide) (by decide)]; exact r4, by rw [s7 137 (by decide) (by decide)]; exact r6, by rw [s7 138 (by decide) (by decide)]; exact r5, fun s hs => by rw [s20 141 s (by decide) (by decide) hs]; exact rc s hs, fun hk s hs => by rw [s20 139 s (by decide) (by decide) hs, s20 140 s (by decide) (by decide) hs]; exact rn hk s hs, fun k hk => by rw [s12 142 k (by decide) (by decide) hk, s12 143 k (by decide) (by decide) hk, s12 144 k (by decide) (by decide) hk]; exact rs k hk⟩,
    ⟨by rw [n0]; exact h1.1, by rw [n0]; exact h1.2⟩, ⟨by rw [s7 134 (by decide) (by decide)]; exact h2.1, by rw [s7 135 (by decide) (by decide)]; exact h2.2⟩, h3⟩
theorem plX_AB (h : plX N S p r kd z lw ot m nr fr F T C Kd A B) (hp : 3 < p) (hA : frA N N') (hB : frB S S') : plX N' S' p r kd z lw ot m nr fr F T C Kd A B :=
  plX_c h (fun c a d => hA.2.1 c (by omega)) (fun c j q => by unfold rwQ at q; rw [hB.2.1 c (by omega)])
theorem plE_c (h : plE N S p r) (hN : ∀ c, p ≤ c → c ≤ p + 5 → N'.1 c = N.1 c) (hS : ∀ c j, rwQ r c j → S'.1 c j = S.1 c j) : plE N' S' p r := by
  obtain ⟨kd, z, lw, ot, m, nr, fr, F, T, C, Kd, A, B, h⟩ := h
  exact ⟨kd, z, lw, ot, m, nr, fr, F, T, C, Kd, A, B, plX_c h hN hS⟩
/-- one item more: from f to g, of cost c, free or not -/
theorem plX_add (h : plX N S p r kd z lw ot m nr fr F T C Kd A B) (hm : m < (if kd = 0 then 20 else if kd = 1 then 12 else 6)) {f g c fr' : Nat} (hc : c ≤ 999) (hf : fr' < 1048576) (hfg : kd = 0 → f < g ∧ g < z)
    (hN : ∀ d j, p ≤ d → d ≤ p + 5 → N'.1 d j = if d = p ∧ j = 4 then nI (m + 1) else if d = p ∧ j = 6 then nI fr' else if d = p + 1 ∧ j = m then nI c else if d = p + 2 ∧ j = m then nI f else if d = p + 3 ∧ j = m then nI g else N.1 d j)
    (hS : ∀ d j, rwQ r d j → ¬ ((d = 139 ∨ d = 140) ∧ j = 20 * r + m) → S'.1 d j = if d = 136 ∧ j = r then nI (m + 1) else if d = 137 ∧ j = r then nI fr' else if d = 141 ∧ j = 20 * r + m then nI c else S.1 d j)
    (hS2 : kd = 0 → S'.1 139 (20 * r + m) = nI f ∧ S'.1 140 (20 * r + m) = nI g) :
    plX N' S' p r kd z lw ot (m + 1) nr fr' (put1 F m f) (put1 T m g) (put1 C m c) Kd A B := by
  obtain ⟨hV, hC, hR, h1, h2, h3⟩ := h
  have hn := hV.2.2.1
  obtain ⟨v1, v2, v3, v4, v5, v6, v7, v8, v9⟩ := hV
  obtain ⟨c0, c1, c4, c5, c6, cc, cn, cs⟩ := hC
  obtain ⟨r0, r1, r4, r6, r5, rc, rn, rs⟩ := hR
  have hm20 : m < 20 := by
    split at hm
    · exact hm
    · split at hm <;> omega
  have s7 : ∀ d, 132 ≤ d → d < 139 → rwQ r d r ∧ ¬ ((d = 139 ∨ d = 140) ∧ r = 20 * r + m) := fun d a a2 => ⟨Or.inl ⟨⟨a, a2⟩, rfl⟩, by omega⟩
  refine ⟨⟨v1, v2, v3, hf, fun s hs => ?_, fun hk => ⟨(v6 hk).1, by omega, fun s hs => ?_⟩, fun hk => ?_, fun hk => ?_, fun k hk => ?_⟩, ⟨?_, ?_, ?_, ?_, ?_, fun s hs => ?_, fun hk s hs => ?_, fun s hs => ?_⟩, ⟨?_, ?_, ?_, ?_, ?_, fun s hs => ?_, fun hk s hs => ?_, fun k hk => ?_⟩, ⟨?_, ?_⟩, ⟨?_, ?_⟩, h3⟩
  · by_cases q : s = m
    · rw [q, put1_s]; exact hc
    · rw [put1_n q]; exact v5 s (by omega)
  · by_cases q : s = m
    · rw [q, put1_s, put1_s]; exact hfg hk
    · rw [put1_n q, put1_n q]; exact (v6 hk).2.2 s (by omega)
  · rw [if_neg (by omega), if_pos hk] at hm
    omega
  · rw [if_neg (by omega), if_neg (by omega)] at hm
    omega
  · have := v9 k hk
    omega
  · rw [hN p 0 (by omega) (by omega), if_neg (by omega), if_neg (by omega), if_neg (by omega), if_neg (by omega), if_neg (by omega)]; exact c0
  · rw [hN p 1 (by omega) (by omega), if_neg (by omega), if_neg (by omega), if_neg (by omega), if_neg (by omega), if_neg (by omega)]; exact c1
  · rw [hN p 4 (by omega) (by omega), if_pos ⟨rfl, rfl⟩]
  · rw [hN p 5 (by omega) (by omega), if_neg (by omega), if_neg (by omega), if_neg (by omega), if_neg (by omega), if_neg (by omega)]; exact c5
  · rw [hN p 6 (by omega) (by omega), if_neg (by omega), if_pos ⟨rfl, rfl⟩]
  · rw [hN (p + 1) s (by omega) (by omega), if_neg (by omega), if_neg (by omega)]
    by_cases q : s = m
    · rw [if_pos ⟨rfl, q⟩, q, put1_s]
    · rw [if_neg (by omega), if_neg (by omega), if_neg (by omega), put1_n q]; exact cc s (by omega)
  · refine ⟨?_, ?_⟩
    · rw [hN (p + 2) s (by omega) (by omega), if_neg (by omega), if_neg (by omega), if_neg (by omega)]
      by_cases q : s = m
      · rw [if_pos ⟨rfl, q⟩, q, put1_s]
      · rw [if_neg (by omega), if_neg (by omega), put1_n q]
        exact (cn hk s (by omega)).1
    · rw [hN (p + 3) s (by omega) (by omega), if_neg (by omega), if_neg (by omega), if_neg (by omega), if_neg (by omega)]
      by_cases q : s = m
      · rw [if_pos ⟨rfl, q⟩, q, put1_s]
      · rw [if_neg (by omega), put1_n q]
        exact (cn hk s (by omega)).2
  · rw [hN (p + 4) s (by omega) (by omega), if_neg (by omega), if_neg (by omega), if_neg (by omega), if_neg (by omega), if_neg (by omega), hN (p + 5) s (by omega) (by omega), if_neg (by omega), if_neg (by omega), if_neg (by omega), if_neg (by omega), if_neg (by omega)]
    exact cs s hs
  · rw [hS 132 r (s7 132 (by decide) (by decide)).1 (s7 132 (by decide) (by decide)).2, if_neg (by omega), if_neg (by omega), if_neg (by omega)]; exact r0
  · rw [hS 133 r (s7 133 (by decide) (by decide)).1 (s7 133 (by decide) (by decide)).2, if_neg (by omega), if_neg (by omega), if_neg (by omega)]; exact r1
  · rw [hS 136 r (s7 136 (by decide) (by decide)).1 (s7 136 (by decide) (by decide)).2, if_pos ⟨rfl, rfl⟩]
  · rw [hS 137 r (s7 137 (by decide) (by decide)).1 (s7 137 (by decide) (by decide)).2, if_neg (by omega), if_pos ⟨rfl, rfl⟩]
  · rw [hS 138 r (s7 138 (by decide) (by decide)).1 (s7 138 (by decide) (by decide)).2, if_neg (by omega), if_neg (by omega), if_neg (by omega)]; exact r5
  · rw [hS 141 (20 * r + s) (Or.inr (Or.inl ⟨by omega, by omega, by omega⟩)) (by omega), if_neg (by omega), if_neg (by omega)]
    by_cases q : s = m
    · rw [if_pos ⟨rfl, by omega⟩, q, put1_s]
    · rw [if_neg (by omega), put1_n q]; exact rc s (by omega)
  · by_cases q : s = m
    · rw [q, put1_s, put1_s]; exact hS2 hk
    · rw [hS 139 (20 * r + s) (Or.inr (Or.inl ⟨by omega, by omega, by omega⟩)) (by omega), if_neg (by omega), if_neg (by omega), if_neg (by omega), hS 140 (20 * r + s) (Or.inr (Or.inl ⟨by omega, by omega, by omega⟩)) (by omega), if_neg (by omega), if_neg (by omega), if_neg (by omega), put1_n q, put1_n q]
      exact rn hk s (by omega)
  · rw [hS 142 (12 * r + k) (Or.inr (Or.inr ⟨by omega, by omega, by omega⟩)) (by omega), if_neg (by omega), if_neg (by omega), if_neg (by omega), hS 143 (12 * r + k) (Or.inr (Or.inr ⟨by omega, by omega, by omega⟩)) (by omega), if_neg (by omega), if_neg (by omega), if_neg (by omega), hS 144 (12 * r + k) (Or.inr (Or.inr ⟨by omega, by omega, by omega⟩)) (by omega), if_neg (by omega), if_neg (by omega), if_neg (by omega)]
    exact rs k hk
  · rw [hN p 2 (by omega) (by omega), if_neg (by omega), if_neg (by omega), if_neg (by omega), if_neg (by omega), if_neg (by omega)]; exact h1.1
  · rw [hN p 3 (by omega) (by omega), if_neg (by omega), if_neg (by omega), if_neg (by omega), if_neg (by omega), if_neg (by omega)]; exact h1.2
  · rw [hS 134 r (s7 134 (by decide) (by decide)).1 (s7 134 (by decide) (by decide)).2, if_neg (by omega), if_neg (by omega), if_neg (by omega)]; exact h2.1
  · rw [hS 135 r (s7 135 (by decide) (by decide)).1 (s7 135 (by decide) (by decide)).2, if_neg (by omega), if_neg (by omega), if_neg (by omega)]; exact h2.2
end P53
