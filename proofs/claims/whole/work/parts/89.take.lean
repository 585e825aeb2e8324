section P49
variable {S : vM} {i r kd z m nr fr : Nat} {F T C Kd A B : Nat → Nat}
/-! the reference takes a work that was read -/
def cpR (S : vM) (c i r : Nat) : vM := v_si S c i (S.1 c r)
theorem cpR_i {c : Nat} : (cpR S c i r).1 c i = S.1 c r := si_s
theorem cpR_o {c c' j : Nat} (h : c' ≠ c ∨ j ≠ i) : (cpR S c i r).1 c' j = S.1 c' j := by
  show (if c' = c ∧ j = i then S.1 c r else S.1 c' j) = S.1 c' j
  rw [if_neg (by omega)]
def cp7 (S : vM) (i r : Nat) : vM := cpR (cpR (cpR (cpR (cpR (cpR (cpR S 132 i r) 133 i r) 134 i r) 135 i r) 136 i r) 137 i r) 138 i r
theorem cp7_i {c : Nat} (h1 : 132 ≤ c) (h2 : c < 139) (hr : r ≠ i) : (cp7 S i r).1 c i = S.1 c r := by
  unfold cp7
  rcases (show c = 132 ∨ c = 133 ∨ c = 134 ∨ c = 135 ∨ c = 136 ∨ c = 137 ∨ c = 138 by omega) with rfl | rfl | rfl | rfl | rfl | rfl | rfl
  · rw [cpR_o (Or.inl (show (132 : Nat) ≠ 138 by decide)), cpR_o (Or.inl (show (132 : Nat) ≠ 137 by decide)), cpR_o (Or.inl (show (132 : Nat) ≠ 136 by decide)), cpR_o (Or.inl (show (132 : Nat) ≠ 135 by decide)), cpR_o (Or.inl (show (132 : Nat) ≠ 134 by decide)), cpR_o (Or.inl (show (132 : Nat) ≠ 133 by decide)), cpR_i]
  · rw [cpR_o (Or.inl (show (133 : Nat) ≠ 138 by decide)), cpR_o (Or.inl (show (133 : Nat) ≠ 137 by decide)), cpR_o (Or.inl (show (133 : Nat) ≠ 136 by decide)), cpR_o (Or.inl (show (133 : Nat) ≠ 135 by decide)), cpR_o (Or.inl (show (133 : Nat) ≠ 134 by decide)), cpR_i, cpR_o (Or.inl (show (133 : Nat) ≠ 132 by decide))]
  · rw [cpR_o (Or.inl (show (134 : Nat) ≠ 138 by decide)), cpR_o (Or.inl (show (134 : Nat) ≠ 137 by decide)), cpR_o (Or.inl (show (134 : Nat) ≠ 136 by decide)), cpR_o (Or.inl (show (134 : Nat) ≠ 135 by decide)), cpR_i, cpR_o (Or.inl (show (134 : Nat) ≠ 133 by decide)), cpR_o (Or.inl (show (134 : Nat) ≠ 132 by decide))]
  · rw [cpR_o (Or.inl (show (135 : Nat) ≠ 138 by decide)), cpR_o (Or.inl (show (135 : Nat) ≠ 137 by decide)), cpR_o (Or.inl (show (135 : Nat) ≠ 136 by decide)), cpR_i, cpR_o (Or.inl (show (135 : Nat) ≠ 134 by decide)), cpR_o (Or.inl (show (135 : Nat) ≠ 133 by decide)), cpR_o (Or.inl (show (135 : Nat) ≠ 132 by decide))]
  · rw [cpR_o (Or.inl (show (136 : Nat) ≠ 138 by decide)), cpR_o (Or.inl (show (136 : Nat) ≠ 137 by decide)), cpR_i, cpR_o (Or.inl (show (136 : Nat) ≠ 135 by decide)), cpR_o (Or.inl (show (136 : Nat) ≠ 134 by decide)), cpR_o (Or.inl (show (136 : Nat) ≠ 133 by decide)), cpR_o (Or.inl (show (136 : Nat) ≠ 132 by decide))]
  · rw [cpR_o (Or.inl (show (137 : Nat) ≠ 138 by decide)), cpR_i, cpR_o (Or.inl (show (137 : Nat) ≠ 136 by decide)), cpR_o (Or.inl (show (137 : Nat) ≠ 135 by decide)), cpR_o (Or.inl (show (137 : Nat) ≠ 134 by decide)), cpR_o (Or.inl (show (137 : Nat) ≠ 133 by decide)), cpR_o (Or.inl (show (137 : Nat) ≠ 132 by decide))]
  · rw [cpR_i, cpR_o (Or.inl (show (138 : Nat) ≠ 137 by decide)), cpR_o (Or.inl (show (138 : Nat) ≠ 136 by decide)), cpR_o (Or.inl (show (138 : Nat) ≠ 135 by decide)), cpR_o (Or.inl (show (138 : Nat) ≠ 134 by decide)), cpR_o (Or.inl (show (138 : Nat) ≠ 133 by decide)), cpR_o (Or.inl (show (138 : Nat) ≠ 132 by decide))]
theorem cp7_o {c j : Nat} (h : ¬ ((132 ≤ c ∧ c < 139) ∧ j = i)) : (cp7 S i r).1 c j = S.1 c j := by
  unfold cp7
  rw [cpR_o (by omega), cpR_o (by omega), cpR_o (by omega), cpR_o (by omega), cpR_o (by omega), cpR_o (by omega), cpR_o (by omega)]
theorem r_tk0 (hi : i < 6) (hr : r = 6 + i) : fX11_take S (nI i) = fX11_take_91 FU (cp7 S i r) (nI i) (nI r) 0 := by
  have e6 : (6 : Int32) + nI i = nI r := by rw [hr]; exact nI_add 6 i
  have v1 : v_in (nI i) 12 = true := v_in_nI (by omega) (by decide)
  have v2 : v_in (nI r) 12 = true := v_in_nI (by omega) (by decide)
  unfold fX11_take
  rw [e6, if_pos v2, if_pos v1, if_pos v2, if_pos v1, if_pos v2, if_pos v1, if_pos v2, if_pos v1, if_pos v2, if_pos v1, if_pos v2, if_pos v1, if_pos v2, if_pos v1, nI_clamp (n := i) (by omega), nI_clamp (n := r) (by omega)]
  rfl
theorem r_tk91 (hi : i < 6) (hr : r = 6 + i) : ∀ (n f k : Nat) (S : vM), n < f → k + n = 20 →
    ∃ S', fX11_take_91 f S (nI i) (nI r) (nI k) = fX11_take_171 FU S' (nI i) (nI r) 0 ∧ S'.2 = S.2 ∧ (∀ c j, ¬ ((139 ≤ c ∧ c < 142) ∧ 20 * i + k ≤ j ∧ j < 20 * i + 20) → S'.1 c j = S.1 c j) ∧ ∀ c, 139 ≤ c → c < 142 → ∀ t, k ≤ t → t < 20 → S'.1 c (20 * i + t) = S.1 c (20 * r + t) := by
  have e20 : ∀ x s : Nat, (20 : Int32) * nI x + nI s = nI (20 * x + s) := fun x s => by rw [show (20 : Int32) = nI 20 from rfl, nI_mul, nI_add]
  intro n
  induction n with
  | zero =>
    intro f k S hf hk
    cases f with
    | zero => exact absurd hf (Nat.not_lt_zero _)
    | succ f =>
      refine ⟨S, ?_, rfl, fun _ _ _ => rfl, fun c _ _ t h1 h2 => by omega⟩
      unfold fX11_take_91
      rw [if_pos (show (20 : Int32) ≤ nI k from nI_le (show 20 ≤ k by omega) (by omega))]
  | succ n ih =>
    intro f k S hf hk
    cases f with
    | zero => exact absurd hf (Nat.not_lt_zero _)
    | succ f =>
      have v1 : v_in (nI (20 * i + k)) 240 = true := v_in_nI (by omega) (by decide)
      have v2 : v_in (nI (20 * r + k)) 240 = true := v_in_nI (by omega) (by decide)
      generalize hQ : cpR (cpR (cpR S 139 (20 * i + k) (20 * r + k)) 140 (20 * i + k) (20 * r + k)) 141 (20 * i + k) (20 * r + k) = Q
      have q1 : ∀ c j, ¬ ((139 ≤ c ∧ c < 142) ∧ j = 20 * i + k) → Q.1 c j = S.1 c j := fun c j h => by
        rw [← hQ, cpR_o (by omega), cpR_o (by omega), cpR_o (by omega)]
      have q2 : ∀ c, 139 ≤ c → c < 142 → Q.1 c (20 * i + k) = S.1 c (20 * r + k) := fun c h1 h2 => by
        rw [← hQ]
        rcases (show c = 139 ∨ c = 140 ∨ c = 141 by omega) with rfl | rfl | rfl
        · rw [cpR_o (Or.inl (by decide)), cpR_o (Or.inl (by decide)), cpR_i]
        · rw [cpR_o (Or.inl (by decide)), cpR_i, cpR_o (Or.inl (by decide))]
        · rw [cpR_i, cpR_o (Or.inl (by decide)), cpR_o (Or.inl (by decide))]
      obtain ⟨S', y1, y2, y3, y4⟩ := ih f (k + 1) Q (by omega) (by omega)
      refine ⟨S', ?_, by rw [y2, ← hQ]; rfl, fun c j h => by rw [y3 c j (by omega), q1 c j (by omega)], fun c h1 h2 t h3 h4 => ?_⟩
      · rw [← y1, ← hQ, fX11_take_91, if_neg (show ¬ (20 : Int32) ≤ nI k from nI_ge (show k < 20 by omega) (by decide)), e20, e20, if_pos v2, if_pos v1, if_pos v2, if_pos v1, if_pos v2, if_pos v1, nI_clamp (n := 20 * i + k) (by omega), nI_clamp (n := 20 * r + k) (by omega), nI_1]
        rfl
      · by_cases q : t = k
        · rw [q, y3 c _ (by omega), q2 c h1 h2]
        · rw [y4 c h1 h2 t (by omega) h4, q1 c _ (by omega)]
theorem r_tk171 (hi : i < 6) (hr : r = 6 + i) : ∀ (n f k : Nat) (S : vM), n < f → k + n = 12 →
    ∃ f' S', fX11_take_171 f S (nI i) (nI r) (nI k) = fX11_take_171 (f' + 1) S' (nI i) (nI r) 12 ∧ S'.2 = S.2 ∧ (∀ c j, ¬ ((142 ≤ c ∧ c < 145) ∧ 12 * i + k ≤ j ∧ j < 12 * i + 12) → S'.1 c j = S.1 c j) ∧ ∀ c, 142 ≤ c → c < 145 → ∀ t, k ≤ t → t < 12 → S'.1 c (12 * i + t) = S.1 c (12 * r + t) := by
  have e12 : ∀ x s : Nat, (12 : Int32) * nI x + nI s = nI (12 * x + s) := fun x s => by rw [show (12 : Int32) = nI 12 from rfl, nI_mul, nI_add]
  intro n
  induction n with
  | zero =>
    intro f k S hf hk
    cases f with
    | zero => exact absurd hf (Nat.not_lt_zero _)
    | succ f => exact ⟨f, S, by rw [show k = 12 by omega]; rfl, rfl, fun _ _ _ => rfl, fun c _ _ t h1 h2 => by omega⟩
  | succ n ih =>
    intro f k S hf hk
    cases f with
    | zero => exact absurd hf (Nat.not_lt_zero _)
    | succ f =>
      have v1 : v_in (nI (12 * i + k)) 144 = true := v_in_nI (by omega) (by decide)
      have v2 : v_in (nI (12 * r + k)) 144 = true := v_in_nI (by omega) (by decide)
      generalize hQ : cpR (cpR (cpR S 142 (12 * i + k) (12 * r + k)) 143 (12 * i + k) (12 * r + k)) 144 (12 * i + k) (12 * r + k) = Q
      have q1 : ∀ c j, ¬ ((142 ≤ c ∧ c < 145) ∧ j = 12 * i + k) → Q.1 c j = S.1 c j := fun c j h => by
        rw [← hQ, cpR_o (by omega), cpR_o (by omega), cpR_o (by omega)]
      have q2 : ∀ c, 142 ≤ c → c < 145 → Q.1 c (12 * i + k) = S.1 c (12 * r + k) := fun c h1 h2 => by
        rw [← hQ]
        rcases (show c = 142 ∨ c = 143 ∨ c = 144 by omega) with rfl | rfl | rfl
        · rw [cpR_o (Or.inl (by decide)), cpR_o (Or.inl (by decide)), cpR_i]
        · rw [cpR_o (Or.inl (by decide)), cpR_i, cpR_o (Or.inl (by decide))]
        · rw [cpR_i, cpR_o (Or.inl (by decide)), cpR_o (Or.inl (by decide))]
      obtain ⟨f', S', y1, y2, y3, y4⟩ := ih f (k + 1) Q (by omega) (by omega)
      refine ⟨f', S', ?_, by rw [y2, ← hQ]; rfl, fun c j h => by rw [y3 c j (by omega), q1 c j (by omega)], fun c h1 h2 t h3 h4 => ?_⟩
      · refine Eq.trans ?_ y1
        rw [← hQ, fX11_take_171, if_neg (show ¬ (12 : Int32) ≤ nI k from nI_ge (show k < 12 by omega) (by decide)), e12, e12, if_pos v2, if_pos v1, if_pos v2, if_pos v1, if_pos v2, if_pos v1, nI_clamp (n := 12 * i + k) (by omega), nI_clamp (n := 12 * r + k) (by omega), nI_1]
        rfl
      · by_cases q : t = k
        · rw [q, y3 c _ (by omega), q2 c h1 h2]
        · rw [y4 c h1 h2 t (by omega) h4, q1 c _ (by omega)]
theorem r_ts2 {len : Nat} (hi : i < 6) (hl : len ≤ 1458) : ∀ (n f k : Nat) (S : vM), n < f → k + n = len → S.1 145 i = nI len → S.1 130 21 = 0 →
    ∃ S', fX11_tellSpent_2 f S (nI i) (nI k) = rV S' ∧ S'.2 = S.2 ∧ (∀ c, c ≠ 148 → S'.1 c = S.1 c) ∧ (∀ j, (j < 2000 * i + k ∨ 2000 * i + len ≤ j) → S'.1 148 j = S.1 148 j) ∧ ∀ t, k ≤ t → t < len → S'.1 148 (2000 * i + t) = 0 := by
  have v1 : v_in (nI i) 6 = true := v_in_nI hi (by decide)
  intro n
  induction n with
  | zero =>
    intro f k S hf hk h5 hb
    cases f with
    | zero => exact absurd hf (Nat.not_lt_zero _)
    | succ f =>
      refine ⟨S, ?_, rfl, fun _ _ => rfl, fun _ _ => rfl, fun t h1 h2 => by omega⟩
      obtain ⟨f', hf'⟩ : ∃ f', FU = f' + 1 := ⟨99999, rfl⟩
      unfold fX11_tellSpent_2
      rw [if_pos v1, nI_clamp (by omega), h5, if_pos (nI_le (by omega) (by omega)), hf']
      unfold fX11_tellSpent_33
      rw [hb, if_pos (by decide)]
  | succ n ih =>
    intro f k S hf hk h5 hb
    cases f with
    | zero => exact absurd hf (Nat.not_lt_zero _)
    | succ f =>
      obtain ⟨S', y1, y2, y3, y4, y5⟩ := ih f (k + 1) (v_si S 148 (2000 * i + k) 0) (by omega) (by omega) (by rw [si_c (by decide)]; exact h5) (by rw [si_c (by decide)]; exact hb)
      refine ⟨S', ?_, y2, fun c hc => by rw [y3 c hc, si_c hc], fun j hj => by rw [y4 j (by omega), si_n (by omega)], fun t h1 h2 => ?_⟩
      · unfold fX11_tellSpent_2
        rw [if_pos v1, nI_clamp (n := i) (by omega), h5, if_neg (nI_ge (by omega) (by omega)), e_ix, if_pos (r_in hi (by omega)), nI_clamp (by omega), nI_1, show v_nz 0 = 0 by decide]
        exact y1
      · by_cases q : t = k
        · rw [q, y4 _ (by omega), si_s]
        · exact y5 t (by omega) h2
/-- row i of the reference's cells -/
def rwB (i c j : Nat) : Prop := ((132 ≤ c ∧ c < 139 ∨ c = 145 ∨ c = 151 ∨ c = 153) ∧ j = i) ∨ ((139 ≤ c ∧ c < 142) ∧ 20 * i ≤ j ∧ j < 20 * i + 20) ∨ ((142 ≤ c ∧ c < 145) ∧ 12 * i ≤ j ∧ j < 12 * i + 12) ∨ ((146 ≤ c ∧ c < 149) ∧ 2000 * i ≤ j ∧ j < 2000 * i + 2000)
theorem r_take (hi : i < 6) (hr : r = 6 + i) (hV : plV kd z m nr fr F T C Kd A B) (hR : plR S r kd z m nr fr F T C Kd A B) (hb : S.1 130 21 = 0) : ∃ S' K, fX11_take S (nI i) = rV S' ∧ S'.2 = S.2 ∧ (∀ c j, ¬ rwB i c j → S'.1 c j = S.1 c j) ∧
    (∀ c, 132 ≤ c → c < 139 → S'.1 c i = S.1 c r) ∧ (∀ c, 139 ≤ c → c < 142 → ∀ t, t < 20 → S'.1 c (20 * i + t) = S.1 c (20 * r + t)) ∧ S'.1 145 i = nI (wayL kd z m nr F T C Kd A B).length ∧ rKy S' i (wayL kd z m nr F T C Kd A B).length K ∧ pmN (wayL kd z m nr F T C Kd A B).length K (gK (wayL kd z m nr F T C Kd A B)) ∧ stN (wayL kd z m nr F T C Kd A B).length K ∧ (∀ k, k < (wayL kd z m nr F T C Kd A B).length → S'.1 148 (2000 * i + k) = 0) ∧ S'.1 151 i = 0 ∧ S'.1 153 i = 0 := by
  have hw := way_ok hV
  obtain ⟨h1, h2, h3, -, h4, h5, h6, h7, h8⟩ := hV
  obtain ⟨c0, c1, c4, c6, c5, cc, cn, cs⟩ := hR
  have v1 : v_in (nI i) 6 = true := v_in_nI hi (by decide)
  have v12 : v_in (nI i) 12 = true := v_in_nI (by omega) (by decide)
  generalize hL : wayL kd z m nr F T C Kd A B = L at hw ⊢
  obtain ⟨S2, a1, a2, a3, a4⟩ := r_tk91 hi hr 20 FU 0 (cp7 S i r) (FU_lt (by decide)) rfl
  obtain ⟨f', S3, b1, b2, b3, b4⟩ := r_tk171 hi hr 12 FU 0 S2 (FU_lt (by decide)) rfl
  generalize hQ : v_si (v_si (v_si S3 151 i 0) 153 i 0) 145 i 0 = Q
  have qo : ∀ c j, ¬ ((c = 145 ∨ c = 151 ∨ c = 153) ∧ j = i) → Q.1 c j = S3.1 c j := fun c j h => by
    rw [← hQ]
    show (if c = 145 ∧ j = i then (0 : Int32) else if c = 153 ∧ j = i then 0 else if c = 151 ∧ j = i then 0 else S3.1 c j) = _
    rw [if_neg (by omega), if_neg (by omega), if_neg (by omega)]
  have t7 : ∀ c, 132 ≤ c → c < 139 → Q.1 c i = S.1 c r := fun c g1 g2 => by
    rw [qo c i (by omega), b3 c i (by omega), a3 c i (by omega), cp7_i g1 g2 (by omega)]
  have t20 : ∀ c, 139 ≤ c → c < 142 → ∀ t, t < 20 → Q.1 c (20 * i + t) = S.1 c (20 * r + t) := fun c g1 g2 t g3 => by
    rw [qo c _ (by omega), b3 c _ (by omega), a4 c g1 g2 t (Nat.zero_le _) g3, cp7_o (by omega)]
  have t12 : ∀ c, 142 ≤ c → c < 145 → ∀ t, t < 12 → Q.1 c (12 * i + t) = S.1 c (12 * r + t) := fun c g1 g2 t g3 => by
    rw [qo c _ (by omega), b4 c g1 g2 t (Nat.zero_le _) g3, a3 c _ (by omega), cp7_o (by omega)]
  have Q2 : Q.2 = S.2 := by rw [← hQ]; show S3.2 = S.2; rw [b2, a2]; rfl
  have W0 : rWy Q Q i [] := ⟨by rw [← hQ, si_s]; exact nI_0.symm, fun k hk => absurd hk (Nat.not_lt_zero _), rfl, fun _ _ _ _ => rfl, fun _ _ => rfl, fun _ _ _ _ => rfl⟩
  have d0 : Q.1 132 i = nI kd := by rw [t7 132 (by decide) (by decide)]; exact c0
  have lst : ∃ S4, fX11_take S (nI i) = fX11_take_338 S4 (nI i) ∧ rWy Q S4 i L := by
    rw [r_tk0 hi hr, show fX11_take_91 FU (cp7 S i r) (nI i) (nI r) 0 = fX11_take_171 FU S2 (nI i) (nI r) 0 from a1, show fX11_take_171 FU S2 (nI i) (nI r) 0 = fX11_take_171 (f' + 1) S3 (nI i) (nI r) 12 from b1]
    unfold fX11_take_171
    rw [if_pos (by decide), if_pos v1, if_pos v1, if_pos v1, if_pos v12, nI_clamp (n := i) (by omega), hQ, d0]
    rcases (show kd = 0 ∨ kd = 1 ∨ kd = 2 by omega) with e | e | e
    · obtain ⟨g1, g2, g3⟩ := h5 e
      have ew : wlk F T C m (z - 1) 14 0 0 0 = L := by rw [← hL]; exact (if_pos e).symm
      obtain ⟨S4, u1, u2⟩ := r_walk (z := z - 1) hi ⟨by omega, g2, fun s hs => ⟨(g3 s hs).1, by have := (g3 s hs).2; omega, h4 s hs⟩⟩ (show rNet Q i m (z - 1) F T C from ⟨by rw [t7 133 (by decide) (by decide), c1, show z - 1 + 1 = z by omega], by rw [t7 136 (by decide) (by decide), c4], fun s hs => by
        rw [t20 139 (by decide) (by decide) s (by omega), t20 140 (by decide) (by decide) s (by omega), t20 141 (by decide) (by decide) s (by omega)]
        exact ⟨(cn e s hs).1, (cn e s hs).2, cc s hs⟩⟩) 14 0 0 0 [] Q (by omega) (Nat.zero_le _) (Nat.zero_le _) (by decide) W0 (by rw [ew, List.length_nil]; omega)
      rw [ew, List.nil_append] at u2
      refine ⟨S4, ?_, u2⟩
      rw [e, if_pos (show nI 0 = 0 from nI_0), show fX11_walk Q (nI i) 0 0 0 = rV S4 from u1, bv_V]
    · have ew : catF (chG C Kd A B m z nr) (2 ^ m) 0 = L := by
        rw [← hL]
        unfold wayL
        rw [if_neg (by omega), if_pos e]
      have h2m : 2 ^ m ≤ 4096 := Nat.pow_le_pow_right (n := 2) (by decide) (h6 e)
      obtain ⟨S4, u1, u2⟩ := r_302 (k338 := fX11_take_338) (z := z) (Kd := Kd) hi ⟨h6 e, h3, h4, fun k hk => ⟨(h8 k hk).1, (h8 k hk).2.1⟩⟩ h2 (show rSet Q i m z nr C Kd A B from ⟨by rw [t7 133 (by decide) (by decide), c1], by rw [t7 136 (by decide) (by decide), c4], by rw [t7 138 (by decide) (by decide), c5], fun s hs => by rw [t20 141 (by decide) (by decide) s (by have := h6 e; omega)]; exact cc s hs, fun k hk => by
        rw [t12 142 (by decide) (by decide) k (by omega), t12 143 (by decide) (by decide) k (by omega), t12 144 (by decide) (by decide) k (by omega)]
        exact ⟨(cs k hk).1, (cs k hk).2.1, (cs k hk).2.2, (h8 k hk).2.2⟩⟩) (2 ^ m) FU 0 [] Q (FU_lt (by omega)) (Nat.zero_add _) W0 (by rw [ew, List.length_nil]; omega)
      rw [ew, List.nil_append] at u2
      refine ⟨S4, ?_, u2⟩
      rw [e, if_neg (show ¬ nI 1 = 0 by decide), if_pos v12, if_pos (show nI 1 = 1 from rfl)]
      exact u1
    · have ew : lin A B C m nr 8 0 0 0 0 = L := by
        rw [← hL]
        unfold wayL
        rw [if_neg (by omega), if_neg (by omega)]
      have hm := h7 e
      have hz := ln_0 hm
      obtain ⟨S4, u1, u2⟩ := r_line hi ⟨hm, h3, h4, fun k hk => ⟨(h8 k hk).1, (h8 k hk).2.1⟩⟩ (show rOrd Q i m nr C A B from ⟨by rw [t7 136 (by decide) (by decide), c4], by rw [t7 138 (by decide) (by decide), c5], fun s hs => by rw [t20 141 (by decide) (by decide) s (by omega)]; exact cc s hs, fun k hk => by
        rw [t12 143 (by decide) (by decide) k (by omega), t12 144 (by decide) (by decide) k (by omega)]
        exact ⟨(cs k hk).2.1, (cs k hk).2.2⟩⟩) 8 0 0 0 0 [] Q (by omega) (Nat.two_pow_pos m) (by rw [hz.2]; rfl) (by decide) (Nat.zero_le _) W0 (by rw [ew, List.length_nil]; omega)
      rw [ew, List.nil_append] at u2
      refine ⟨S4, ?_, u2⟩
      rw [e, if_neg (show ¬ nI 2 = 0 by decide), if_pos v12, if_neg (show ¬ nI 2 = 1 by decide), show fX11_arrange Q (nI i) 0 0 0 0 = rV S4 from u1, bv_V]
  obtain ⟨S4, u1, w1, w2, w3, w4, w5, w6⟩ := lst
  obtain ⟨S5, K, s1, s2, s3, s4, s5⟩ := r_sort hi hw.1 w1 w2
  have e5 : S5.1 145 i = nI L.length := by rw [s3.2.1 145 (by decide) (by decide)]; exact w1
  have e21 : S5.1 130 21 = 0 := by rw [s3.2.1 130 (by decide) (by decide), w4 130 (by decide) (by decide) (by decide), qo 130 21 (by omega), b3 130 21 (by omega), a3 130 21 (by omega), cp7_o (by omega)]; exact hb
  obtain ⟨S6, x1, x2, x3, x4, x5⟩ := r_ts2 hi hw.1 L.length FU 0 S5 (FU_lt (by omega)) (Nat.zero_add _) e5 e21
  have up : ∀ c j, c ≠ 145 → c ≠ 146 → c ≠ 147 → c ≠ 148 → S6.1 c j = Q.1 c j := fun c j g1 g2 g3 g4 => by
    rw [x3 c g4, s3.2.1 c g2 g3, w4 c g1 g2 g3]
  refine ⟨S6, K, ?_, ?_, fun c j hn => ?_, fun c g1 g2 => ?_, fun c g1 g2 t g3 => ?_, ?_, fun k hk => ?_, s4, s5, fun k hk => x5 k (Nat.zero_le _) hk, ?_, ?_⟩
  · rw [u1]
    unfold fX11_take_338
    rw [s1, bv_V, show fX11_tellSpent S5 (nI i) = rV S6 from x1, bv_V]
  · rw [x2, s3.1, w3, Q2]
  · unfold rwB at hn
    have base : S6.1 c j = Q.1 c j := by
      by_cases g8 : c = 148
      · rw [g8, x4 j (by omega), s3.2.1 148 (by decide) (by decide), w4 148 (by decide) (by decide) (by decide)]
      · rw [x3 c g8]
        by_cases g5 : c = 145
        · rw [g5, s3.2.1 145 (by decide) (by decide), w5 j (by omega)]
        · by_cases g6 : c = 146 ∨ c = 147
          · rw [s3.2.2 c j (by omega), w6 c j g5 (by omega)]
          · rw [s3.2.1 c (by omega) (by omega), w4 c g5 (by omega) (by omega)]
    rw [base, qo c j (by omega), b3 c j (by omega), a3 c j (by omega), cp7_o (by omega)]
  · rw [up c i (by omega) (by omega) (by omega) (by omega), t7 c g1 g2]
  · rw [up c _ (by omega) (by omega) (by omega) (by omega), t20 c g1 g2 t g3]
  · rw [x3 145 (by decide)]
    exact e5
  · rw [x3 146 (by decide), x3 147 (by decide)]
    exact s2 k hk
  · rw [up 151 i (by decide) (by decide) (by decide) (by decide), ← hQ, si_c (by decide), si_c (by decide), si_s]
  · rw [up 153 i (by decide) (by decide) (by decide) (by decide), ← hQ, si_c (by decide), si_s]
end P49
