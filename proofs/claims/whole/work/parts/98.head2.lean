section P58
variable {N S : vM} {L t e q p r w kd z : Nat} {b : Nat → Nat}
def hdK (r : Nat) (S : vM) : Option (vR × vM) := bv (fX11_readSame S (nI r)) fun M16 => bv (fX11_semi M16) fun M19 => bv (fX11_readLines M19 (nI r)) fun M22 => rV (v_si M22 130 3 ((M22.1 130 3) + 1))
def hdL (r : Nat) (S : vM) : Option (vR × vM) := bv (fX11_readLines S (nI r)) fun M22 => rV (v_si M22 130 3 ((M22.1 130 3) + 1))
/-- a work's number -/
theorem rdSize (hP : v_isP p) (hr : r < 12) (hk : kd ≤ 2) (h : gd N S L b t e q) (h0 : N.1 p 0 = nI kd) (h1 : N.1 p 1 = 0) :
    ∃ N' S' x, fX4_readNumberOf N p = rI x N' ∧ (if kd = 2 then fX11_readWork_113 S (nI r) (nI r) 0 else bi (fX11_readNumber S (nI (if kd = 0 then 2 else 0)) 12) fun y M => fX11_readWork_113 M (nI r) (nI r) y) = hdK r S' ∧ N'.2 = N.2 ∧ (∀ c, c ≠ 3 → c ≠ p → N'.1 c = N.1 c) ∧ (∀ j, j ≠ 1 → N'.1 p j = N.1 p j) ∧ N'.1 3 8 = N.1 3 8 ∧ S'.2 = S.2 ∧ (∀ c, c ≠ 130 → c ≠ 133 → S'.1 c = S.1 c) ∧ (∀ j, j ≠ r → S'.1 133 j = S.1 133 j) ∧ (∀ j, (j < 32 ∨ 39 < j) → S'.1 130 j = S.1 130 j) ∧
    ((x = 1 ∧ (∃ t' e' q', gd N' S' L b t' e' q' ∧ e ≤ e') ∧ ∃ z, N'.1 p 1 = nI z ∧ S'.1 133 r = nI z ∧ z ≤ 12 ∧ (kd = 0 → 2 ≤ z)) ∨ (x = 0 ∧ bd N' S')) := by
  have hpb := v_isP_b hP
  have hee0 : e ≤ q := h.1.2.2.2.2.2.2.2.2.2.2.2.2.2.1
  have v12 : v_in (nI r) 12 = true := v_in_nI (by omega) (by decide)
  have hcl : (nI r).toNatClampNeg = r := nI_clamp (by omega)
  have e113 : ∀ (M : vM) (y : Int32), fX11_readWork_113 M (nI r) (nI r) y = hdK r (v_si M 133 r y) := fun M y => by
    unfold fX11_readWork_113
    rw [if_pos v12, hcl]
    rfl
  have num : ∀ lo : Nat, lo ≤ 2 → (kd = 0 → 2 ≤ lo) → ¬ kd = 2 → (fX4_readNumberOf N p = bi (fX4_readNumber N (nI lo) 12) fun y11 M12 => fX4_readNumberOf_40 (v_si M12 p 1 y11)) → (if kd = 0 then 2 else 0) = lo →
      ∃ N' S' x, fX4_readNumberOf N p = rI x N' ∧ (if kd = 2 then fX11_readWork_113 S (nI r) (nI r) 0 else bi (fX11_readNumber S (nI (if kd = 0 then 2 else 0)) 12) fun y M => fX11_readWork_113 M (nI r) (nI r) y) = hdK r S' ∧ N'.2 = N.2 ∧ (∀ c, c ≠ 3 → c ≠ p → N'.1 c = N.1 c) ∧ (∀ j, j ≠ 1 → N'.1 p j = N.1 p j) ∧ N'.1 3 8 = N.1 3 8 ∧ S'.2 = S.2 ∧ (∀ c, c ≠ 130 → c ≠ 133 → S'.1 c = S.1 c) ∧ (∀ j, j ≠ r → S'.1 133 j = S.1 133 j) ∧ (∀ j, (j < 32 ∨ 39 < j) → S'.1 130 j = S.1 130 j) ∧
      ((x = 1 ∧ (∃ t' e' q', gd N' S' L b t' e' q' ∧ e ≤ e') ∧ ∃ z, N'.1 p 1 = nI z ∧ S'.1 133 r = nI z ∧ z ≤ 12 ∧ (kd = 0 → 2 ≤ z)) ∨ (x = 0 ∧ bd N' S')) := by
    intro lo hlo hlo2 hk2 hcE hlE
    obtain ⟨N1, S1, x, y, a1, a2, a3, a4, a5⟩ := rdNum h (lo := lo) (hi := 12) (by omega) (by decide)
    have fC : ∀ c, c ≠ 3 → c ≠ p → (v_si N1 p 1 x).1 c = N.1 c := fun c i1 i2 => by rw [si_c i2, a3.2.1 c i1]
    have fP : ∀ j, j ≠ 1 → (v_si N1 p 1 x).1 p j = N.1 p j := fun j hj => by rw [si_n hj, a3.2.1 p (by omega)]
    have f8 : (v_si N1 p 1 x).1 3 8 = N.1 3 8 := by rw [si_c (by omega)]; exact a3.2.2
    have gC : ∀ c, c ≠ 130 → c ≠ 133 → (v_si S1 133 r y).1 c = S.1 c := fun c i1 i2 => by rw [si_c i2, a4.2.1 c i1]
    have gP : ∀ j, j ≠ r → (v_si S1 133 r y).1 133 j = S.1 133 j := fun j hj => by rw [si_n hj, a4.2.1 133 (by decide)]
    have g8 : ∀ j, (j < 32 ∨ 39 < j) → (v_si S1 133 r y).1 130 j = S.1 130 j := fun j hj => by rw [si_c (by decide)]; exact a4.2.2 j hj
    have eR : (if kd = 2 then fX11_readWork_113 S (nI r) (nI r) 0 else bi (fX11_readNumber S (nI (if kd = 0 then 2 else 0)) 12) fun y M => fX11_readWork_113 M (nI r) (nI r) y) = hdK r (v_si S1 133 r y) := by
      rw [if_neg hk2, hlE, show fX11_readNumber S (nI lo) 12 = rI y S1 from a2, bi_I, e113]
    rcases a5 with ⟨v, t1, e1, q1, rfl, rfl, v1, v2, d1, d2⟩ | hbad
    · have gN : gd (v_si N1 p 1 (nI v)) (v_si S1 133 r (nI v)) L b t1 e1 q1 := gd_P (p' := 0) (gd_Q d1 (by decide)) (by omega)
      refine ⟨v_si N1 p 1 (nI v), v_si S1 133 r (nI v), 1, ?_, eR, a3.1, fC, fP, f8, a4.1, gC, gP, g8, Or.inl ⟨rfl, ⟨t1, e1, q1, gN, by omega⟩, v, si_s, si_s, v2, fun hk0 => by have := hlo2 hk0; omega⟩⟩
      rw [hcE, show fX4_readNumber N (nI lo) 12 = rI (nI v) N1 from a1, bi_I]
      unfold fX4_readNumberOf_40
      rw [if_pos gN.2.1]
    · have gN : bd (v_si N1 p 1 x) (v_si S1 133 r y) := bd_P (bd_Q hbad (by decide)) (by omega)
      refine ⟨v_si N1 p 1 x, v_si S1 133 r y, 0, ?_, eR, a3.1, fC, fP, f8, a4.1, gC, gP, g8, Or.inr ⟨rfl, gN⟩⟩
      rw [hcE, show fX4_readNumber N (nI lo) 12 = rI x N1 from a1, bi_I]
      unfold fX4_readNumberOf_40
      rw [if_neg (bd_b gN).2]
  rcases (show kd = 0 ∨ kd = 1 ∨ kd = 2 by omega) with e0 | e0 | e0
  · refine num 2 (Nat.le_refl 2) (fun _ => Nat.le_refl 2) (by omega) ?_ (if_pos e0)
    unfold fX4_readNumberOf
    rw [h0, if_pos (show nI kd = 0 by rw [e0]; rfl)]
    rfl
  · refine num 0 (by decide) (fun hk0 => by omega) (by omega) ?_ (if_neg (by omega))
    unfold fX4_readNumberOf
    rw [h0, if_neg (show ¬ nI kd = 0 by rw [e0]; decide), if_pos (show nI kd = 1 by rw [e0]; rfl)]
    rfl
  · refine ⟨N, v_si S 133 r 0, 1, ?_, ?_, rfl, fun _ _ _ => rfl, fun _ _ => rfl, rfl, rfl, fun c _ i2 => si_c i2, fun j hj => si_n hj, fun j _ => by rw [si_c (by decide)], Or.inl ⟨rfl, ⟨t, e, q, gd_Q h (by decide), Nat.le_refl e⟩, 0, by rw [h1, nI_0], by rw [si_s, nI_0], by decide, fun hk0 => by omega⟩⟩
    · unfold fX4_readNumberOf fX4_readNumberOf_40
      rw [h0, if_neg (show ¬ nI kd = 0 by rw [e0]; decide), if_neg (show ¬ nI kd = 1 by rw [e0]; decide), if_pos h.2.1]
    · rw [if_pos e0, e113]
/-- a work's first row -/
theorem rdHead (hP : v_isP p) (hw : w < 6) (hr : r = 6 + w) (hk : kd ≤ 2) (h : gd N S L b t e q) (h8 : N.1 3 8 = nI w) (h3 : S.1 130 3 = nI w) (hp0 : N.2.2 4 w - 1 = p) :
    ∃ N' S' x, fX4_readHead N (nI kd) = rI x N' ∧ fX11_readWork_36 S (nI kd) = hdL r S' ∧ N'.2 = N.2 ∧ (∀ c, c ≠ 3 → (c < p ∨ p + 5 < c) → N'.1 c = N.1 c) ∧ N'.1 3 8 = nI (w + 1) ∧ frQ r S S' ∧
    ((x = 1 ∧ (∃ t' e' q', gd N' S' L b t' e' q' ∧ q ≤ e') ∧ plE N' S' p r) ∨ (x = 0 ∧ bd N' S')) := by
  have hpb := v_isP_b hP
  have v12 : v_in (nI r) 12 = true := v_in_nI (by omega) (by decide)
  have hcl : (nI r).toNatClampNeg = r := nI_clamp (by omega)
  have e6 : (6 : Int32) + nI w = nI r := by rw [hr]; exact nI_add 6 w
  obtain ⟨N1, a1, a2, a3, a4, a5, a6⟩ := c_begin (N := v_si N 3 8 (nI (w + 1))) (x := nI kd) hP
  have g1 : gd N1 S L b t e q := gd_c h (fun j hj => by rw [a3 3 (by omega), si_n hj]) (by rw [a3 2 (by omega), si_c (by decide)]) (fun _ _ _ => rfl) rfl
  obtain ⟨N2, S2, t2, e2, q2, b1, b2, b3, b4, b5, b6⟩ := adv g1
  have S23 : S2.1 130 3 = nI w := by rw [b4.2.2 3 (by omega)]; exact h3
  generalize hR : v_si (v_si (v_si (v_si S2 132 r (nI kd)) 136 r 0) 137 r 0) 138 r 0 = R
  have gR : gd N2 R L b t2 e2 q2 := by rw [← hR]; exact gd_Q (gd_Q (gd_Q (gd_Q b5 (by decide)) (by decide)) (by decide)) (by decide)
  have fR : frQ r S R := by
    rw [← hR]
    exact frQ_t (frQ_t (frQ_t (frQ_t (frQ_B b4) (frQ_s (Or.inl ⟨by omega, rfl⟩))) (frQ_s (Or.inl ⟨by omega, rfl⟩))) (frQ_s (Or.inl ⟨by omega, rfl⟩))) (frQ_s (Or.inl ⟨by omega, rfl⟩))
  have R2 : R.1 132 r = nI kd := by rw [← hR, si_c (by decide), si_c (by decide), si_c (by decide), si_s]
  have R6 : R.1 136 r = nI 0 := by rw [← hR, si_c (by decide), si_c (by decide), si_s, nI_0]
  have R7 : R.1 137 r = nI 0 := by rw [← hR, si_c (by decide), si_s, nI_0]
  have R8 : R.1 138 r = nI 0 := by rw [← hR, si_s, nI_0]
  have n2p : N2.1 p = N1.1 p := b3.2.1 p (by omega)
  obtain ⟨N3, S3, x3, c1, c2, c3, c4, c5, c6, c7, c8, c9, c10, c11⟩ := rdSize hP (show r < 12 by omega) hk gR (by rw [n2p]; exact a4) (by rw [n2p]; exact a5 1 (by decide) (by decide))
  have eC : fX4_readHead N (nI kd) = bi (rI x3 N3) fun y20 M21 => if y20 = 0 then rI 0 M21 else bi (fX4_readLaw M21 p) fun y25 M26 => if y25 = 0 then rI 0 M26 else bi (fX4_readSign M26) fun y30 M31 => if y30 = 0 then rI 0 M31 else rI 1 M31 := by
    unfold fX4_readHead
    rw [h8, if_neg (nI_pos (by omega)), if_pos (nI_lt hw (by decide)), if_pos (v_in_nI hw (by decide)), nI_clamp (by omega), nI_1, hp0, a1, bv_V, b1, bv_V, c1]
  have eR : fX11_readWork_36 S (nI kd) = hdK r S3 := by
    rw [← c2]
    unfold fX11_readWork_36
    rw [if_pos h.2.2, b2, bv_V, S23, e6, if_pos v12, if_pos v12, if_pos v12, if_pos v12, hcl, hR]
    rcases (show kd = 0 ∨ kd = 1 ∨ kd = 2 by omega) with e0 | e0 | e0
    · rw [e0, if_neg (show ¬ nI 0 = 2 by decide), if_pos (show nI 0 = 0 from nI_0), if_neg (show ¬ (0 : Nat) = 2 by decide), if_pos (show (0 : Nat) = 0 from rfl)]
      rfl
    · rw [e0, if_neg (show ¬ nI 1 = 2 by decide), if_neg (show ¬ nI 1 = 0 by decide), if_neg (show ¬ (1 : Nat) = 2 by decide), if_neg (show ¬ (1 : Nat) = 0 by decide)]
      rfl
    · rw [e0, if_pos (show nI 2 = 2 from rfl), if_pos (show (2 : Nat) = 2 from rfl)]
  have fC : ∀ c, c ≠ 3 → (c < p ∨ p + 5 < c) → N3.1 c = N.1 c := fun c i1 i2 => by
    rw [c4 c i1 (by omega), b3.2.1 c i1, a3 c i2, si_c i1]
  have f32 : N3.2 = N.2 := by rw [c3, b3.1, a2]; rfl
  have f8 : N3.1 3 8 = nI (w + 1) := by rw [c6, b3.2.2, a3 3 (by omega), si_s]
  have fQ3 : frQ r S S3 := by
    refine ⟨c7.trans fR.1, fun c j i1 i2 => ?_, fun j hj => (c10 j hj).trans (fR.2.2 j hj)⟩
    by_cases z1 : c = 133
    · rw [z1, c9 j (fun z2 => i2 (Or.inl ⟨by omega, z2⟩)), ← z1]
      exact fR.2.1 c j i1 i2
    · rw [c8 c i1 z1]
      exact fR.2.1 c j i1 i2
  rw [eC, bi_I, eR]
  unfold hdK
  rcases c11 with ⟨rfl, ⟨t3, e3, q3, g3, g3'⟩, z, z1, z2, z3, z4⟩ | ⟨rfl, hbad⟩
  · have n3p : ∀ j, 2 ≤ j → j ≤ 6 → N3.1 p j = 0 := fun j i1 i2 => by
      rw [c5 j (by omega), n2p]
      exact a5 j (by omega) i2
    obtain ⟨N4, S4, x4, d1, d2, d3, d4, d5⟩ := rdLaw hP (show r < 12 by omega) g3 (n3p 2 (by decide) (by decide)) (n3p 3 (by decide) (by decide))
    have fC4 : ∀ c, c ≠ 3 → (c < p ∨ p + 5 < c) → N4.1 c = N.1 c := fun c i1 i2 => by
      rw [d3.2.1 c i1 (by omega)]
      exact fC c i1 i2
    have fQ4 : frQ r S S4 := by
      refine ⟨d4.1.trans fQ3.1, fun c j i1 i2 => ?_, fun j hj => (d4.2.2.2 j hj).trans (fQ3.2.2 j hj)⟩
      by_cases k1 : c = 134 ∨ c = 135
      · rw [d4.2.2.1 c j k1 (fun k2 => i2 (Or.inl ⟨by omega, k2⟩))]
        exact fQ3.2.1 c j i1 i2
      · rw [d4.2.1 c i1 (by omega) (by omega)]
        exact fQ3.2.1 c j i1 i2
    rw [if_neg (show ¬ (1 : Int32) = 0 by decide), d1, bi_I, d2, bv_V]
    rcases d5 with ⟨rfl, ⟨t4, e4, q4, g4, g4'⟩, lw, ot, o1, o2, o3, o4, o5, o6, o7⟩ | ⟨rfl, hbad⟩
    · obtain ⟨N5, S5, x5, k1, k2, k3, k4, k5⟩ := rdSemi g4
      have fC5 : ∀ c, c ≠ 3 → (c < p ∨ p + 5 < c) → N5.1 c = N.1 c := fun c i1 i2 => by
        rw [k3.2.1 c i1]
        exact fC4 c i1 i2
      have f25 : N5.2 = N.2 := by rw [k3.1, d3.1, f32]
      have f85 : N5.1 3 8 = nI (w + 1) := by rw [k3.2.2, d3.2.2.2, f8]
      have fQ5 : frQ r S S5 := frQ_t fQ4 (frQ_B k4)
      rw [if_neg (show ¬ (1 : Int32) = 0 by decide), k1, bi_I, k2, bv_V]
      rcases k5 with ⟨rfl, t5, e5, q5, g5, g5'⟩ | ⟨rfl, hbad⟩
      · have hee4 : e4 ≤ q4 := g4.1.2.2.2.2.2.2.2.2.2.2.2.2.2.1
        rw [if_neg (show ¬ (1 : Int32) = 0 by decide)]
        refine ⟨N5, S5, 1, rfl, rfl, f25, fC5, f85, fQ5, Or.inl ⟨rfl, ⟨t5, e5, q5, g5, by omega⟩, ?_⟩⟩
        have n5p : ∀ j, j ≠ 2 → j ≠ 3 → N5.1 p j = N3.1 p j := fun j i1 i2 => by rw [k3.2.1 p (by omega)]; exact d3.2.2.1 j i1 i2
        have s5 : ∀ c, c ≠ 130 → c ≠ 134 → c ≠ 135 → S5.1 c = S3.1 c := fun c i1 i2 i3 => by rw [k4.2.1 c i1, d4.2.1 c i1 i2 i3]
        have n5r : ∀ c, p < c → c ≤ p + 5 → N5.1 c = N1.1 c := fun c i1 i2 => by rw [k3.2.1 c (by omega), d3.2.1 c (by omega) (by omega), c4 c (by omega) (by omega), b3.2.1 c (by omega)]
        refine ⟨kd, z, lw, ot, 0, 0, 0, fun _ => 0, fun _ => 0, fun _ => 0, fun _ => 0, fun _ => 0, fun _ => 0, ⟨hk, z3, Nat.zero_le _, by decide, fun s hs => absurd hs (Nat.not_lt_zero _), fun h9 => ⟨z4 h9, Nat.zero_le _, fun s hs => absurd hs (Nat.not_lt_zero _)⟩, fun _ => Nat.zero_le _, fun _ => Nat.zero_le _, fun k hk9 => absurd hk9 (Nat.not_lt_zero _)⟩,
          ⟨?_, ?_, ?_, ?_, ?_, fun s hs => absurd hs (Nat.not_lt_zero _), fun _ s hs => absurd hs (Nat.not_lt_zero _), fun s hs => ⟨fun _ => ⟨?_, ?_⟩, fun _ => ?_⟩⟩, ⟨?_, ?_, ?_, ?_, ?_, fun s hs => absurd hs (Nat.not_lt_zero _), fun _ s hs => absurd hs (Nat.not_lt_zero _), fun k hk9 => absurd hk9 (Nat.not_lt_zero _)⟩, ⟨?_, ?_⟩, ⟨?_, ?_⟩, o5, o6, o7⟩
        · rw [n5p 0 (by decide) (by decide), c5 0 (by decide), n2p]; exact a4
        · rw [n5p 1 (by decide) (by decide)]; exact z1
        · rw [n5p 4 (by decide) (by decide), n3p 4 (by decide) (by decide), nI_0]
        · rw [n5p 5 (by decide) (by decide), n3p 5 (by decide) (by decide), nI_0]
        · rw [n5p 6 (by decide) (by decide), n3p 6 (by decide) (by decide), nI_0]
        · rw [n5r (p + 4) (by omega) (by omega), (a6 s hs).1]; exact nI_0.symm
        · rw [n5r (p + 5) (by omega) (by omega), (a6 s hs).2]; exact nI_0.symm
        · rw [n5r (p + 4) (by omega) (by omega), (a6 s hs).1]; exact nI_0.symm
        · rw [s5 132 (by decide) (by decide) (by decide), c8 132 (by decide) (by decide)]; exact R2
        · rw [s5 133 (by decide) (by decide) (by decide)]; exact z2
        · rw [s5 136 (by decide) (by decide) (by decide), c8 136 (by decide) (by decide)]; exact R6
        · rw [s5 137 (by decide) (by decide) (by decide), c8 137 (by decide) (by decide)]; exact R7
        · rw [s5 138 (by decide) (by decide) (by decide), c8 138 (by decide) (by decide)]; exact R8
        · rw [k3.2.1 p (by omega)]; exact o1
        · rw [k3.2.1 p (by omega)]; exact o2
        · rw [k4.2.1 134 (by decide)]; exact o3
        · rw [k4.2.1 135 (by decide)]; exact o4
      · rw [if_pos (show (0 : Int32) = 0 from rfl)]
        exact ⟨N5, S5, 0, rfl, rfl, f25, fC5, f85, fQ5, Or.inr ⟨rfl, hbad⟩⟩
    · rw [if_pos (show (0 : Int32) = 0 from rfl), b_semi (bd_b hbad).1, bv_V]
      exact ⟨N4, S4, 0, rfl, rfl, by rw [d3.1, f32], fC4, by rw [d3.2.2.2, f8], fQ4, Or.inr ⟨rfl, hbad⟩⟩
  · obtain ⟨S4, d1, d2, d3⟩ := b_same (S := S3) (show r < 12 by omega) (bd_b hbad).1
    have hb4 : bd N3 S4 := bd_c hbad rfl rfl (by rw [d3]) (by rw [d3])
    rw [if_pos (show (0 : Int32) = 0 from rfl), d1, bv_V, b_semi (bd_b hb4).1, bv_V]
    refine ⟨N3, S4, 0, rfl, rfl, f32, fC, f8, ⟨d2.1.trans fQ3.1, fun c j i1 i2 => ?_, fun j hj => (d2.2.2.2 j hj).trans (fQ3.2.2 j hj)⟩, Or.inr ⟨rfl, hb4⟩⟩
    by_cases k1 : c = 134 ∨ c = 135
    · rw [d2.2.2.1 c j k1 (fun k2 => i2 (Or.inl ⟨by omega, k2⟩))]
      exact fQ3.2.1 c j i1 i2
    · rw [d2.2.1 c i1 (by omega) (by omega)]
      exact fQ3.2.1 c j i1 i2
end P58
