section P57
variable {N S : vM} {L t e q p r w kd z : Nat} {b : Nat → Nat}
theorem c_fillI {c len : Nat} {x : Int32} (hl : (v_LAY c).2.2 = len) (hl2 : len ≤ 2000) : ∀ (n f k : Nat) (N : vM), n < f → k + n = len → (∀ j, j < k → N.1 c j = x) →
    ∃ N', fJ7_fill_53178_5 f N c x (nI k) (nI len) = rV N' ∧ N'.2 = N.2 ∧ (∀ d, d ≠ c → N'.1 d = N.1 d) ∧ ∀ j, j < len → N'.1 c j = x := by
  intro n
  induction n with
  | zero =>
    intro f k N hf hk hr
    cases f with
    | zero => exact absurd hf (Nat.not_lt_zero _)
    | succ f =>
      refine ⟨N, ?_, rfl, fun _ _ => rfl, fun j hj => hr j (by omega)⟩
      unfold fJ7_fill_53178_5
      rw [if_pos (nI_le (by omega) (by omega))]
  | succ n ih =>
    intro f k N hf hk hr
    cases f with
    | zero => exact absurd hf (Nat.not_lt_zero _)
    | succ f =>
      obtain ⟨N', a1, a2, a3, a4⟩ := ih f (k + 1) (v_si N c k x) (by omega) (by omega) (fun j hj => by
        by_cases z1 : j = k
        · rw [z1, si_s]
        · rw [si_n z1]; exact hr j (by omega))
      refine ⟨N', ?_, a2, fun d hd => by rw [a3 d hd, si_c hd], a4⟩
      unfold fJ7_fill_53178_5
      rw [if_neg (nI_ge (by omega) (by omega)), hl, if_pos (v_in_nI (by omega) (by omega)), nI_clamp (by omega), nI_1]
      exact a1
theorem c_fill0 {c len : Nat} {x : Int32} (hl : (v_LAY c).2.2 = len) (hl2 : len ≤ 2000) : ∃ N', fJ7_fill_53178 N c x = rV N' ∧ N'.2 = N.2 ∧ (∀ d, d ≠ c → N'.1 d = N.1 d) ∧ ∀ j, j < len → N'.1 c j = x := by
  unfold fJ7_fill_53178
  rw [hl]
  exact c_fillI hl hl2 len FU 0 N (FU_lt (by omega)) (Nat.zero_add len) (fun j hj => absurd hj (Nat.not_lt_zero _))
theorem c_begin {x : Int32} (hP : v_isP p) : ∃ N', fX3_begin N p x = rV N' ∧ N'.2 = N.2 ∧ (∀ d, (d < p ∨ p + 5 < d) → N'.1 d = N.1 d) ∧ N'.1 p 0 = x ∧ (∀ j, 1 ≤ j → j ≤ 6 → N'.1 p j = 0) ∧ (∀ j, j < 12 → N'.1 (p + 4) j = 0 ∧ N'.1 (p + 5) j = 0) := by
  have l4 : (v_LAY (p + 4)).2.2 = 12 := by rw [(v_LP hP).2.2.1.2.2.2.1]
  have l5 : (v_LAY (p + 5)).2.2 = 12 := by rw [(v_LP hP).2.2.1.2.2.2.2]
  unfold fX3_begin
  generalize hQ : v_si (v_si (v_si (v_si (v_si (v_si (v_si N p 0 x) p 1 0) p 2 0) p 3 0) p 4 0) p 5 0) p 6 0 = Q
  obtain ⟨N1, a1, a2, a3, a4⟩ := c_fill0 (N := Q) (x := 0) l4 (by decide)
  obtain ⟨N2, b1, b2, b3, b4⟩ := c_fill0 (N := N1) (x := 0) l5 (by decide)
  have qo : ∀ d, d ≠ p → Q.1 d = N.1 d := fun d hd => by rw [← hQ, si_c hd, si_c hd, si_c hd, si_c hd, si_c hd, si_c hd, si_c hd]
  refine ⟨N2, by rw [a1, bv_V, b1, bv_V], by rw [b2, a2, ← hQ]; rfl, fun d hd => by rw [b3 d (by omega), a3 d (by omega), qo d (by omega)], ?_, fun j j1 j2 => ?_, fun j hj => ⟨by rw [b3 (p + 4) (by omega)]; exact a4 j hj, b4 j hj⟩⟩
  · rw [b3 p (by omega), a3 p (by omega), ← hQ, si_n (by decide), si_n (by decide), si_n (by decide), si_n (by decide), si_n (by decide), si_n (by decide), si_s]
  · rw [b3 p (by omega), a3 p (by omega), ← hQ]
    rcases (show j = 1 ∨ j = 2 ∨ j = 3 ∨ j = 4 ∨ j = 5 ∨ j = 6 by omega) with rfl | rfl | rfl | rfl | rfl | rfl
    · rw [si_n (by decide), si_n (by decide), si_n (by decide), si_n (by decide), si_n (by decide), si_s]
    · rw [si_n (by decide), si_n (by decide), si_n (by decide), si_n (by decide), si_s]
    · rw [si_n (by decide), si_n (by decide), si_n (by decide), si_s]
    · rw [si_n (by decide), si_n (by decide), si_s]
    · rw [si_n (by decide), si_s]
    · rw [si_s]
/-- the law's fields alone may change -/
def frW (p : Nat) (N N' : vM) : Prop := N'.2 = N.2 ∧ (∀ c, c ≠ 3 → c ≠ p → N'.1 c = N.1 c) ∧ (∀ j, j ≠ 2 → j ≠ 3 → N'.1 p j = N.1 p j) ∧ N'.1 3 8 = N.1 3 8
def frV (r : Nat) (S S' : vM) : Prop := S'.2 = S.2 ∧ (∀ c, c ≠ 130 → c ≠ 134 → c ≠ 135 → S'.1 c = S.1 c) ∧ (∀ c j, (c = 134 ∨ c = 135) → j ≠ r → S'.1 c j = S.1 c j) ∧ ∀ j, (j < 32 ∨ 39 < j) → S'.1 130 j = S.1 130 j
theorem frW_t {N1 N2 N3 : vM} (h1 : frW p N1 N2) (h2 : frW p N2 N3) : frW p N1 N3 := ⟨h2.1.trans h1.1, fun c i1 i2 => (h2.2.1 c i1 i2).trans (h1.2.1 c i1 i2), fun j i1 i2 => (h2.2.2.1 j i1 i2).trans (h1.2.2.1 j i1 i2), h2.2.2.2.trans h1.2.2.2⟩
theorem frV_t {S1 S2 S3 : vM} (h1 : frV r S1 S2) (h2 : frV r S2 S3) : frV r S1 S3 := ⟨h2.1.trans h1.1, fun c i1 i2 i3 => (h2.2.1 c i1 i2 i3).trans (h1.2.1 c i1 i2 i3), fun c j i1 i2 => (h2.2.2.1 c j i1 i2).trans (h1.2.2.1 c j i1 i2), fun j i1 => (h2.2.2.2 j i1).trans (h1.2.2.2 j i1)⟩
theorem frW_A {N' : vM} (h : frA N N') (hp : p ≠ 3) : frW p N N' := ⟨h.1, fun c i1 _ => h.2.1 c i1, fun j _ _ => by rw [h.2.1 p hp], h.2.2⟩
theorem frV_B {S' : vM} (h : frB S S') : frV r S S' := ⟨h.1, fun c i1 _ _ => h.2.1 c i1, fun c j i1 _ => by rw [h.2.1 c (by omega)], h.2.2⟩
theorem frW_s {j : Nat} {x : Int32} (hp : p ≠ 3) (hj : j = 2 ∨ j = 3) : frW p N (v_si N p j x) := ⟨rfl, fun c _ i2 => si_c i2, fun k i1 i2 => si_n (by omega), by rw [si_c (fun z => hp z.symm)]⟩
theorem frV_s {c : Nat} {x : Int32} (hc : c = 134 ∨ c = 135) : frV r S (v_si S c r x) := ⟨rfl, fun d i1 i2 i3 => si_c (by omega), fun d j i1 i2 => by
  show (if d = c ∧ j = r then x else S.1 d j) = S.1 d j
  rw [if_neg (by omega)], fun j hj => by rw [si_c (by omega)]⟩
def lawO (N S : vM) (p r : Nat) : Prop := ∃ lw ot, N.1 p 2 = nI lw ∧ N.1 p 3 = nI ot ∧ S.1 134 r = nI lw ∧ S.1 135 r = nI ot ∧ lw ≤ 2 ∧ ot ≤ 9 ∧ (lw = 2 → 1 ≤ ot)
theorem rdLaw (hP : v_isP p) (hr : r < 12) (h : gd N S L b t e q) (h2 : N.1 p 2 = 0) (h3 : N.1 p 3 = 0) :
    ∃ N' S' x, fX4_readLaw N p = rI x N' ∧ fX11_readSame S (nI r) = rV S' ∧ frW p N N' ∧ frV r S S' ∧ ((x = 1 ∧ (∃ t' e' q', gd N' S' L b t' e' q' ∧ e ≤ e') ∧ lawO N' S' p r) ∨ (x = 0 ∧ bd N' S')) := by
  have hpb := v_isP_b hP
  have hee0 : e ≤ q := h.1.2.2.2.2.2.2.2.2.2.2.2.2.2.1
  have v12 : v_in (nI r) 12 = true := v_in_nI (by omega) (by decide)
  have hcl : (nI r).toNatClampNeg = r := nI_clamp (by omega)
  generalize hQ : v_si (v_si S 134 r 0) 135 r 0 = Q
  have gQ : gd N Q L b t e q := by rw [← hQ]; exact gd_Q (gd_Q h (by decide)) (by decide)
  have fQ : frV r S Q := by rw [← hQ]; exact frV_t (frV_s (Or.inl rfl)) (frV_s (Or.inr rfl))
  have Q4 : Q.1 134 r = nI 0 := by rw [← hQ, si_c (by decide), si_s, nI_0]
  have Q5 : Q.1 135 r = nI 0 := by rw [← hQ, si_s, nI_0]
  unfold fX4_readLaw fX11_readSame
  rw [if_pos v12, if_pos v12, hcl, hQ, c_isW gQ.1 (id := 3) (by decide), bi_I]
  unfold fX11_passes
  rw [r_isW gQ (id := 3) (by decide), bi_I]
  by_cases w3 : wdB b t e q 3 = true
  · obtain ⟨N1, S1, t1, e1, q1, a1, a2, a3, a4, a5, a6⟩ := adv gQ
    have hee : e1 ≤ q1 := a5.1.2.2.2.2.2.2.2.2.2.2.2.2.2.1
    rw [if_pos w3, if_neg (show ¬ (1 : Int32) = 0 by decide), if_neg (show ¬ (1 : Int32) = 0 by decide), a1, bv_V, a2, bv_V, if_pos v_nz1, bi_I, if_neg (show ¬ (1 : Int32) = 0 by decide), c_isW a5.1 (id := 4) (by decide), bi_I, r_isW a5 (id := 4) (by decide), bi_I]
    have f1 : frW p N N1 := frW_A a3 (by omega)
    have g1 : frV r S S1 := frV_t fQ (frV_B a4)
    by_cases w4 : wdB b t1 e1 q1 4 = true
    · have gU : gd (v_si N1 p 2 1) S1 L b t1 e1 q1 := gd_P (p' := 0) a5 (by omega)
      obtain ⟨N2, S2, t2, e2, q2, b1, b2, b3, b4, b5, b6⟩ := adv gU
      rw [if_pos w4, if_neg (show ¬ (1 : Int32) = 0 by decide), if_neg (show ¬ (1 : Int32) = 0 by decide), b1, bv_V, b2, bv_V, if_pos v_nz1, bi_I, if_neg (show ¬ (1 : Int32) = 0 by decide), if_pos v12]
      refine ⟨N2, v_si S2 134 r 1, 1, rfl, rfl, frW_t f1 (frW_t (frW_s (by omega) (Or.inl rfl)) (frW_A b3 (by omega))), frV_t g1 (frV_t (frV_B b4) (frV_s (Or.inl rfl))), Or.inl ⟨rfl, ⟨t2, e2, q2, gd_Q b5 (by decide), by omega⟩, 1, 0, ?_, ?_, ?_, ?_, by decide, by decide, by decide⟩⟩
      · rw [b3.2.1 p (by omega), si_s]; rfl
      · rw [b3.2.1 p (by omega), si_n (by decide), a3.2.1 p (by omega), h3, nI_0]
      · rw [si_s]; rfl
      · rw [si_c (by decide), b4.2.1 135 (by decide), a4.2.1 135 (by decide), Q5]
    · rw [if_neg w4, if_pos (show (0 : Int32) = 0 from rfl), if_pos (show (0 : Int32) = 0 from rfl), if_pos (show v_nz 0 = 0 by decide), bi_I, if_pos (show (0 : Int32) = 0 from rfl), c_isW a5.1 (id := 5) (by decide), bi_I, if_pos a5.2.2, r_isW a5 (id := 5) (by decide), bi_I]
      by_cases w5 : wdB b t1 e1 q1 5 = true
      · have gU : gd (v_si N1 p 2 2) S1 L b t1 e1 q1 := gd_P (p' := 0) a5 (by omega)
        obtain ⟨N2, S2, t2, e2, q2, b1, b2, b3, b4, b5, b6⟩ := adv gU
        have hee2 : e2 ≤ q2 := b5.1.2.2.2.2.2.2.2.2.2.2.2.2.2.1
        have gV : gd N2 (v_si S2 134 r 2) L b t2 e2 q2 := gd_Q b5 (by decide)
        obtain ⟨N3, S3, x, y, c1, c2, c3, c4, c5⟩ := rdNum gV (lo := 1) (hi := 9) (by decide) (by decide)
        have F3 : frW p N (v_si N3 p 3 x) := frW_t f1 (frW_t (frW_s (by omega) (Or.inl rfl)) (frW_t (frW_A b3 (by omega)) (frW_t (frW_A c3 (by omega)) (frW_s (by omega) (Or.inr rfl)))))
        have G3 : frV r S (v_si S3 135 r y) := frV_t g1 (frV_t (frV_B b4) (frV_t (frV_s (Or.inl rfl)) (frV_t (frV_B c4) (frV_s (Or.inr rfl)))))
        rw [if_pos w5, if_neg (show ¬ (1 : Int32) = 0 by decide), if_neg (show ¬ (1 : Int32) = 0 by decide), b1, bv_V, show fX4_readNumber N2 1 9 = rI x N3 from c1, bi_I]
        unfold fX11_readSame_64 fX11_readSame_75
        rw [if_pos a5.2.2, b2, bv_V, if_pos v12, hcl, show fX11_readNumber (v_si S2 134 r 2) 1 9 = rI y S3 from c2, bi_I, if_pos v12, si_c (show (3 : Nat) ≠ p by omega)]
        rcases c5 with ⟨v, t3, e3, q3, rfl, rfl, v1, v2, d1, d2⟩ | hbad
        · rw [if_pos d1.2.1]
          refine ⟨_, _, 1, rfl, rfl, F3, G3, Or.inl ⟨rfl, ⟨t3, e3, q3, gd_P (p' := 0) (gd_Q d1 (by decide)) (by omega), by omega⟩, 2, v, ?_, ?_, ?_, ?_, by decide, v2, fun _ => v1⟩⟩
          · rw [si_n (by decide), c3.2.1 p (by omega), b3.2.1 p (by omega), si_s]; rfl
          · rw [si_s]
          · rw [si_c (by decide), c4.2.1 134 (by decide), si_s]; rfl
          · rw [si_s]
        · rw [if_neg (bd_b hbad).2]
          exact ⟨_, _, 0, rfl, rfl, F3, G3, Or.inr ⟨rfl, bd_P (bd_Q hbad (by decide)) (by omega)⟩⟩
      · have hb := mkbad a5 (k := 1) (by decide) (by decide)
        have nb := bd_b hb.2.2.1
        rw [if_neg w5, if_pos (show (0 : Int32) = 0 from rfl), if_pos (show (0 : Int32) = 0 from rfl), show fX4_fail N1 1 = rI 0 (v_si N1 3 7 (nI 1)) from hb.1, bi_I, if_pos (show v_nz 0 = 0 by decide), show fX11_wrong S1 1 = rV (v_si (v_si S1 130 38 (nI 1)) 130 39 (nI e1)) from hb.2.1, bv_V]
        unfold fX11_readSame_64 fX11_readSame_75
        rw [if_neg nb.1, if_pos v12, hcl, b_num (by rw [si_c (by decide)]; exact nb.1), bi_I, if_pos v12]
        exact ⟨_, _, 0, rfl, rfl, frW_t f1 (frW_A hb.2.2.2.1 (by omega)), frV_t g1 (frV_t (frV_B hb.2.2.2.2) (frV_t (frV_s (Or.inl rfl)) (frV_s (Or.inr rfl)))), Or.inr ⟨rfl, bd_Q (bd_Q hb.2.2.1 (by decide)) (by decide)⟩⟩
  · rw [if_neg w3, if_pos (show (0 : Int32) = 0 from rfl), if_pos (show (0 : Int32) = 0 from rfl), if_pos (show v_nz 0 = 0 by decide), bi_I, if_pos (show (0 : Int32) = 0 from rfl)]
    exact ⟨N, Q, 1, rfl, rfl, frW_A (frA_r N) (by omega), fQ, Or.inl ⟨rfl, ⟨t, e, q, gQ, Nat.le_refl e⟩, 0, 0, by rw [h2, nI_0], by rw [h3, nI_0], Q4, Q5, by decide, by decide, by decide⟩⟩
theorem b_same (hr : r < 12) (hb : ¬ S.1 130 38 = 0) : ∃ S', fX11_readSame S (nI r) = rV S' ∧ frV r S S' ∧ S'.1 130 = S.1 130 := by
  have v12 : v_in (nI r) 12 = true := v_in_nI (by omega) (by decide)
  have hcl : (nI r).toNatClampNeg = r := nI_clamp (by omega)
  refine ⟨v_si (v_si S 134 r 0) 135 r 0, ?_, frV_t (frV_s (Or.inl rfl)) (frV_s (Or.inr rfl)), by rw [si_c (by decide), si_c (by decide)]⟩
  unfold fX11_readSame
  rw [if_pos v12, if_pos v12, hcl, b_pass (by rw [si_c (by decide), si_c (by decide)]; exact hb), bi_I, if_pos rfl]
end P57
