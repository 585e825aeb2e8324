section P51
variable {N S : vM} {L p : Nat} {b : Nat → Nat}
/-! the reference's stepOn -/
theorem r_let {x : Nat} (h : x ≤ 255) : fX11_isLetter S (nI x) = rI (if kO x = 1 then 1 else 0) S := by
  unfold fX11_isLetter kO
  by_cases q1 : x < 97
  · rw [if_pos (show nI x < 97 from nI_lt q1 (by decide)), if_neg (show ¬ (97 ≤ x ∧ x ≤ 122) by omega)]
    by_cases q2 : 48 ≤ x ∧ x ≤ 57
    · rw [if_pos q2]; rfl
    · rw [if_neg q2]
      by_cases q3 : x = 59
      · rw [if_pos q3]; rfl
      · rw [if_neg q3]; rfl
  · rw [if_neg (show ¬ nI x < 97 from nI_nlt (show 97 ≤ x by omega) (by omega))]
    by_cases q2 : x ≤ 122
    · rw [if_neg (show ¬ (122 : Int32) < nI x from nI_nlt q2 (by decide)), if_pos (show 97 ≤ x ∧ x ≤ 122 by omega)]; rfl
    · rw [if_pos (show (122 : Int32) < nI x from nI_lt (show 122 < x by omega) (by omega)), if_neg (show ¬ (97 ≤ x ∧ x ≤ 122) by omega), if_neg (show ¬ (48 ≤ x ∧ x ≤ 57) by omega), if_neg (show ¬ x = 59 by omega)]; rfl
theorem r_dig {x : Nat} (h : x ≤ 255) : fX11_isDigit S (nI x) = rI (if kO x = 2 then 1 else 0) S := by
  unfold fX11_isDigit kO
  by_cases q1 : x < 48
  · rw [if_pos (show nI x < 48 from nI_lt q1 (by decide)), if_neg (show ¬ (97 ≤ x ∧ x ≤ 122) by omega), if_neg (show ¬ (48 ≤ x ∧ x ≤ 57) by omega), if_neg (show ¬ x = 59 by omega)]; rfl
  · rw [if_neg (show ¬ nI x < 48 from nI_nlt (show 48 ≤ x by omega) (by omega))]
    by_cases q2 : x ≤ 57
    · rw [if_neg (show ¬ (57 : Int32) < nI x from nI_nlt q2 (by decide)), if_neg (show ¬ (97 ≤ x ∧ x ≤ 122) by omega), if_pos (show 48 ≤ x ∧ x ≤ 57 by omega)]; rfl
    · rw [if_pos (show (57 : Int32) < nI x from nI_lt (show 57 < x by omega) (by omega))]
      by_cases q3 : 97 ≤ x ∧ x ≤ 122
      · rw [if_pos q3]; rfl
      · rw [if_neg q3, if_neg (show ¬ (48 ≤ x ∧ x ≤ 57) by omega)]
        by_cases q4 : x = 59
        · rw [if_pos q4]; rfl
        · rw [if_neg q4]; rfl
theorem r_letN : fX11_isLetter S (-1) = rI 0 S := by
  unfold fX11_isLetter
  rw [if_pos (by decide)]
theorem r_digN : fX11_isDigit S (-1) = rI 0 S := by
  unfold fX11_isDigit
  rw [if_pos (by decide)]
theorem r_wd (hL : L ≤ 700) : ∀ (n f p : Nat) (S : vM), n < f → p + n = L → tpS S L b → S.1 130 33 = nI L → S.1 130 32 = nI p → fX11_stepOn_76 f S = rV (v_si (v_si (v_si S 130 32 (nI (runF isL b n p))) 130 34 1) 130 37 (nI (runF isL b n p))) := by
  have stop : ∀ (r : Nat) (S : vM), S.1 130 32 = nI r → rV (v_si (v_si S 130 34 1) 130 37 ((v_si S 130 34 1).1 130 32)) = rV (v_si (v_si (v_si S 130 32 (nI r)) 130 34 1) 130 37 (nI r)) := fun r S h => by
    rw [si_n (by decide), h, si_id h]
  intro n
  induction n with
  | zero =>
    intro f p S hf hp hT h3 h2
    cases f with
    | zero => exact absurd hf (Nat.not_lt_zero _)
    | succ f =>
      unfold fX11_stepOn_76
      rw [h2, r_byteE hL h3 (by omega), bi_I, r_letN, bi_I, if_pos rfl]
      exact stop p S h2
  | succ n ih =>
    intro f p S hf hp hT h3 h2
    cases f with
    | zero => exact absurd hf (Nat.not_lt_zero _)
    | succ f =>
      have hb := (hT.2 p (by omega)).1
      have e : runF isL b (n + 1) p = if isL (b p) = true then runF isL b n (p + 1) else p := rfl
      rw [fX11_stepOn_76, h2, r_byte hT h3 (by omega), bi_I, r_let hb, bi_I]
      by_cases q : kO (b p) = 1
      · have er : runF isL b (n + 1) p = runF isL b n (p + 1) := by rw [e, if_pos (show isL (b p) = true from decide_eq_true q)]
        rw [if_pos q, if_neg (show ¬ (1 : Int32) = 0 by decide), h2, nI_1, er, ih f (p + 1) _ (by omega) (by omega) (tpS_fr hT (frB_s (by decide) (by decide))) (by rw [si_n (by decide)]; exact h3) si_s, si_si]
      · have er : runF isL b (n + 1) p = p := by rw [e, if_neg (by unfold isL; rw [decide_eq_false q]; decide)]
        rw [if_neg q, if_pos rfl, er]
        exact stop p S h2
theorem kO_dg {x : Nat} (h : kO x = 2) : 48 ≤ x ∧ x ≤ 57 := by
  unfold kO at h
  split at h
  · omega
  · split at h
    · assumption
    · split at h <;> omega
theorem vl4_s {e n : Nat} (h : n < 4) : vl4 b e (n + 1) = vl4 b e n * 10 + (b (e + n) - 48) := if_pos h
theorem vl4_le {e : Nat} : ∀ n, n ≤ 4 → (∀ k, e ≤ k → k < e + n → kO (b k) = 2) → vl4 b e n + 1 ≤ 10 ^ n
  | 0, _, _ => Nat.le_refl _
  | n + 1, h1, h2 => by
    have ih := vl4_le (e := e) n (by omega) (fun k a c => h2 k a (by omega))
    have hd := kO_dg (h2 (e + n) (by omega) (by omega))
    rw [vl4_s (by omega), Nat.pow_succ]
    omega
theorem vl4_9 {e n : Nat} (h1 : n ≤ 4) (h2 : ∀ k, e ≤ k → k < e + n → kO (b k) = 2) : vl4 b e n ≤ 9999 := by
  have h := vl4_le n h1 h2
  have h3 : 10 ^ n ≤ 10 ^ 4 := Nat.pow_le_pow_right (by decide) h1
  have h4 : (10 : Nat) ^ 4 = 10000 := by decide
  omega
theorem r_dg (hL : L ≤ 700) {e : Nat} : ∀ (n f p : Nat) (S : vM), n < f → p + n = L → e ≤ p → (∀ k, e ≤ k → k < p → kO (b k) = 2) → tpS S L b → S.1 130 33 = nI L → S.1 130 32 = nI p → (p - e ≤ 4 → S.1 130 35 = nI (vl4 b e (p - e))) →
    ∃ S', fX11_stepOn_123 f S = rV S' ∧ frB S S' ∧ (∀ j, j ≠ 32 → j ≠ 34 → j ≠ 35 → j ≠ 37 → S'.1 130 j = S.1 130 j) ∧ S'.1 130 32 = nI (runF isD b n p) ∧ S'.1 130 37 = nI (runF isD b n p) ∧ S'.1 130 34 = 2 ∧ (runF isD b n p - e ≤ 4 → S'.1 130 35 = nI (vl4 b e (runF isD b n p - e))) := by
  have stop : ∀ (r : Nat) (S : vM), S.1 130 32 = nI r → (r - e ≤ 4 → S.1 130 35 = nI (vl4 b e (r - e))) → ∃ S', rV (v_si (v_si S 130 34 2) 130 37 ((v_si S 130 34 2).1 130 32)) = rV S' ∧ frB S S' ∧ (∀ j, j ≠ 32 → j ≠ 34 → j ≠ 35 → j ≠ 37 → S'.1 130 j = S.1 130 j) ∧ S'.1 130 32 = nI r ∧ S'.1 130 37 = nI r ∧ S'.1 130 34 = 2 ∧ (r - e ≤ 4 → S'.1 130 35 = nI (vl4 b e (r - e))) := fun r S h hv => by
    refine ⟨_, rfl, frB_t (frB_s (by decide) (by decide)) (frB_s (by decide) (by decide)), fun j j1 j2 j3 j4 => by rw [si_n j4, si_n j2], ?_, ?_, ?_, fun h9 => ?_⟩
    · rw [si_n (by decide), si_n (by decide), h]
    · rw [si_s, si_n (by decide), h]
    · rw [si_n (by decide), si_s]
    · rw [si_n (by decide), si_n (by decide)]; exact hv h9
  intro n
  induction n with
  | zero =>
    intro f p S hf hp he hd hT h3 h2 hv
    cases f with
    | zero => exact absurd hf (Nat.not_lt_zero _)
    | succ f =>
      unfold fX11_stepOn_123
      rw [h2, r_byteE hL h3 (by omega), bi_I, r_digN, bi_I, if_pos rfl]
      exact stop p S h2 hv
  | succ n ih =>
    intro f p S hf hp he hd hT h3 h2 hv
    cases f with
    | zero => exact absurd hf (Nat.not_lt_zero _)
    | succ f =>
      have hb := (hT.2 p (by omega)).1
      have er0 : runF isD b (n + 1) p = if isD (b p) = true then runF isD b n (p + 1) else p := rfl
      rw [fX11_stepOn_123, h2, r_byte hT h3 (by omega), bi_I, r_dig hb, bi_I]
      by_cases q : kO (b p) = 2
      · have er : runF isD b (n + 1) p = runF isD b n (p + 1) := by rw [er0, if_pos (show isD (b p) = true from decide_eq_true q)]
        have hq := kO_dg q
        rw [if_pos q, if_neg (show ¬ (1 : Int32) = 0 by decide), h2, r_byte hT h3 (by omega), bi_I, er]
        generalize hx : (if 10 * S.1 130 35 + nI (b p) - 48 < 100000 then 10 * S.1 130 35 + nI (b p) - 48 else 100000 : Int32) = x
        have hdn : ∀ k, e ≤ k → k < p + 1 → kO (b k) = 2 := fun k a c => by
          by_cases z : k = p
          · rw [z]; exact q
          · exact hd k a (by omega)
        have e32 : (v_si S 130 35 x).1 130 32 = nI p := by rw [si_n (by decide)]; exact h2
        obtain ⟨S', y1, y2, y3, y4⟩ := ih f (p + 1) (v_si (v_si S 130 35 x) 130 32 (nI (p + 1))) (by omega) (by omega) (by omega) hdn (tpS_fr hT (frB_t (frB_s (by decide) (by decide)) (frB_s (by decide) (by decide)))) (by rw [si_n (by decide), si_n (by decide)]; exact h3) si_s (fun h9 => by
          rw [si_n (by decide), si_s, ← hx, hv (by omega), show (10 : Int32) * nI (vl4 b e (p - e)) = nI (10 * vl4 b e (p - e)) from nI_mul 10 _, nI_add, show nI (10 * vl4 b e (p - e) + b p) - 48 = nI (10 * vl4 b e (p - e) + b p - 48) from nI_sub (b := 48) (by omega)]
          have hl := vl4_9 (b := b) (e := e) (n := p - e) (by omega) (fun k a c => hd k a (by omega))
          have hl2 : 10 * vl4 b e (p - e) + b p - 48 < 100000 := by omega
          rw [if_pos (show nI (10 * vl4 b e (p - e) + b p - 48) < 100000 from nI_lt hl2 (by decide)), show p + 1 - e = (p - e) + 1 by omega, vl4_s (by omega), show e + (p - e) = p by omega]
          congr 1
          omega)
        refine ⟨S', ?_, frB_t (frB_t (frB_s (by decide) (by decide)) (frB_s (by decide) (by decide))) y2, fun j j1 j2 j3 j4 => by rw [y3 j j1 j2 j3 j4, si_n j1, si_n j3], y4⟩
        rw [e32, nI_1]
        exact y1
      · have er : runF isD b (n + 1) p = p := by rw [er0, if_neg (by unfold isD; rw [decide_eq_false q]; decide)]
        rw [if_neg q, if_pos rfl, er]
        exact stop p S h2 hv
theorem r_sk (hT : tpS S L b) (h3 : S.1 130 33 = nI L) : ∀ (n f p : Nat), n < f → p + n = L → ∃ f', fX11_stepOn_0 f (v_si S 130 32 (nI p)) = fX11_stepOn_0 (f' + 1) (v_si S 130 32 (nI (runF isB b n p))) := by
  intro n
  induction n with
  | zero =>
    intro f p hf hp
    cases f with
    | zero => exact absurd hf (Nat.not_lt_zero _)
    | succ f => exact ⟨f, rfl⟩
  | succ n ih =>
    intro f p hf hp
    cases f with
    | zero => exact absurd hf (Nat.not_lt_zero _)
    | succ f =>
      have hb := (hT.2 p (by omega)).1
      have e : runF isB b (n + 1) p = if isB (b p) = true then runF isB b n (p + 1) else p := rfl
      have hT2 : tpS (v_si S 130 32 (nI p)) L b := tpS_fr hT (frB_s (by decide) (by decide))
      have g3 : (v_si S 130 32 (nI p)).1 130 33 = nI L := by rw [si_n (by decide)]; exact h3
      have eby := r_byte hT2 g3 (show p < L by omega)
      by_cases q : isB (b p) = true
      · obtain ⟨f', hf'⟩ := ih f (p + 1) (by omega) (by omega)
        refine ⟨f', ?_⟩
        rw [e, if_pos q, ← hf', fX11_stepOn_0, si_s, eby, bi_I]
        by_cases q2 : b p = 32
        · rw [if_pos (show nI (b p) = 32 by rw [q2]; rfl), si_s, si_si, nI_1]
        · have q3 : b p = 10 := by
            unfold isB at q
            rw [Bool.or_eq_true, decide_eq_true_eq, decide_eq_true_eq] at q
            exact q.resolve_left q2
          rw [if_neg (show ¬ nI (b p) = 32 from fun z => q2 ((nI_eq (b := 32) (by omega) (by decide)).mp z)), si_s, eby, bi_I, if_pos (show nI (b p) = 10 by rw [q3]; rfl), si_s, si_si, nI_1]
      · exact ⟨f, by rw [e, if_neg q]⟩
theorem r_adv (hT : tpS S L b) (h3 : S.1 130 33 = nI L) (h2 : S.1 130 32 = nI p) (hp : p ≤ L) : ∃ S', fX11_stepOn S = rV S' ∧ frB S S' ∧ S'.1 130 33 = nI L ∧ S'.1 130 38 = S.1 130 38 ∧ S'.1 130 39 = S.1 130 39 ∧ S'.1 130 36 = nI (tkB b L p) ∧ S'.1 130 34 = nI (tkT b L (tkB b L p)) ∧ S'.1 130 32 = nI (tkE b L (tkB b L p)) ∧ S'.1 130 37 = nI (tkE b L (tkB b L p)) ∧
    (tkT b L (tkB b L p) = 2 → tkE b L (tkB b L p) - tkB b L p ≤ 4 → S'.1 130 35 = nI (vl4 b (tkB b L p) (tkE b L (tkB b L p) - tkB b L p))) := by
  have hL := hT.1
  obtain ⟨f', hs⟩ := r_sk hT h3 (L - p) FU p (FU_lt (by omega)) (by omega)
  rw [si_id h2] at hs
  have he := run_le (q := isB) (b := b) (L - p) p
  have hnb : runF isB b (L - p) p < L → isB (b (runF isB b (L - p) p)) = false := by
    have key : ∀ n p, runF isB b n p < p + n → isB (b (runF isB b n p)) = false := by
      intro n
      induction n with
      | zero =>
        intro p h
        have : p < p := h
        omega
      | succ n ih =>
        intro p h
        have e : runF isB b (n + 1) p = if isB (b p) = true then runF isB b n (p + 1) else p := rfl
        by_cases q : isB (b p) = true
        · rw [e, if_pos q] at h ⊢
          exact ih (p + 1) (by omega)
        · rw [e, if_neg q]
          exact ts_nt q
    intro h
    exact key (L - p) p (by omega)
  generalize hE : tkB b L p = e
  have hE2 : runF isB b (L - p) p = e := hE
  rw [hE2] at hs he hnb
  generalize hQ : v_si S 130 32 (nI e) = Q at hs
  have hTQ : tpS Q L b := by rw [← hQ]; exact tpS_fr hT (frB_s (by decide) (by decide))
  have g3 : Q.1 130 33 = nI L := by rw [← hQ, si_n (by decide)]; exact h3
  have g2 : Q.1 130 32 = nI e := by rw [← hQ, si_s]
  have fQ : frB S Q := by rw [← hQ]; exact frB_s (by decide) (by decide)
  have jQ : ∀ j, j ≠ 32 → Q.1 130 j = S.1 130 j := fun j hj => by rw [← hQ, si_n hj]
  generalize hR : v_si Q 130 36 (nI e) = R
  have hTR : tpS R L b := by rw [← hR]; exact tpS_fr hTQ (frB_s (by decide) (by decide))
  have k3 : R.1 130 33 = nI L := by rw [← hR, si_n (by decide)]; exact g3
  have k2 : R.1 130 32 = nI e := by rw [← hR, si_n (by decide)]; exact g2
  have k6 : R.1 130 36 = nI e := by rw [← hR, si_s]
  have fR : frB S R := by rw [← hR]; exact frB_t fQ (frB_s (by decide) (by decide))
  have jR : ∀ j, j ≠ 32 → j ≠ 36 → R.1 130 j = S.1 130 j := fun j j1 j2 => by rw [← hR, si_n j2, jQ j j1]
  have e0 : fX11_stepOn S = fX11_stepOn_0 (f' + 1) Q := hs
  by_cases q : e < L
  · have hb := (hT.2 e q).1
    have hk := kO_lt (b e)
    have hnb2 := hnb q
    unfold isB at hnb2
    rw [Bool.or_eq_false_iff, decide_eq_false_iff_not, decide_eq_false_iff_not] at hnb2
    have n32 : ¬ nI (b e) = 32 := fun z => hnb2.1 ((nI_eq (b := 32) (by omega) (by decide)).mp z)
    have n10 : ¬ nI (b e) = 10 := fun z => hnb2.2 ((nI_eq (b := 10) (by omega) (by decide)).mp z)
    have tT : tkT b L e = kO (b e) := if_pos q
    have e1 : fX11_stepOn S = if (if kO (b e) = 1 then (1 : Int32) else 0) = 0 then bi (fX11_isDigit R (nI (b e))) fun y51 M52 => if y51 = 0 then if nI (b e) = 59 then rV (v_si (v_si (v_si M52 130 32 ((M52.1 130 32) + 1)) 130 34 3) 130 37 ((v_si (v_si M52 130 32 ((M52.1 130 32) + 1)) 130 34 3).1 130 32)) else rV (v_si (v_si (v_si M52 130 32 ((M52.1 130 32) + 1)) 130 34 4) 130 37 ((v_si (v_si M52 130 32 ((M52.1 130 32) + 1)) 130 34 4).1 130 32)) else fX11_stepOn_123 FU (v_si M52 130 35 0) else fX11_stepOn_76 FU R := by
      rw [e0, fX11_stepOn_0, g2, r_byte hTQ g3 q, bi_I, if_neg n32, g2, r_byte hTQ g3 q, bi_I, if_neg n10, g2, hR, k2, r_byte hTR k3 q, bi_I, if_neg (nI_ne1 (by omega)), r_let hb, bi_I]
    rw [tT]
    by_cases k1 : kO (b e) = 1
    · have tE : tkE b L e = runF isL b (L - e) e := by
        unfold tkE
        rw [if_pos q, if_pos k1]
      have w := r_wd hL (L - e) FU e R (FU_lt (by omega)) (by omega) hTR k3 k2
      rw [tE]
      refine ⟨_, by rw [e1, if_pos k1, if_neg (show ¬ (1 : Int32) = 0 by decide)]; exact w, frB_t fR (frB_t (frB_s (by decide) (by decide)) (frB_t (frB_s (by decide) (by decide)) (frB_s (by decide) (by decide)))), ?_, ?_, ?_, ?_, ?_, ?_, si_s, fun z => by omega⟩
      · rw [si_n (by decide), si_n (by decide), si_n (by decide)]; exact k3
      · rw [si_n (by decide), si_n (by decide), si_n (by decide), jR 38 (by decide) (by decide)]
      · rw [si_n (by decide), si_n (by decide), si_n (by decide), jR 39 (by decide) (by decide)]
      · rw [si_n (by decide), si_n (by decide), si_n (by decide)]; exact k6
      · rw [si_n (by decide), si_s, k1]; rfl
      · rw [si_n (by decide), si_n (by decide), si_s]
    · rw [if_neg k1, if_pos rfl, r_dig hb, bi_I] at e1
      by_cases k9 : kO (b e) = 2
      · have tE : tkE b L e = runF isD b (L - e) e := by
          unfold tkE
          rw [if_pos q, if_neg k1, if_pos k9]
        obtain ⟨S', y1, y2, y3, y4, y5, y6, y7⟩ := r_dg (b := b) hL (e := e) (L - e) FU e (v_si R 130 35 0) (FU_lt (by omega)) (by omega) (Nat.le_refl e) (fun k a c => by omega) (tpS_fr hTR (frB_s (by decide) (by decide))) (by rw [si_n (by decide)]; exact k3) (by rw [si_n (by decide)]; exact k2) (fun _ => by rw [si_s, Nat.sub_self]; rfl)
        rw [tE]
        refine ⟨S', by rw [e1, if_pos k9, if_neg (show ¬ (1 : Int32) = 0 by decide)]; exact y1, frB_t fR (frB_t (frB_s (by decide) (by decide)) y2), ?_, ?_, ?_, ?_, ?_, y4, y5, fun _ => y7⟩
        · rw [y3 33 (by decide) (by decide) (by decide) (by decide), si_n (by decide)]; exact k3
        · rw [y3 38 (by decide) (by decide) (by decide) (by decide), si_n (by decide), jR 38 (by decide) (by decide)]
        · rw [y3 39 (by decide) (by decide) (by decide) (by decide), si_n (by decide), jR 39 (by decide) (by decide)]
        · rw [y3 36 (by decide) (by decide) (by decide) (by decide), si_n (by decide)]; exact k6
        · rw [y6, k9]; rfl
      · have tE : tkE b L e = e + 1 := by
          unfold tkE
          rw [if_pos q, if_neg k1, if_neg k9]
        rw [if_neg k9, if_pos rfl, k2, nI_1] at e1
        rw [tE]
        have fin : ∀ x : Int32, x = nI (kO (b e)) → fX11_stepOn S = rV (v_si (v_si (v_si R 130 32 (nI (e + 1))) 130 34 x) 130 37 ((v_si (v_si R 130 32 (nI (e + 1))) 130 34 x).1 130 32)) → ∃ S', fX11_stepOn S = rV S' ∧ frB S S' ∧ S'.1 130 33 = nI L ∧ S'.1 130 38 = S.1 130 38 ∧ S'.1 130 39 = S.1 130 39 ∧ S'.1 130 36 = nI e ∧ S'.1 130 34 = nI (kO (b e)) ∧ S'.1 130 32 = nI (e + 1) ∧ S'.1 130 37 = nI (e + 1) ∧ (kO (b e) = 2 → e + 1 - e ≤ 4 → S'.1 130 35 = nI (vl4 b e (e + 1 - e))) := fun x hx h9 => by
          refine ⟨_, h9, frB_t fR (frB_t (frB_s (by decide) (by decide)) (frB_t (frB_s (by decide) (by decide)) (frB_s (by decide) (by decide)))), ?_, ?_, ?_, ?_, ?_, ?_, ?_, fun z => absurd z k9⟩
          · rw [si_n (by decide), si_n (by decide), si_n (by decide)]; exact k3
          · rw [si_n (by decide), si_n (by decide), si_n (by decide), jR 38 (by decide) (by decide)]
          · rw [si_n (by decide), si_n (by decide), si_n (by decide), jR 39 (by decide) (by decide)]
          · rw [si_n (by decide), si_n (by decide), si_n (by decide)]; exact k6
          · rw [si_n (by decide), si_s, hx]
          · rw [si_n (by decide), si_n (by decide), si_s]
          · rw [si_s, si_n (by decide), si_s]
        by_cases k5 : b e = 59
        · rw [if_pos (show nI (b e) = 59 by rw [k5]; rfl)] at e1
          exact fin 3 (by rw [k5]; rfl) e1
        · rw [if_neg (show ¬ nI (b e) = 59 from fun z => k5 ((nI_eq (b := 59) (by omega) (by decide)).mp z))] at e1
          refine fin 4 ?_ e1
          have : kO (b e) = 4 := by
            unfold kO at k1 k9 ⊢
            split
            · rename_i z
              rw [if_pos z] at k1
              omega
            · rename_i z
              rw [if_neg z] at k9
              split
              · rename_i z2
                rw [if_pos z2] at k9
                omega
              · first | rfl | rw [if_neg k5]
          rw [this]
          rfl
  · have tT : tkT b L e = 0 := if_neg q
    have tE : tkE b L e = e := if_neg q
    rw [tT, tE]
    refine ⟨v_si (v_si R 130 34 0) 130 37 (nI e), ?_, frB_t fR (frB_t (frB_s (by decide) (by decide)) (frB_s (by decide) (by decide))), ?_, ?_, ?_, ?_, ?_, ?_, si_s, fun z => by omega⟩
    · rw [e0, fX11_stepOn_0, g2, r_byteE hL g3 (by omega), bi_I, if_neg (by decide), g2, r_byteE hL g3 (by omega), bi_I, if_neg (by decide), g2, hR, k2, r_byteE hL k3 (by omega), bi_I, if_pos rfl, si_n (by decide), k2]
    · rw [si_n (by decide), si_n (by decide)]; exact k3
    · rw [si_n (by decide), si_n (by decide), jR 38 (by decide) (by decide)]
    · rw [si_n (by decide), si_n (by decide), jR 39 (by decide) (by decide)]
    · rw [si_n (by decide), si_n (by decide)]; exact k6
    · rw [si_n (by decide), si_s]; rfl
    · rw [si_n (by decide), si_n (by decide)]; exact k2
end P51
