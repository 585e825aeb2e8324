section P50
variable {N S : vM} {L p : Nat} {b : Nat → Nat}
/-! bytes and what they are -/
def cB (x : Nat) : Int32 := ((nI x).toInt8).toInt32
def kO (x : Nat) : Nat := if 97 ≤ x ∧ x ≤ 122 then 1 else if 48 ≤ x ∧ x ≤ 57 then 2 else if x = 59 then 3 else 4
def k28 (v : Int32) : Int32 := if v = 59 then 3 else 4
def k14 (v : Int32) : Int32 := if v < 48 then k28 v else if 57 < v then k28 v else 2
def kC (v : Int32) : Int32 := if v < 97 then k14 v else if 122 < v then k14 v else 1
def bC (v : Int32) : Int32 := if v = 32 then 1 else if v = 10 then 1 else 0
def isB (x : Nat) : Bool := decide (x = 32) || decide (x = 10)
theorem byt_ok : ((List.range 256).all fun x => decide (kC (cB x) = nI (kO x)) && (decide (bC (cB x) = if isB x = true then 1 else 0) && (decide (128 ≤ x ∧ cB x < 0) || decide (x < 128 ∧ cB x = nI x)))) = true := by decide +kernel
theorem byt {x : Nat} (h : x ≤ 255) : kC (cB x) = nI (kO x) ∧ bC (cB x) = (if isB x = true then 1 else 0) ∧ (128 ≤ x ∧ cB x < 0 ∨ x < 128 ∧ cB x = nI x) := by
  have h2 := List.all_eq_true.mp byt_ok x (List.mem_range.mpr (by omega))
  simp only [Bool.and_eq_true, Bool.or_eq_true, decide_eq_true_eq] at h2
  exact h2
theorem k28_e {v : Int32} : fX4_kindOf_28 N v = rI (k28 v) N := by
  unfold fX4_kindOf_28 k28
  by_cases q : v = 59
  · rw [if_pos q, if_pos q]
  · rw [if_neg q, if_neg q]
theorem k14_e {v : Int32} : fX4_kindOf_14 N v = rI (k14 v) N := by
  unfold fX4_kindOf_14 k14
  by_cases q : v < 48
  · rw [if_pos q, if_pos q, k28_e]
  · by_cases q2 : 57 < v
    · rw [if_neg q, if_neg q, if_pos q2, if_pos q2, k28_e]
    · rw [if_neg q, if_neg q, if_neg q2, if_neg q2]
theorem kC_e {v : Int32} : fX4_kindOf N v = rI (kC v) N := by
  unfold fX4_kindOf kC
  by_cases q : v < 97
  · rw [if_pos q, if_pos q, k14_e]
  · by_cases q2 : 122 < v
    · rw [if_neg q, if_neg q, if_pos q2, if_pos q2, k14_e]
    · rw [if_neg q, if_neg q, if_neg q2, if_neg q2]
theorem bC_e {v : Int32} : fX4_isBlank N v = rI (bC v) N := by
  unfold fX4_isBlank bC
  by_cases q : v = 32
  · rw [if_pos q, if_pos q]
  · by_cases q2 : v = 10
    · rw [if_neg q, if_neg q, if_pos q2, if_pos q2]
    · rw [if_neg q, if_neg q, if_neg q2, if_neg q2]
/-- the first n bytes of the tape: class, reference -/
def tpC (N : vM) (L : Nat) (b : Nat → Nat) : Prop := L ≤ 700 ∧ ∀ k, k < L → b k ≤ 255 ∧ N.1 2 k = cB (b k)
def tpS (S : vM) (L : Nat) (b : Nat → Nat) : Prop := L ≤ 700 ∧ ∀ k, k < L → b k ≤ 255 ∧ S.1 157 k = nI (b k)
theorem c_byte {k : Nat} (h : tpC N L b) (hk : k < L) : fX8_byteAt N (nI k) = rI (cB (b k)) N := by
  have h1 := h.1
  unfold fX8_byteAt
  rw [if_neg (nI_pos (by omega)), if_neg (nI_ge (by omega) (by decide)), if_pos (v_in_nI (by omega) (by decide)), nI_clamp (by omega), (h.2 k hk).2]
theorem c_byteX {k : Nat} (hk : k ≤ 700) : ∃ y, fX8_byteAt N (nI k) = rI y N := by
  unfold fX8_byteAt
  rw [if_neg (nI_pos (by omega))]
  by_cases q : k < 700
  · rw [if_neg (nI_ge (by omega) (by decide)), if_pos (v_in_nI (by omega) (by decide))]
    exact ⟨_, rfl⟩
  · rw [if_pos (nI_le (by omega) (by omega))]
    exact ⟨_, rfl⟩
theorem r_byte {k : Nat} (h : tpS S L b) (h3 : S.1 130 33 = nI L) (hk : k < L) : fX11_byteAt S (nI k) = rI (nI (b k)) S := by
  have h1 := h.1
  unfold fX11_byteAt
  rw [h3, if_neg (nI_ge hk (by omega)), if_pos (v_in_nI (by omega) (by decide)), nI_clamp (by omega), (h.2 k hk).2]
theorem r_byteE {k : Nat} (h1 : L ≤ 700) (h3 : S.1 130 33 = nI L) (hk : k = L) : fX11_byteAt S (nI k) = rI (-1) S := by
  unfold fX11_byteAt
  rw [h3, hk, if_pos (nI_le (Nat.le_refl L) (by omega))]
/-- from p on, while it fulfils q, n at most -/
def runF (q : Nat → Bool) (b : Nat → Nat) : Nat → Nat → Nat
  | 0, p => p
  | n + 1, p => if q (b p) = true then runF q b n (p + 1) else p
theorem run_le {q : Nat → Bool} : ∀ n p, p ≤ runF q b n p ∧ runF q b n p ≤ p + n
  | 0, p => ⟨Nat.le_refl p, Nat.le_refl p⟩
  | n + 1, p => by
    have h := run_le (q := q) n (p + 1)
    show p ≤ (if q (b p) = true then runF q b n (p + 1) else p) ∧ (if q (b p) = true then runF q b n (p + 1) else p) ≤ p + (n + 1)
    split <;> omega
theorem run_all {q : Nat → Bool} : ∀ n p k, p ≤ k → k < runF q b n p → q (b k) = true
  | 0, p, k, h1, h2 => by
    have h3 : k < p := h2
    omega
  | n + 1, p, k, h1, h2 => by
    have h3 : k < (if q (b p) = true then runF q b n (p + 1) else p) := h2
    by_cases z : q (b p) = true
    · rw [if_pos z] at h3
      by_cases z2 : k = p
      · rw [z2]
        exact z
      · exact run_all n (p + 1) k (by omega) h3
    · rw [if_neg z] at h3
      omega
def isL (x : Nat) : Bool := decide (kO x = 1)
def isD (x : Nat) : Bool := decide (kO x = 2)
/-- the token at e: what it is, where it ends, the number of its first four digits -/
def tkT (b : Nat → Nat) (L e : Nat) : Nat := if e < L then kO (b e) else 0
def tkE (b : Nat → Nat) (L e : Nat) : Nat := if e < L then (if kO (b e) = 1 then runF isL b (L - e) e else if kO (b e) = 2 then runF isD b (L - e) e else e + 1) else e
def vl4 (b : Nat → Nat) (e : Nat) : Nat → Nat
  | 0 => 0
  | n + 1 => if n < 4 then vl4 b e n * 10 + (b (e + n) - 48) else vl4 b e n
def frA (N N' : vM) : Prop := N'.2 = N.2 ∧ (∀ c, c ≠ 3 → N'.1 c = N.1 c) ∧ N'.1 3 8 = N.1 3 8
def frB (S S' : vM) : Prop := S'.2 = S.2 ∧ (∀ c, c ≠ 130 → S'.1 c = S.1 c) ∧ ∀ j, (j < 32 ∨ 39 < j) → S'.1 130 j = S.1 130 j
theorem frA_r (N : vM) : frA N N := ⟨rfl, fun _ _ => rfl, rfl⟩
theorem frB_r (S : vM) : frB S S := ⟨rfl, fun _ _ => rfl, fun _ _ => rfl⟩
theorem frA_t {N1 N2 N3 : vM} (h1 : frA N1 N2) (h2 : frA N2 N3) : frA N1 N3 := ⟨h2.1.trans h1.1, fun c h => (h2.2.1 c h).trans (h1.2.1 c h), h2.2.2.trans h1.2.2⟩
theorem frB_t {S1 S2 S3 : vM} (h1 : frB S1 S2) (h2 : frB S2 S3) : frB S1 S3 := ⟨h2.1.trans h1.1, fun c h => (h2.2.1 c h).trans (h1.2.1 c h), fun j h => (h2.2.2 j h).trans (h1.2.2 j h)⟩
theorem frA_s {j : Nat} {x : Int32} (hj : j ≠ 8) : frA N (v_si N 3 j x) := ⟨rfl, fun c h => si_c h, si_n (fun z => hj z.symm)⟩
theorem frB_s {j : Nat} {x : Int32} (hj : 32 ≤ j) (hj2 : j ≤ 39) : frB S (v_si S 130 j x) := ⟨rfl, fun c h => si_c h, fun k hk => si_n (by omega)⟩
theorem tpC_fr {N' : vM} (h : tpC N L b) (hf : frA N N') : tpC N' L b := ⟨h.1, fun k hk => by rw [hf.2.1 2 (by decide)]; exact h.2 k hk⟩
theorem tpS_fr {S' : vM} (h : tpS S L b) (hf : frB S S') : tpS S' L b := ⟨h.1, fun k hk => by rw [hf.2.1 157 (by decide)]; exact h.2 k hk⟩
theorem si_si {c j : Nat} {x y : Int32} : v_si (v_si N c j x) c j y = v_si N c j y := by
  refine Prod.ext ?_ rfl
  funext a d
  show (if a = c ∧ d = j then y else if a = c ∧ d = j then x else N.1 a d) = if a = c ∧ d = j then y else N.1 a d
  by_cases q : a = c ∧ d = j
  · rw [if_pos q, if_pos q]
  · rw [if_neg q, if_neg q, if_neg q]
/-! the class's advance -/
theorem c_sk (hT : tpC N L b) (h1 : N.1 3 1 = nI L) : ∀ (n f p : Nat), n < f → p + n = L → fX4_advance_0 f (v_si N 3 2 (nI p)) = fX4_advance_41 (v_si N 3 2 (nI (runF isB b n p))) := by
  have hL := hT.1
  intro n
  induction n with
  | zero =>
    intro f p hf hp
    cases f with
    | zero => exact absurd hf (Nat.not_lt_zero _)
    | succ f =>
      unfold fX4_advance_0
      rw [si_n (by decide), h1, si_s, if_pos (nI_le (by omega) (by omega))]
      rfl
  | succ n ih =>
    intro f p hf hp
    cases f with
    | zero => exact absurd hf (Nat.not_lt_zero _)
    | succ f =>
      have hb := (hT.2 p (by omega)).1
      have hk := (byt hb).2.1
      have e : runF isB b (n + 1) p = if isB (b p) = true then runF isB b n (p + 1) else p := rfl
      rw [fX4_advance_0, si_n (by decide), h1, si_s, if_neg (nI_ge (by omega) (by omega)), c_byte (tpC_fr hT (frA_s (by decide))) (by omega), bi_I, bC_e, bi_I, hk, e]
      by_cases q : isB (b p) = true
      · rw [if_pos q, if_neg (show ¬ (1 : Int32) = 0 by decide), if_pos q, si_s, si_si, nI_1]
        exact ih f (p + 1) (by omega) (by omega)
      · rw [if_neg q, if_pos (show (0 : Int32) = 0 from rfl), if_neg q]
theorem c_wd (hL : L ≤ 700) : ∀ (n f p : Nat) (N : vM), n < f → p + n = L → tpC N L b → N.1 3 1 = nI L → N.1 3 2 = nI p → N.1 3 3 = 1 → p < L → kO (b p) = 1 → fX4_advance_109 f N 1 = rV (v_si N 3 2 (nI (runF isL b n p))) := by
  intro n
  induction n with
  | zero =>
    intro f p N hf hp hT h1 h2 h3 hpl
    omega
  | succ n ih =>
    intro f p N hf hp hT h1 h2 h3 hpl hk
    cases f with
    | zero => exact absurd hf (Nat.not_lt_zero _)
    | succ f =>
      have e : runF isL b (n + 1) p = runF isL b n (p + 1) := if_pos (decide_eq_true hk)
      rw [fX4_advance_109, h1, h2, if_neg (nI_ge (by omega) (by omega)), if_neg (show ¬ (1 : Int32) = 0 by decide), h3, if_neg (show ¬ (1 : Int32) = 2 by decide)]
      unfold fX4_advance_150
      rw [h2, nI_1, si_n (by decide), h3, if_pos (show (1 : Int32) = 1 from rfl)]
      unfold fX4_advance_176
      rw [si_s, e]
      by_cases q : p + 1 < L
      · have hb := (hT.2 (p + 1) q).1
        rw [c_byte (tpC_fr hT (frA_s (by decide))) q, bi_I, kC_e, bi_I, (byt hb).1, si_n (by decide), h3]
        by_cases q2 : kO (b (p + 1)) = 1
        · rw [if_pos (show nI (kO (b (p + 1))) = 1 by rw [q2]; rfl)]
          rw [ih f (p + 1) _ (by omega) (by omega) (tpC_fr hT (frA_s (by decide))) (by rw [si_n (by decide)]; exact h1) si_s (by rw [si_n (by decide)]; exact h3) q q2, si_si]
        · have hk4 : kO (b (p + 1)) < 2 ^ 31 := by
            unfold kO
            split
            · decide
            · split
              · decide
              · split <;> decide
          rw [if_neg (show ¬ nI (kO (b (p + 1))) = 1 from fun z => q2 ((nI_eq (b := 1) hk4 (by decide)).mp z))]
          cases n with
          | zero => omega
          | succ n =>
            have e2 : runF isL b (n + 1) (p + 1) = p + 1 := if_neg (by unfold isL; rw [decide_eq_false q2]; decide)
            rw [e2]
            cases f with
            | zero => omega
            | succ f =>
              rw [fX4_advance_109, si_n (by decide), h1, si_s, if_neg (nI_ge (by omega) (by omega)), if_pos (show (0 : Int32) = 0 from rfl)]
      · obtain ⟨y, hy⟩ := c_byteX (N := v_si N 3 2 (nI (p + 1))) (show p + 1 ≤ 700 by omega)
        have en : n = 0 := by omega
        subst en
        cases f with
        | zero => omega
        | succ f =>
          have fin : ∀ x : Int32, fX4_advance_109 (f + 1) (v_si N 3 2 (nI (p + 1))) x = rV (v_si N 3 2 (nI (p + 1))) := fun x => by
            rw [fX4_advance_109, si_n (by decide), h1, si_s, if_pos (nI_le (by omega) (by omega))]
          rw [hy, bi_I, kC_e, bi_I, fin, fin, ite_self]
          rfl
/-- digits -/
theorem c_dg (hL : L ≤ 700) {e : Nat} : ∀ (n f p : Nat) (N : vM), n < f → p + n = L → e ≤ p → tpC N L b → N.1 3 1 = nI L → N.1 3 2 = nI p → N.1 3 3 = 2 → N.1 3 5 = nI (p - e) → N.1 3 6 = nI (vl4 b e (p - e)) → p < L → kO (b p) = 2 →
    ∃ N', fX4_advance_109 f N 1 = rV N' ∧ frA N N' ∧ (∀ j, j ≠ 2 → j ≠ 5 → j ≠ 6 → N'.1 3 j = N.1 3 j) ∧ N'.1 3 2 = nI (runF isD b n p) ∧ N'.1 3 5 = nI (runF isD b n p - e) ∧ N'.1 3 6 = nI (vl4 b e (runF isD b n p - e)) := by
  intro n
  induction n with
  | zero =>
    intro f p N hf hp he hT h1 h2 h3 h5 h6 hpl
    omega
  | succ n ih =>
    intro f p N hf hp he hT h1 h2 h3 h5 h6 hpl hk
    cases f with
    | zero => exact absurd hf (Nat.not_lt_zero _)
    | succ f =>
      have er : runF isD b (n + 1) p = runF isD b n (p + 1) := if_pos (decide_eq_true hk)
      have hb := (hT.2 p hpl).1
      have hd : 48 ≤ b p ∧ b p ≤ 57 := by
        unfold kO at hk
        split at hk
        · omega
        · split at hk
          · assumption
          · split at hk <;> omega
      have hcb : cB (b p) = nI (b p) := by
        rcases (byt hb).2.2 with z | z
        · omega
        · exact z.2
      have ev : vl4 b e (p + 1 - e) = if p - e < 4 then vl4 b e (p - e) * 10 + (b p - 48) else vl4 b e (p - e) := by
        rw [show p + 1 - e = (p - e) + 1 by omega]
        show (if p - e < 4 then vl4 b e (p - e) * 10 + (b (e + (p - e)) - 48) else vl4 b e (p - e)) = _
        rw [show e + (p - e) = p by omega]
      have ea : ∃ M, fX4_addDigit N (nI (b p) - 48) = rV M ∧ frA N M ∧ (∀ j, j ≠ 2 → j ≠ 5 → j ≠ 6 → M.1 3 j = N.1 3 j) ∧ M.1 3 2 = nI p ∧ M.1 3 5 = nI (p + 1 - e) ∧ M.1 3 6 = nI (vl4 b e (p + 1 - e)) := by
        unfold fX4_addDigit
        rw [h5, nI_1, si_s, show p - e + 1 = p + 1 - e by omega]
        by_cases q : p - e < 4
        · rw [if_neg (show ¬ (4 : Int32) < nI (p + 1 - e) from nI_nlt (show p + 1 - e ≤ 4 by omega) (by decide)), si_n (by decide), h6, show nI (b p) - 48 = nI (b p - 48) from nI_sub (b := 48) hd.1, show nI (vl4 b e (p - e)) * 10 = nI (vl4 b e (p - e) * 10) from nI_mul _ 10, nI_add]
          exact ⟨_, rfl, frA_t (frA_s (by decide)) (frA_s (by decide)), fun j j1 j2 j3 => by rw [si_n j3, si_n j2], by rw [si_n (by decide), si_n (by decide), h2], by rw [si_n (by decide), si_s], by rw [si_s, ev, if_pos q]⟩
        · rw [if_pos (show (4 : Int32) < nI (p + 1 - e) from nI_lt (show 4 < p + 1 - e by omega) (by omega))]
          exact ⟨_, rfl, frA_s (by decide), fun j j1 j2 j3 => by rw [si_n j2], by rw [si_n (by decide), h2], si_s, by rw [si_n (by decide), h6, ev, if_neg q]⟩
      obtain ⟨M, m1, m2, m3, m4, m5, m6⟩ := ea
      have g1 : M.1 3 1 = nI L := by rw [m3 1 (by decide) (by decide) (by decide)]; exact h1
      have g3 : M.1 3 3 = 2 := by rw [m3 3 (by decide) (by decide) (by decide)]; exact h3
      have hTM := tpC_fr hT m2
      have stop : ∀ x : Int32, (x = 0 ∨ L ≤ p + 1) → 0 < f → fX4_advance_109 f (v_si M 3 2 (nI (p + 1))) x = rV (v_si M 3 2 (nI (p + 1))) := fun x hx hf0 => by
        cases f with
        | zero => omega
        | succ f =>
          rw [fX4_advance_109, si_n (by decide), g1, si_s]
          by_cases q : L ≤ p + 1
          · rw [if_pos (nI_le q (by omega))]
          · rw [if_neg (nI_ge (by omega) (by omega)), if_pos (hx.resolve_right q)]
      rw [fX4_advance_109, h1, h2, if_neg (nI_ge (by omega) (by omega)), if_neg (show ¬ (1 : Int32) = 0 by decide), h3, if_pos (show (2 : Int32) = 2 from rfl), c_byte hT hpl, bi_I, hcb, m1, bv_V]
      unfold fX4_advance_150
      rw [m4, nI_1, si_n (by decide), g3, if_neg (show ¬ (2 : Int32) = 1 by decide), if_pos (show (2 : Int32) = 2 from rfl)]
      unfold fX4_advance_176
      rw [si_s, er]
      have fin : runF isD b n (p + 1) = p + 1 → 0 < f → (∃ x : Int32, (x = 0 ∨ L ≤ p + 1) ∧ ∃ N', fX4_advance_109 f (v_si M 3 2 (nI (p + 1))) x = rV N' ∧ frA N N' ∧ (∀ j, j ≠ 2 → j ≠ 5 → j ≠ 6 → N'.1 3 j = N.1 3 j) ∧ N'.1 3 2 = nI (runF isD b n (p + 1)) ∧ N'.1 3 5 = nI (runF isD b n (p + 1) - e) ∧ N'.1 3 6 = nI (vl4 b e (runF isD b n (p + 1) - e))) := fun h9 hf0 => by
        refine ⟨0, Or.inl rfl, v_si M 3 2 (nI (p + 1)), stop 0 (Or.inl rfl) hf0, frA_t m2 (frA_s (by decide)), fun j j1 j2 j3 => by rw [si_n j1]; exact m3 j j1 j2 j3, by rw [si_s, h9], by rw [si_n (by decide), m5, h9], by rw [si_n (by decide), m6, h9]⟩
      by_cases q : p + 1 < L
      · have hb2 := (hT.2 (p + 1) q).1
        rw [c_byte (tpC_fr hTM (frA_s (by decide))) q, bi_I, kC_e, bi_I, (byt hb2).1, si_n (by decide), g3]
        by_cases q2 : kO (b (p + 1)) = 2
        · rw [if_pos (show nI (kO (b (p + 1))) = 2 by rw [q2]; rfl)]
          obtain ⟨N', y1, y2, y3, y4, y5, y6⟩ := ih f (p + 1) (v_si M 3 2 (nI (p + 1))) (by omega) (by omega) (by omega) (tpC_fr hTM (frA_s (by decide))) (by rw [si_n (by decide)]; exact g1) si_s (by rw [si_n (by decide)]; exact g3) (by rw [si_n (by decide)]; exact m5) (by rw [si_n (by decide)]; exact m6) q q2
          exact ⟨N', y1, frA_t m2 (frA_t (frA_s (by decide)) y2), fun j j1 j2 j3 => by rw [y3 j j1 j2 j3, si_n j1]; exact m3 j j1 j2 j3, y4, y5, y6⟩
        · have hk4 : kO (b (p + 1)) < 2 ^ 31 := by
            unfold kO
            split
            · decide
            · split
              · decide
              · split <;> decide
          rw [if_neg (show ¬ nI (kO (b (p + 1))) = 2 from fun z => q2 ((nI_eq (b := 2) hk4 (by decide)).mp z))]
          cases n with
          | zero => omega
          | succ n =>
            have e2 : runF isD b (n + 1) (p + 1) = p + 1 := if_neg (by unfold isD; rw [decide_eq_false q2]; decide)
            obtain ⟨x, hx, N', y1, yy⟩ := fin e2 (by omega)
            rw [stop 0 (Or.inl rfl) (by omega)]
            rw [stop x hx (by omega)] at y1
            exact ⟨N', y1, yy⟩
      · obtain ⟨y, hy⟩ := c_byteX (N := v_si M 3 2 (nI (p + 1))) (show p + 1 ≤ 700 by omega)
        have en : n = 0 := by omega
        obtain ⟨x, hx, N', y1, yy⟩ := fin (by rw [en]; rfl) (by omega)
        rw [hy, bi_I, kC_e, bi_I, stop 1 (Or.inr (by omega)) (by omega), stop 0 (Or.inl rfl) (by omega), ite_self]
        rw [stop x hx (by omega)] at y1
        exact ⟨N', y1, yy⟩
theorem kO_lt (x : Nat) : 1 ≤ kO x ∧ kO x ≤ 4 := by
  unfold kO
  split
  · decide
  · split
    · decide
    · split <;> decide
/-- what the token is at the next byte that is no blank -/
def tkB (b : Nat → Nat) (L p : Nat) : Nat := runF isB b (L - p) p
theorem c_adv (hT : tpC N L b) (h1 : N.1 3 1 = nI L) (h2 : N.1 3 2 = nI p) (hp : p ≤ L) : ∃ N', fX4_advance N = rV N' ∧ frA N N' ∧ N'.1 3 1 = nI L ∧ N'.1 3 7 = N.1 3 7 ∧ N'.1 3 4 = nI (tkB b L p) ∧ N'.1 3 3 = nI (tkT b L (tkB b L p)) ∧ N'.1 3 2 = nI (tkE b L (tkB b L p)) ∧
    (tkT b L (tkB b L p) = 2 → N'.1 3 5 = nI (tkE b L (tkB b L p) - tkB b L p) ∧ N'.1 3 6 = nI (vl4 b (tkB b L p) (tkE b L (tkB b L p) - tkB b L p))) := by
  have hL := hT.1
  have hs := c_sk hT h1 (L - p) FU p (FU_lt (by omega)) (by omega)
  rw [si_id h2] at hs
  have he := run_le (q := isB) (b := b) (L - p) p
  generalize hE : tkB b L p = e
  have hE2 : runF isB b (L - p) p = e := hE
  rw [hE2] at hs he
  generalize hM1 : v_si (v_si (v_si (v_si N 3 2 (nI e)) 3 4 (nI e)) 3 5 0) 3 6 0 = M1
  have f1 : frA N M1 := by rw [← hM1]; exact frA_t (frA_s (by decide)) (frA_t (frA_s (by decide)) (frA_t (frA_s (by decide)) (frA_s (by decide))))
  have g1 : M1.1 3 1 = nI L := by rw [← hM1, si_n (by decide), si_n (by decide), si_n (by decide), si_n (by decide)]; exact h1
  have g2 : M1.1 3 2 = nI e := by rw [← hM1, si_n (by decide), si_n (by decide), si_n (by decide), si_s]
  have g4 : M1.1 3 4 = nI e := by rw [← hM1, si_n (by decide), si_n (by decide), si_s]
  have g5 : M1.1 3 5 = 0 := by rw [← hM1, si_n (by decide), si_s]
  have g6 : M1.1 3 6 = 0 := by rw [← hM1, si_s]
  have g7 : M1.1 3 7 = N.1 3 7 := by rw [← hM1, si_n (by decide), si_n (by decide), si_n (by decide), si_n (by decide)]
  have hT1 := tpC_fr hT f1
  have e0 : fX4_advance N = fX4_advance_41 (v_si N 3 2 (nI e)) := hs
  by_cases q : e < L
  · have hb := (hT.2 e q).1
    have hk := kO_lt (b e)
    have e41 : fX4_advance N = fX4_advance_109 FU (v_si M1 3 3 (nI (kO (b e)))) 1 := by
      rw [e0]
      unfold fX4_advance_41
      rw [si_s, hM1, g1, g2, if_neg (nI_ge q (by omega)), c_byte hT1 q, bi_I, kC_e, bi_I, (byt hb).1]
      unfold fX4_advance_89
      rw [si_n (by decide), si_n (by decide), g1, g2, if_neg (nI_ge q (by omega))]
    have tT : tkT b L e = kO (b e) := if_pos q
    have f2 : frA N (v_si M1 3 3 (nI (kO (b e)))) := frA_t f1 (frA_s (by decide))
    rw [tT]
    by_cases k1 : kO (b e) = 1
    · have tE : tkE b L e = runF isL b (L - e) e := by
        unfold tkE
        rw [if_pos q, if_pos k1]
      have w := c_wd hL (L - e) FU e (v_si M1 3 3 (nI (kO (b e)))) (FU_lt (by omega)) (by omega) (tpC_fr hT f2) (by rw [si_n (by decide)]; exact g1) (by rw [si_n (by decide)]; exact g2) (by rw [si_s, k1]; rfl) q k1
      rw [tE]
      refine ⟨_, e41.trans w, frA_t f2 (frA_s (by decide)), ?_, ?_, ?_, ?_, si_s, fun z => by omega⟩
      · rw [si_n (by decide), si_n (by decide)]; exact g1
      · rw [si_n (by decide), si_n (by decide)]; exact g7
      · rw [si_n (by decide), si_n (by decide)]; exact g4
      · rw [si_n (by decide), si_s]
    · by_cases k2 : kO (b e) = 2
      · have tE : tkE b L e = runF isD b (L - e) e := by
          unfold tkE
          rw [if_pos q, if_neg k1, if_pos k2]
        obtain ⟨N', y1, y2, y3, y4, y5, y6⟩ := c_dg (b := b) hL (e := e) (L - e) FU e (v_si M1 3 3 (nI (kO (b e)))) (FU_lt (by omega)) (by omega) (Nat.le_refl e) (tpC_fr hT f2) (by rw [si_n (by decide)]; exact g1) (by rw [si_n (by decide)]; exact g2) (by rw [si_s, k2]; rfl) (by rw [si_n (by decide), g5, Nat.sub_self]; rfl) (by rw [si_n (by decide), g6, Nat.sub_self]; rfl) q k2
        rw [tE]
        refine ⟨N', e41.trans y1, frA_t f2 y2, ?_, ?_, ?_, ?_, y4, fun _ => ⟨y5, y6⟩⟩
        · rw [y3 1 (by decide) (by decide) (by decide), si_n (by decide)]; exact g1
        · rw [y3 7 (by decide) (by decide) (by decide), si_n (by decide)]; exact g7
        · rw [y3 4 (by decide) (by decide) (by decide), si_n (by decide)]; exact g4
        · rw [y3 3 (by decide) (by decide) (by decide), si_s]
      · have tE : tkE b L e = e + 1 := by
          unfold tkE
          rw [if_pos q, if_neg k1, if_neg k2]
        rw [tE]
        refine ⟨v_si (v_si M1 3 3 (nI (kO (b e)))) 3 2 (nI (e + 1)), ?_, frA_t f2 (frA_s (by decide)), ?_, ?_, ?_, ?_, si_s, fun z => absurd z k2⟩
        · obtain ⟨f, hf⟩ : ∃ f, FU = f + 1 + 1 := ⟨99998, rfl⟩
          have n1 : ¬ nI (kO (b e)) = 1 := fun z => k1 ((nI_eq (b := 1) (by omega) (by decide)).mp z)
          have n2 : ¬ nI (kO (b e)) = 2 := fun z => k2 ((nI_eq (b := 2) (by omega) (by decide)).mp z)
          have s3 : (v_si M1 3 3 (nI (kO (b e)))).1 3 3 = nI (kO (b e)) := si_s
          rw [e41, hf, fX4_advance_109, si_n (by decide), g1, si_n (by decide), g2, if_neg (nI_ge q (by omega)), if_neg (show ¬ (1 : Int32) = 0 by decide), s3, if_neg n2]
          unfold fX4_advance_150
          rw [si_n (show (2 : Nat) ≠ 3 by decide), g2, nI_1, si_n (show (3 : Nat) ≠ 2 by decide), s3, if_neg n1, if_neg n2, fX4_advance_109, si_n (show (1 : Nat) ≠ 2 by decide), si_n (show (1 : Nat) ≠ 3 by decide), g1, si_s]
          by_cases q3 : L ≤ e + 1
          · rw [if_pos (nI_le q3 (by omega))]
          · rw [if_neg (nI_ge (by omega) (by omega)), if_pos (show (0 : Int32) = 0 from rfl)]
        · rw [si_n (by decide), si_n (by decide)]; exact g1
        · rw [si_n (by decide), si_n (by decide)]; exact g7
        · rw [si_n (by decide), si_n (by decide)]; exact g4
        · rw [si_n (by decide), si_s]
  · have tT : tkT b L e = 0 := if_neg q
    have tE : tkE b L e = e := if_neg q
    rw [tT, tE]
    refine ⟨v_si M1 3 3 0, ?_, frA_t f1 (frA_s (by decide)), ?_, ?_, ?_, si_s, ?_, fun z => by omega⟩
    · obtain ⟨f, hf⟩ : ∃ f, FU = f + 1 := ⟨99999, rfl⟩
      rw [e0]
      unfold fX4_advance_41
      rw [si_s, hM1, g1, g2, if_pos (nI_le (by omega) (by omega))]
      unfold fX4_advance_89
      rw [si_n (by decide), si_n (by decide), g1, g2, if_pos (nI_le (by omega) (by omega)), hf, fX4_advance_109, si_n (by decide), si_n (by decide), g1, g2, if_pos (nI_le (by omega) (by omega))]
    · rw [si_n (by decide)]; exact g1
    · rw [si_n (by decide)]; exact g7
    · rw [si_n (by decide)]; exact g4
    · rw [si_n (by decide)]; exact g2
end P50
