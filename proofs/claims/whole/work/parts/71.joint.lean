section P31
variable {M N : vM} {i j : Nat}
/-- what a mark costs two sets together -/
def gcS (A : Nat → Nat → Int32) (i j m : Nat) : Nat → Nat → Int32 → Int32
  | 0, _, a => a
  | n + 1, k, a => gcS A i j m n (k + 1) (a + (nI m >>> (nI k &&& 31) &&& 1) * (if A 141 (20 * i + k) < A 141 (20 * j + k) then A 141 (20 * j + k) else A 141 (20 * i + k)))
theorem gcS_hi {A : Nat → Nat → Int32} {m q : Nat} (hm : m < 2 ^ q) (hq : q < 31) : ∀ n k a, q ≤ k → k + n ≤ 31 → gcS A i j m n k a = a
  | 0, _, _, _, _ => rfl
  | n + 1, k, a, h1, h2 => by
    have hm2 : m < 2 ^ k := Nat.lt_of_lt_of_le hm (Nat.pow_le_pow_right (by decide) h1)
    have hm3 : m < 2 ^ 31 := Nat.lt_of_lt_of_le hm (Nat.pow_le_pow_right (by decide) (by omega))
    show gcS A i j m n (k + 1) (a + (nI m >>> (nI k &&& 31) &&& 1) * _) = a
    rw [nI_sh hm3 (by omega), Nat.div_eq_of_lt hm2, show nI 0 &&& 1 = 0 by decide, Int32.zero_mul, Int32.add_zero]
    exact gcS_hi hm hq n (k + 1) a (by omega) (by omega)
theorem gcS_sp {A : Nat → Nat → Int32} {m : Nat} : ∀ n n' k a, gcS A i j m (n + n') k a = gcS A i j m n' (k + n) (gcS A i j m n k a)
  | 0, n', k, a => by rw [Nat.zero_add]; rfl
  | n + 1, n', k, a => by
    rw [show n + 1 + n' = n + n' + 1 by omega]
    show gcS A i j m (n + n') (k + 1) _ = gcS A i j m n' (k + (n + 1)) (gcS A i j m n (k + 1) _)
    rw [gcS_sp n n' (k + 1), show k + 1 + n = k + (n + 1) by omega]
def gcC (A : Nat → Nat → Int32) (i j m : Nat) : Int32 := gcS A i j m 12 0 0
theorem r_jc {m : Nat} (hi : i < 6) (hj : j < 6) : ∀ (n f k : Nat) (a : Int32), n < f → k + n = 12 → fX11_jointCost_6 f M (nI i) (nI j) (nI m) a (nI k) = rI (gcS M.1 i j m n k a) M := by
  intro n
  induction n with
  | zero =>
    intro f k a hf hk
    cases f with
    | zero => exact absurd hf (Nat.not_lt_zero _)
    | succ f =>
      unfold fX11_jointCost_6
      rw [if_pos (show (12 : Int32) ≤ nI k from nI_le (show 12 ≤ k by omega) (by omega))]
      rfl
  | succ n ih =>
    intro f k a hf hk
    cases f with
    | zero => exact absurd hf (Nat.not_lt_zero _)
    | succ f =>
      have e1 : ∀ x : Nat, (20 : Int32) * nI x + nI k = nI (20 * x + k) := fun x => by rw [show (20 : Int32) = nI 20 from rfl, nI_mul, nI_add]
      unfold fX11_jointCost_6
      rw [if_neg (show ¬ (12 : Int32) ≤ nI k from nI_ge (show k < 12 by omega) (by decide)), e1, e1, if_pos (v_in_nI (by omega) (by decide)), if_pos (v_in_nI (by omega) (by decide)), nI_clamp (by omega), nI_clamp (by omega), nI_1, ih f (k + 1) _ (by omega) (by omega)]
      rfl
/-- the sets' facts -/
theorem wkSet (h : rWk M i) (hk : M.1 132 i = 1) : M.1 (qp M i) 4 = nI (qit M i) ∧ qit M i ≤ 12 ∧ (∀ t, t < qit M i → M.1 (qp M i + 1) t = M.1 141 (20 * i + t)) ∧ ∀ k, k < qC M i → qmk M i k < 2 ^ qit M i := by
  obtain ⟨-, -, -, -, ⟨a1, a2, a3, -⟩, -, b, -, -, -, ⟨c, -⟩, -⟩ := h
  exact ⟨a1.trans a2.e, a3 hk, fun t ht => (b t ht).1, fun k hk9 => (c k hk9).2.2.2 hk⟩
theorem c_costAt {p : Nat} (hp : v_isP p) {k : Nat} (hk : k < 20) : fX3_costAt M p (nI k) = rI (M.1 (p + 1) k) M := by
  unfold fX3_costAt
  rw [e_at (len := 20) (by rw [(v_LP hp).2.2.1.1]) hk (by decide), bi_I]
theorem c_gc (h : rWk M i) (h2 : rWk M j) (hk : M.1 132 i = 1) (hk2 : M.1 132 j = 1) (hP : v_isP (qp M i)) (hP2 : v_isP (qp M j)) {m : Nat} (hm : m < 2 ^ 20) (hm2 : m < 2 ^ qit M j) : ∀ (n f k : Nat) (a : Int32), n < f → k + n = qit M i → fX3_greaterCosts_5 f M (qp M i) (qp M j) (nI m) a (nI k) = rI (gcS M.1 i j m n k a) M := by
  obtain ⟨s1, s2, s3, -⟩ := wkSet h hk
  obtain ⟨t1, t2, t3, -⟩ := wkSet h2 hk2
  intro n
  induction n with
  | zero =>
    intro f k a hf hn
    cases f with
    | zero => exact absurd hf (Nat.not_lt_zero _)
    | succ f =>
      unfold fX3_greaterCosts_5
      rw [s1, if_pos (nI_le (by omega) (by omega))]
      rfl
  | succ n ih =>
    intro f k a hf hn
    cases f with
    | zero => exact absurd hf (Nat.not_lt_zero _)
    | succ f =>
      unfold fX3_greaterCosts_5
      rw [s1, if_neg (nI_ge (by omega) (by omega))]
      have eg : gcS M.1 i j m (n + 1) k a = gcS M.1 i j m n (k + 1) (a + (nI m >>> (nI k &&& 31) &&& 1) * (if M.1 141 (20 * i + k) < M.1 141 (20 * j + k) then M.1 141 (20 * j + k) else M.1 141 (20 * i + k))) := rfl
      rcases and1 (nI m >>> (nI k &&& 31)) with q | q
      · rw [if_pos q, nI_1, ih f (k + 1) a (by omega) (by omega), eg, q, Int32.zero_mul, Int32.add_zero]
      · have hkj : k < qit M j := by
          refine Nat.lt_of_not_le (fun z => ?_)
          have : m < 2 ^ k := Nat.lt_of_lt_of_le hm2 (Nat.pow_le_pow_right (by decide) z)
          rw [nI_sh (by omega) (by omega), Nat.div_eq_of_lt this] at q
          exact absurd q (by decide)
        rw [if_neg (by rw [q]; decide), c_costAt hP (by omega), bi_I, c_costAt hP2 (by omega), bi_I, nI_1, s3 k (by omega), t3 k hkj, ih f (k + 1) _ (by omega) (by omega), eg, q, Int32.one_mul]
theorem c_gcC (h : rWk M i) (h2 : rWk M j) (hk : M.1 132 i = 1) (hk2 : M.1 132 j = 1) (hP : v_isP (qp M i)) (hP2 : v_isP (qp M j)) {m : Nat} (hm : m < 2 ^ qit M i) (hm2 : m < 2 ^ qit M j) : fX3_greaterCosts M (qp M i) (qp M j) (nI m) = rI (gcC M.1 i j m) M := by
  obtain ⟨s1, s2, s3, -⟩ := wkSet h hk
  have hm3 : m < 2 ^ 20 := Nat.lt_of_lt_of_le hm (Nat.pow_le_pow_right (by decide) (by omega))
  unfold fX3_greaterCosts
  rw [← nI_0, c_gc h h2 hk hk2 hP hP2 hm3 hm2 (qit M i) FU 0 (nI 0) (FU_lt (by omega)) (Nat.zero_add _)]
  refine congrArg (fun t => rI t M) ?_
  unfold gcC
  have e := gcS_sp (A := M.1) (i := i) (j := j) (m := m) (qit M i) (12 - qit M i) 0 (nI 0)
  rw [show qit M i + (12 - qit M i) = 12 by omega, Nat.zero_add, gcS_hi hm (by omega) _ _ _ (Nat.le_refl _) (by omega)] at e
  exact e.symm
/-- the other's costs never stop it -/
theorem c_gcX (h : rWk M i) (hk : M.1 132 i = 1) (hP : v_isP (qp M i)) {p : Nat} (hP2 : v_isP p) {m : Int32} : ∀ (n f k : Nat) (a : Int32), n < f → k + n = qit M i → ∃ z, fX3_greaterCosts_5 f M (qp M i) p m a (nI k) = rI z M := by
  obtain ⟨s1, s2, s3, -⟩ := wkSet h hk
  intro n
  induction n with
  | zero =>
    intro f k a hf hn
    cases f with
    | zero => exact absurd hf (Nat.not_lt_zero _)
    | succ f =>
      refine ⟨a, ?_⟩
      unfold fX3_greaterCosts_5
      rw [s1, if_pos (nI_le (by omega) (by omega))]
  | succ n ih =>
    intro f k a hf hn
    cases f with
    | zero => exact absurd hf (Nat.not_lt_zero _)
    | succ f =>
      unfold fX3_greaterCosts_5
      rw [s1, if_neg (nI_ge (by omega) (by omega)), nI_1]
      by_cases q : (m >>> (nI k &&& 31) &&& 1) = 0
      · rw [if_pos q]
        exact ih f (k + 1) a (by omega) (by omega)
      · rw [if_neg q, c_costAt hP (by omega), bi_I, c_costAt hP2 (by omega), bi_I]
        exact ih f (k + 1) _ (by omega) (by omega)
/-- whether a way may be done by both, and the best of them so far -/
def jOk (A : Nat → Nat → Int32) (i j k : Nat) : Bool := decide (A 148 (2000 * i + k) = 0) && (!decide (sFind A j (A 147 (2000 * i + k)) = -1) && decide (A 148 (2000 * j + qN (sFind A j (A 147 (2000 * i + k)))) = 0))
def jBet (A : Nat → Nat → Int32) (i j k : Nat) (b c : Int32) : Bool := decide (b = -1) || (decide (gcC A i j (qN (A 147 (2000 * i + k))) < c) || (decide (gcC A i j (qN (A 147 (2000 * i + k))) = c) && decide (A 147 (2000 * i + k) < b)))
def jF (A : Nat → Nat → Int32) (i j : Nat) : Nat → Nat → Int32 → Int32 → Int32 × Int32
  | 0, _, b, c => (b, c)
  | n + 1, k, b, c => if (jOk A i j k && jBet A i j k b c) = true then jF A i j n (k + 1) (A 147 (2000 * i + k)) (gcC A i j (qN (A 147 (2000 * i + k)))) else jF A i j n (k + 1) b c
theorem fnd_in (p : Nat → Prop) [DecidablePred p] : ∀ n k, fndF p n k = -1 ∨ ∃ w, fndF p n k = nI w ∧ k ≤ w ∧ w < k + n ∧ p w
  | 0, _ => Or.inl rfl
  | n + 1, k => by
    unfold fndF
    by_cases q : p k
    · rw [if_pos q]
      exact Or.inr ⟨k, rfl, Nat.le_refl _, by omega, q⟩
    · rw [if_neg q]
      rcases fnd_in p n (k + 1) with z | ⟨w, a, b, c, d⟩
      · exact Or.inl z
      · exact Or.inr ⟨w, a, by omega, by omega, d⟩
theorem sFind_in {A : Nat → Nat → Int32} {x : Int32} : sFind A i x = -1 ∨ ∃ w, sFind A i x = nI w ∧ w < qN (A 145 i) ∧ A 147 (2000 * i + w) = x := by
  rcases fnd_in (fun k => A 147 (2000 * i + k) = x) (qN (A 145 i)) 0 with z | ⟨w, a, b, c, d⟩
  · exact Or.inl z
  · exact Or.inr ⟨w, a, by omega, d⟩
/-- what holds of the best so far -/
def jInv (A : Nat → Nat → Int32) (i j : Nat) (b c : Int32) : Prop := (b = -1) ∨ ∃ k, k < qN (A 145 i) ∧ jOk A i j k = true ∧ b = A 147 (2000 * i + k) ∧ c = gcC A i j (qN b)
theorem jF_inv {A : Nat → Nat → Int32} : ∀ n k b c, k + n = qN (A 145 i) → jInv A i j b c → jInv A i j (jF A i j n k b c).1 (jF A i j n k b c).2
  | 0, _, _, _, _, h => h
  | n + 1, k, b, c, hk, h => by
    unfold jF
    by_cases q : (jOk A i j k && jBet A i j k b c) = true
    · rw [if_pos q]
      exact jF_inv n (k + 1) _ _ (by omega) (Or.inr ⟨k, by omega, (Bool.and_eq_true_iff.mp q).1, rfl, rfl⟩)
    · rw [if_neg q]
      exact jF_inv n (k + 1) b c (by omega) h
theorem jOk_mk (h2 : rWk M j) (hk2 : M.1 132 j = 1) {k : Nat} (ho : jOk M.1 i j k = true) : qN (M.1 147 (2000 * i + k)) < 2 ^ qit M j ∧ ∃ w, sFind M.1 j (M.1 147 (2000 * i + k)) = nI w ∧ w < qC M j ∧ M.1 148 (2000 * j + w) = 0 := by
  unfold jOk at ho
  simp only [Bool.and_eq_true, Bool.not_eq_true', decide_eq_false_iff_not, decide_eq_true_eq] at ho
  obtain ⟨o1, o2, o3⟩ := ho
  rcases sFind_in (A := M.1) (i := j) (x := M.1 147 (2000 * i + k)) with z | ⟨w, a, b, c⟩
  · exact absurd z o2
  · have hcc := (wkC h2).2.1
    have hw : w < qC M j := b
    rw [a, qN_nI (by omega)] at o3
    refine ⟨?_, w, a, hw, o3⟩
    rw [← c]
    exact (wkSet h2 hk2).2.2.2 w hw
theorem c_sh (h : rWk M i) (h2 : rWk M j) (hi : i < 6) (hj : j < 6) (hk : M.1 132 i = 1) (hk2 : M.1 132 j = 1) (hP : v_isP (qp M i)) (hP2 : v_isP (qp M j)) : ∀ (n f k : Nat) (b c : Int32), n < f → k + n = qC M i → fX9_cheapestShared_7 f M (qw i) (qw j) b c (nI k) = rI (jF M.1 i j n k b c).1 M := by
  have hcc := wkC h
  have hcj := wkC h2
  obtain ⟨s1, s2, s3, s4⟩ := wkSet h hk
  intro n
  induction n with
  | zero =>
    intro f k b c hf hn
    cases f with
    | zero => exact absurd hf (Nat.not_lt_zero _)
    | succ f =>
      unfold fX9_cheapestShared_7
      rw [hcc.1, if_pos (nI_le (by omega) (by omega))]
      rfl
  | succ n ih =>
    intro f k b c hf hn
    cases f with
    | zero => exact absurd hf (Nat.not_lt_zero _)
    | succ f =>
      have hkc : k < qC M i := by omega
      obtain ⟨k1, k2⟩ := mk_lt h hkc
      have ej : jF M.1 i j (n + 1) k b c = if (jOk M.1 i j k && jBet M.1 i j k b c) = true then jF M.1 i j n (k + 1) (M.1 147 (2000 * i + k)) (gcC M.1 i j (qN (M.1 147 (2000 * i + k)))) else jF M.1 i j n (k + 1) b c := rfl
      unfold fX9_cheapestShared_7
      rw [hcc.1, if_neg (nI_ge (by omega) (by omega)), e_isSp h hkc, bi_I]
      by_cases q : M.1 148 (2000 * i + k) = 0
      · rw [if_pos q, e_markOf h hkc, bi_I]
        show bi (fX3_greaterCosts M (qp M i) (qp M j) (M.1 147 (2000 * i + k))) _ = _
        obtain ⟨z, hz⟩ := c_gcX h hk hP hP2 (m := M.1 147 (2000 * i + k)) (qit M i) FU 0 0 (FU_lt (by omega)) (Nat.zero_add _)
        have hz2 : fX3_greaterCosts M (qp M i) (qp M j) (M.1 147 (2000 * i + k)) = rI z M := hz
        rw [hz2, bi_I]
        -- whether the other may do it
        have t78 : ∀ K : vM → Nat → Nat → Int32 → Int32 → Int32 → Option (vR × vM), fX9_cheapestShared_78 (fX9_cheapestShared_79 K) M (qw i) (qw j) b c (nI k) (M.1 147 (2000 * i + k)) z = K M (qw i) (qw j) b c (nI k + 1) := fun K => by
          unfold fX9_cheapestShared_78 fX9_cheapestShared_79
          rw [if_pos rfl]
        by_cases o : jOk M.1 i j k = true
        · obtain ⟨m1, w, m2, m3, m4⟩ := jOk_mk h2 hk2 o
          have hzg : z = gcC M.1 i j (qN (M.1 147 (2000 * i + k))) := by
            have e := c_gcC h h2 hk hk2 hP hP2 (m := qN (M.1 147 (2000 * i + k))) (s4 k hkc) m1
            rw [show nI (qN (M.1 147 (2000 * i + k))) = M.1 147 (2000 * i + k) from k1.symm, hz2] at e
            have e3 := Option.some.inj e
            have e4 := congrArg Prod.fst e3
            exact Value.int.inj (Option.some.inj (Sum.inr.inj e4))
          have t74 : ∀ K : vM → Nat → Nat → Int32 → Int32 → Int32 → Option (vR × vM), fX9_cheapestShared_74 (fX9_cheapestShared_79 K) M (qw i) (qw j) b c (nI k) (M.1 147 (2000 * i + k)) z = K M (qw i) (qw j) (M.1 147 (2000 * i + k)) z (nI k + 1) := fun K => by
            unfold fX9_cheapestShared_74 fX9_cheapestShared_79
            rw [if_neg (by decide), c_withMark h2, bi_I, m2, e_isSp h2 m3, bi_I, if_pos m4]
          rw [ej, o, Bool.true_and]
          unfold jBet
          rw [← hzg]
          by_cases b1 : b = -1
          · rw [if_pos b1, t74, decide_eq_true b1, Bool.true_or, if_pos rfl, nI_1, ih f (k + 1) _ _ (by omega) (by omega)]
          · rw [if_neg b1, decide_eq_false b1, Bool.false_or]
            by_cases b2 : z < c
            · rw [if_pos b2, t74, decide_eq_true b2, Bool.true_or, if_pos rfl, nI_1, ih f (k + 1) _ _ (by omega) (by omega)]
            · rw [if_neg b2, decide_eq_false b2, Bool.false_or]
              by_cases b3 : z = c
              · rw [if_pos b3, decide_eq_true b3, Bool.true_and]
                by_cases b4 : M.1 147 (2000 * i + k) < b
                · rw [if_neg (fa_of_lt b4).2.1, t74, decide_eq_true b4, if_pos rfl, nI_1, ih f (k + 1) _ _ (by omega) (by omega)]
                · rw [if_pos (fa_of_nlt b4), t78, decide_eq_false b4, if_neg (by decide), nI_1, ih f (k + 1) _ _ (by omega) (by omega)]
              · rw [if_neg b3, t78, decide_eq_false b3, Bool.false_and, if_neg (by decide), nI_1, ih f (k + 1) _ _ (by omega) (by omega)]
        · have t74 : ∀ K : vM → Nat → Nat → Int32 → Int32 → Int32 → Option (vR × vM), fX9_cheapestShared_74 (fX9_cheapestShared_79 K) M (qw i) (qw j) b c (nI k) (M.1 147 (2000 * i + k)) z = K M (qw i) (qw j) b c (nI k + 1) := fun K => by
            unfold fX9_cheapestShared_74 fX9_cheapestShared_79
            rw [if_neg (by decide), c_withMark h2, bi_I]
            unfold jOk at o
            rw [decide_eq_true q, Bool.true_and] at o
            rcases sFind_in (A := M.1) (i := j) (x := M.1 147 (2000 * i + k)) with y | ⟨w, a1, a2, a3⟩
            · rw [y, e_isSpN (by decide), bi_I, if_neg (by decide)]
            · have hw : w < qC M j := a2
              rw [a1, qN_nI (by omega)] at o
              rw [a1, e_isSp h2 hw, bi_I]
              rw [decide_eq_false (nI_ne1 (by omega)), Bool.not_false, Bool.true_and, decide_eq_true_eq] at o
              rw [if_neg o]
          rw [ej, Bool.eq_false_iff.mpr o, Bool.false_and, if_neg (show ¬ false = true by decide), t74, t78, nI_1, ih f (k + 1) b c (by omega) (by omega)]
          split
          · rfl
          · split
            · rfl
            · split
              · split <;> rfl
              · rfl
      · have o : jOk M.1 i j k = false := by
          unfold jOk
          rw [decide_eq_false q, Bool.false_and]
        rw [if_neg q, ej, o, Bool.false_and, if_neg (by decide), nI_1, ih f (k + 1) b c (by omega) (by omega)]
end P31
