section P5
variable {M : vM} {i : Nat}
theorem pcn_eq0 : ∀ k x, x < 2 ^ k → (pcn k x = 0 ↔ x = 0)
  | 0, x, h => by
    have : x < 1 := h
    exact ⟨fun _ => by omega, fun _ => rfl⟩
  | k + 1, x, h => by
    have := pcn_eq0 k (x / 2) (by rw [Nat.pow_succ] at h; omega)
    show x % 2 + pcn k (x / 2) = 0 ↔ x = 0
    omega
theorem and1 (x : Int32) : x &&& 1 = 0 ∨ x &&& 1 = 1 := by
  obtain ⟨n, -, rfl⟩ := wb_of32 x
  have e : nI n &&& 1 = nI (n % 2) := by
    show nI n &&& nI (2 ^ 1 - 1) = _
    rw [nx_and, Nat.and_two_pow_sub_one_eq_mod]
  rw [e]
  rcases Nat.mod_two_eq_zero_or_one n with q | q
  · rw [q]; exact Or.inl rfl
  · rw [q]; exact Or.inr rfl
theorem cpl_ok : ∀ j, j < 20 → nI j * (nI j - 1) / 2 = nI (j * (j - 1) / 2) := by decide +kernel
theorem r_couple {a b : Nat} (hb : b < 20) : fX11_couple M (nI a) (nI b) = rI (nI (cplN a b)) M := by
  unfold fX11_couple
  rw [cpl_ok b hb, nI_add]
  rfl
theorem l_fb34 {k21 : vM → Int32 → Int32 → Int32 → Option (vR × vM)} (hi : i < 6) {j : Nat} (hj : j < 20) (s : Int32) : ∀ (n f a : Nat), n < f → a + n = j → fX11_freeBits_34 k21 f M (nI i) (fbJ (M.1 137 i) j a s) (nI j) (nI a) = k21 M (nI i) (fbJ (M.1 137 i) j j s) (nI (j + 1)) := by
  intro n
  induction n with
  | zero =>
    intro f a hf ha
    cases f with
    | zero => exact absurd hf (Nat.not_lt_zero _)
    | succ f =>
      have : a = j := by omega
      subst this
      unfold fX11_freeBits_34
      rw [if_pos (nI_le (Nat.le_refl _) (by omega)), nI_1]
  | succ n ih =>
    intro f a hf ha
    cases f with
    | zero => exact absurd hf (Nat.not_lt_zero _)
    | succ f =>
      unfold fX11_freeBits_34
      rw [if_neg (nI_ge (by omega) (by omega)), if_pos (v_in_nI (by omega) (by decide)), if_pos (v_in_nI (by omega) (by decide)), nI_clamp (by omega), nI_1, r_couple hj, bi_I]
      have e := ih f (a + 1) (by omega) (by omega)
      have e2 : fbJ (M.1 137 i) j (a + 1) s = if (M.1 137 i >>> (nI a &&& 31) &&& 1) = 0 ∧ (M.1 137 i >>> (nI j &&& 31) &&& 1) = 0 then fbJ (M.1 137 i) j a s else fbJ (M.1 137 i) j a s ||| ((1 : Int32) <<< (nI (cplN a j) &&& 31)) := rfl
      rcases and1 (M.1 137 i >>> (nI a &&& 31)) with p | p <;> rcases and1 (M.1 137 i >>> (nI j &&& 31)) with q | q
      · rw [if_pos ⟨p, q⟩] at e2
        rw [p, q, if_pos (by decide), ← e2]
        exact e
      · rw [if_neg (fun z => by rw [q] at z; exact absurd z.2 (by decide))] at e2
        rw [p, q, if_neg (by decide), ← e2]
        exact e
      · rw [if_neg (fun z => by rw [p] at z; exact absurd z.1 (by decide))] at e2
        rw [p, q, if_neg (by decide), ← e2]
        exact e
      · rw [if_neg (fun z => by rw [q] at z; exact absurd z.2 (by decide))] at e2
        rw [p, q, if_neg (by decide), ← e2]
        exact e
theorem l_fb21 (hi : i < 6) {m : Nat} (hm : M.1 136 i = nI m) (hm2 : m ≤ 19) : ∀ (n f j : Nat), n < f → j + n = m → fX11_freeBits_21 f M (nI i) (fbO (M.1 137 i) j) (nI j) = rI (fbO (M.1 137 i) m) M := by
  intro n
  induction n with
  | zero =>
    intro f j hf hj
    cases f with
    | zero => exact absurd hf (Nat.not_lt_zero _)
    | succ f =>
      have : j = m := by omega
      subst this
      unfold fX11_freeBits_21
      rw [if_pos (v_in_nI (by omega) (by decide)), nI_clamp (by omega), hm, if_pos (nI_le (Nat.le_refl _) (by omega))]
  | succ n ih =>
    intro f j hf hj
    cases f with
    | zero => exact absurd hf (Nat.not_lt_zero _)
    | succ f =>
      unfold fX11_freeBits_21
      rw [if_pos (v_in_nI (by omega) (by decide)), nI_clamp (by omega), hm, if_neg (nI_ge (by omega) (by omega))]
      have e := l_fb34 (M := M) (k21 := fX11_freeBits_21 f) hi (j := j) (by omega) (fbO (M.1 137 i) j) j FU 0 (FU_lt (by omega)) (by omega)
      exact e.trans (ih f (j + 1) (by omega) (by omega))
theorem r_freeBits (h : rWk M i) (hi : i < 6) : fX11_freeBits M (nI i) = rI (fbits (M.1 132 i) (M.1 137 i) (qit M i)) M := by
  obtain ⟨⟨-, k2⟩, -, -, -, ⟨-, m2, -, m4⟩, -⟩ := h
  unfold fX11_freeBits fbits
  rw [if_pos (v_in_nI (by omega) (by decide)), nI_clamp (by omega)]
  by_cases q : M.1 132 i = 2
  · rw [if_pos q, if_pos q]
    have := m4 q
    exact l_fb21 hi m2.1 (by show qit M i ≤ 19; omega) (qit M i) FU 0 (FU_lt (by omega)) (Nat.zero_add _)
  · rw [if_neg q, if_neg q, if_pos (v_in_nI (by omega) (by decide))]
/-- whether two marks that differ by the bits u are the same -/
def sSame (law lo ot : Int32) (u : Nat) : Int32 := if law = 0 then (if u = 0 then 1 else 0) else if law = 1 then (if nI u &&& (lo ^^^ (-1)) = 0 then 1 else 0) else if ot ≤ nI (pcn 32 u) then 0 else 1
theorem sSame01 (law lo ot : Int32) (u : Nat) : sSame law lo ot u = 0 ∨ sSame law lo ot u = 1 := by
  unfold sSame
  split
  · split
    · exact Or.inr rfl
    · exact Or.inl rfl
  · split
    · split
      · exact Or.inr rfl
      · exact Or.inl rfl
    · split
      · exact Or.inl rfl
      · exact Or.inr rfl
theorem r_areSame {a b : Nat} (ha : a < 2 ^ 20) (hb : b < 2 ^ 20) {law lo ot : Int32} : fX11_areSame M (nI a) (nI b) law lo ot = rI (sSame law lo ot (a ^^^ b)) M := by
  have hx : a ^^^ b < 2 ^ 20 := Nat.xor_lt_two_pow ha hb
  unfold fX11_areSame sSame
  rw [nx_xor]
  by_cases h0 : law = 0
  · rw [if_pos h0, if_pos h0]
    by_cases q : a ^^^ b = 0
    · rw [q, if_pos nI_0, if_pos rfl]
    · rw [if_neg (nI_ne0 (Nat.pos_of_ne_zero q) (by omega)), if_neg q]
  · rw [if_neg h0, if_neg h0]
    by_cases h1 : law = 1
    · rw [if_pos h1, if_pos h1]
      by_cases q : nI (a ^^^ b) &&& (lo ^^^ (-1)) = 0
      · rw [if_pos q, if_pos q]
      · rw [if_neg q, if_neg q]
    · rw [if_neg h1, if_neg h1, ref_bitsOf (by omega), bi_I]
      by_cases q : ot ≤ nI (pcn 32 (a ^^^ b))
      · rw [if_pos q, if_pos q]
      · rw [if_neg q, if_neg q]
theorem r_alike (h : rWk M i) (hi : i < 6) {a b : Nat} (ha : a < 2 ^ 20) (hb : b < 2 ^ 20) : fX11_alike M (nI i) (nI a) (nI b) = rI (sSame (M.1 134 i) (M.1 (qw i) 3) (M.1 135 i) (a ^^^ b)) M := by
  have lo : M.1 (qw i) 3 = fbits (M.1 132 i) (M.1 137 i) (qit M i) := by
    obtain ⟨-, -, -, -, -, -, -, -, lo, -⟩ := h
    exact lo
  have hz : ∀ y : Int32, y = 0 ∨ y = 1 → v_nz y = y := by
    rintro y (rfl | rfl) <;> decide
  have hin : v_in (nI i) 12 = true := v_in_nI (by omega) (by decide)
  unfold fX11_alike fX11_alike_27
  rw [if_pos hin, if_pos hin, nI_clamp (by omega)]
  by_cases q : M.1 134 i = 1
  · rw [if_pos q, r_freeBits h hi, bi_I, if_pos hin, r_areSame ha hb, bi_I, if_pos (hz _ (sSame01 ..)), lo]
  · rw [if_neg q, if_pos hin, r_areSame ha hb, bi_I, if_pos (hz _ (sSame01 ..))]
    congr 1
    unfold sSame
    by_cases q0 : M.1 134 i = 0
    · rw [if_pos q0, if_pos q0]
    · rw [if_neg q0, if_neg q0, if_neg q, if_neg q]
/-- the class's way of it, for any law -/
theorem c_same0 {law lo ot : Int32} {u : Nat} (hu : u < 2 ^ 20) (hl : law = 0 ∨ law = 1 ∨ law = 2) : (if (if law = 2 then ot else 1) ≤ nI (pcn 32 u) then (0 : Int32) else 1) = sSame law lo ot u ∨ law = 1 := by
  rcases hl with rfl | rfl | rfl
  · left
    unfold sSame
    rw [if_neg (show ¬ (0 : Int32) = 2 by decide), if_pos (show (0 : Int32) = 0 from rfl)]
    have h1 := pcn_eq0 32 u (by omega)
    by_cases q : u = 0
    · rw [if_pos q, if_neg (show ¬ (1 : Int32) ≤ nI (pcn 32 u) by rw [h1.mpr q]; decide)]
    · have h2 : 1 ≤ pcn 32 u := by omega
      rw [if_neg q, if_pos (show (1 : Int32) ≤ nI (pcn 32 u) from nI_le h2 (by have := pcn_le 32 u; omega))]
  · exact Or.inr rfl
  · left
    unfold sSame
    rw [if_pos (show (2 : Int32) = 2 from rfl), if_neg (show ¬ (2 : Int32) = 0 by decide), if_neg (show ¬ (2 : Int32) = 1 by decide)]
theorem andM {lo : Int32} {u : Nat} (hu : u < 2 ^ 20) : ∃ v, v ≤ u ∧ nI u &&& (lo ^^^ (-1)) = nI v ∧ nI u &&& (1048575 &&& (lo ^^^ (-1))) = nI v := by
  obtain ⟨x, -, hx⟩ := wb_of32 (lo ^^^ (-1))
  have e1 : nI u &&& (lo ^^^ (-1)) = nI (u &&& x) := by rw [hx, nx_and]
  refine ⟨u &&& x, Nat.and_le_left, e1, ?_⟩
  rw [← Int32.and_assoc, show nI u &&& 1048575 = nI u from ?_, e1]
  show nI u &&& nI (2 ^ 20 - 1) = _
  rw [nx_and, Nat.and_two_pow_sub_one_eq_mod, Nat.mod_eq_of_lt hu]
/-- bits that count, and by how many -/
def cBits (law lo : Int32) : Int32 := if law = 1 then 1048575 &&& (lo ^^^ (-1)) else 1048575
def cUnl (law ot : Int32) : Int32 := if law = 2 then ot else 1
theorem e_bits {w : Nat} {law : Int32} : fX9_bitsThatCount M w law = rI (cBits law (M.1 w 3)) M := by
  unfold fX9_bitsThatCount cBits
  split <;> rfl
theorem e_unl {law ot : Int32} : fX9_unlikeOnes M law ot = rI (cUnl law ot) M := by
  unfold fX9_unlikeOnes cUnl
  split <;> rfl
/-- the class's test of one pair -/
theorem c_test {law lo ot : Int32} {u : Nat} (hu : u < 2 ^ 20) (hl : law = 0 ∨ law = 1 ∨ law = 2) : ∃ v, v < 2 ^ 20 ∧ nI u &&& cBits law lo = nI v ∧ (if cUnl law ot ≤ nI (pcn 32 v) then (0 : Int32) else 1) = sSame law lo ot u := by
  by_cases h1 : law = 1
  · obtain ⟨v, v1, v2, v3⟩ := andM (lo := lo) hu
    refine ⟨v, by omega, by unfold cBits; rw [if_pos h1, v3], ?_⟩
    unfold cUnl sSame
    rw [if_neg (show ¬ law = 2 by rw [h1]; decide), if_neg (show ¬ law = 0 by rw [h1]; decide), if_pos h1, v2]
    have h2 := pcn_eq0 32 v (by omega)
    by_cases q : v = 0
    · rw [if_pos (show nI v = 0 by rw [q]; rfl), if_neg (show ¬ (1 : Int32) ≤ nI (pcn 32 v) by rw [h2.mpr q]; decide)]
    · have h3 : 1 ≤ pcn 32 v := by omega
      rw [if_neg (nI_ne0 (Nat.pos_of_ne_zero q) (by omega)), if_pos (show (1 : Int32) ≤ nI (pcn 32 v) from nI_le h3 (by have := pcn_le 32 v; omega))]
  · refine ⟨u, hu, ?_, ?_⟩
    · unfold cBits
      rw [if_neg h1]
      show nI u &&& nI (2 ^ 20 - 1) = _
      rw [nx_and, Nat.and_two_pow_sub_one_eq_mod, Nat.mod_eq_of_lt hu]
    · rcases c_same0 (lo := lo) (ot := ot) hu hl with q | q
      · exact q
      · exact absurd q h1
theorem wkL (h : rWk M i) : M.1 (qp M i) 2 = M.1 134 i ∧ (M.1 134 i = 0 ∨ M.1 134 i = 1 ∨ M.1 134 i = 2) ∧ M.1 (qp M i) 3 = M.1 135 i := by
  obtain ⟨-, -, ⟨l1, l2⟩, ⟨o1, -⟩, -⟩ := h
  refine ⟨l1, ?_, o1⟩
  have h1 := l2.1
  have h2 := l2.2
  generalize (M.1 134 i).toNatClampNeg = n at h1 h2
  have : n = 0 ∨ n = 1 ∨ n = 2 := by omega
  rcases this with rfl | rfl | rfl
  · exact Or.inl h1
  · exact Or.inr (Or.inl h1)
  · exact Or.inr (Or.inr h1)
theorem c_areSame (h : rWk M i) {a b : Nat} (ha : a < 2 ^ 20) (hb : b < 2 ^ 20) : fX9_areSame M (qw i) (nI a) (nI b) = rI (sSame (M.1 134 i) (M.1 (qw i) 3) (M.1 135 i) (a ^^^ b)) M := by
  obtain ⟨l1, l2, l3⟩ := wkL h
  have hx : a ^^^ b < 2 ^ 20 := Nat.xor_lt_two_pow ha hb
  obtain ⟨v, v1, v2, v3⟩ := c_test (lo := M.1 (qw i) 3) (ot := M.1 135 i) hx l2
  unfold fX9_areSame
  rw [show M.2.2 (qw i) 0 - 1 = qp M i from rfl, l1, e_bits, bi_I, nx_xor, v2, pop_nat (by omega), bi_I, show M.2.2 (qw i) 0 - 1 = qp M i from rfl, l1, l3, e_unl, bi_I, ← v3]
  split <;> rfl
end P5
