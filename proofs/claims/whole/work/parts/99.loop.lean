section P59
variable {N S : vM} {L t e q p r w kd : Nat} {b : Nat → Nat}
/-! which row begins at a token -/
def hdI (b : Nat → Nat) (t e q : Nat) : Int32 := if wdB b t e q 0 = true then 0 else if wdB b t e q 1 = true then 1 else if wdB b t e q 2 = true then 2 else -1
def itmW (kd : Nat) : Nat := if kd = 0 then 6 else if kd = 1 then 7 else 10
def bndB (b : Nat → Nat) (t e q kd : Nat) : Bool := if kd = 1 then (wdB b t e q 8 || wdB b t e q 9) else if kd = 2 then wdB b t e q 11 else false
def bndK (b : Nat → Nat) (t e q kd : Nat) : Nat := if kd = 1 then (if wdB b t e q 8 = true then 0 else 1) else 0
theorem itm_13 (h : kd ≤ 2) : itmW kd < 13 ∧ 6 ≤ itmW kd := by
  unfold itmW
  split
  · decide
  · split <;> decide
theorem r_which (h : gd N S L b t e q) : fX11_which S = rI (hdI b t e q) S := by
  obtain ⟨f, hf⟩ : ∃ f, FU = f + 1 + 1 + 1 + 1 := ⟨99996, rfl⟩
  unfold fX11_which hdI
  rw [hf, fX11_which_2, if_neg (by decide), if_pos (show v_in 0 3 = true by decide), show Int32.toNatClampNeg 0 = 0 by decide, r_isW h (id := 0) (by decide), bi_I]
  by_cases q0 : wdB b t e q 0 = true
  · rw [if_pos q0, if_neg (show ¬ (1 : Int32) = 0 by decide), if_pos q0]
  · rw [if_neg q0, if_pos (show (0 : Int32) = 0 from rfl), if_neg q0, show (0 : Int32) + 1 = 1 by decide, fX11_which_2, if_neg (by decide), if_pos (show v_in 1 3 = true by decide), show Int32.toNatClampNeg 1 = 1 by decide, r_isW h (id := 1) (by decide), bi_I]
    by_cases q1 : wdB b t e q 1 = true
    · rw [if_pos q1, if_neg (show ¬ (1 : Int32) = 0 by decide), if_pos q1]
    · rw [if_neg q1, if_pos (show (0 : Int32) = 0 from rfl), if_neg q1, show (1 : Int32) + 1 = 2 by decide, fX11_which_2, if_neg (by decide), if_pos (show v_in 2 3 = true by decide), show Int32.toNatClampNeg 2 = 2 by decide, r_isW h (id := 2) (by decide), bi_I]
      by_cases q2 : wdB b t e q 2 = true
      · rw [if_pos q2, if_neg (show ¬ (1 : Int32) = 0 by decide), if_pos q2]
      · rw [if_neg q2, if_pos (show (0 : Int32) = 0 from rfl), if_neg q2, show (2 : Int32) + 1 = 3 by decide, fX11_which_2, if_pos (by decide)]
theorem r_lines (h : gd N S L b t e q) (hr : r < 12) (hk : kd ≤ 2) (h2 : S.1 132 r = nI kd) (f : Nat) : fX11_readLines_2 (f + 1) S (nI r) 1 = if wdB b t e q (itmW kd) = true then bv (rItm kd S r) (fun M => fX11_readLines_2 f M (nI r) 1) else if bndB b t e q kd = true then bv (fX11_readRule S (nI r) (nI (bndK b t e q kd))) (fun M => fX11_readLines_2 f M (nI r) 1) else fX11_readLines_2 f S (nI r) 0 := by
  have v12 : v_in (nI r) 12 = true := v_in_nI (by omega) (by decide)
  have hcl : (nI r).toNatClampNeg = r := nI_clamp (by omega)
  have n0 : ¬ (0 : Int32) = 1 := by decide
  have i1 : ¬ (1 : Int32) = 0 := by decide
  rcases (show kd = 0 ∨ kd = 1 ∨ kd = 2 by omega) with rfl | rfl | rfl
  · have d0 : nI 0 = 0 := nI_0
    have d1 : ¬ nI 0 = 1 := by decide
    have d2 : ¬ nI 0 = 2 := by decide
    rw [fX11_readLines_2, if_neg i1, if_pos h.2.2, if_pos v12, hcl, h2, if_pos d0, r_isW h (id := 6) (by decide), bi_I]
    by_cases q6 : wdB b t e q 6 = true
    · rw [if_pos q6, if_neg i1, if_pos (show wdB b t e q (itmW 0) = true from q6)]
      rfl
    · rw [if_neg q6, if_pos (show (0 : Int32) = 0 from rfl), if_neg (show ¬ wdB b t e q (itmW 0) = true from q6), show bndB b t e q 0 = false from rfl, if_neg (show ¬ false = true by decide)]
      unfold fX11_readLines_39 fX11_readLines_69 fX11_readLines_98 fX11_readLines_127 fX11_readLines_157
      rw [if_pos v12, hcl, h2, if_neg d1, if_pos v12, if_neg d1, if_pos v12, if_neg d1, if_pos v12, if_neg d2, if_pos v12, if_neg d2]
  · have d0 : ¬ nI 1 = 0 := by decide
    have d1 : nI 1 = 1 := rfl
    have d2 : ¬ nI 1 = 2 := by decide
    rw [fX11_readLines_2, if_neg i1, if_pos h.2.2, if_pos v12, hcl, h2, if_neg d0]
    unfold fX11_readLines_39
    rw [if_pos v12, hcl, h2, if_pos d1, r_isW h (id := 7) (by decide), bi_I]
    by_cases q7 : wdB b t e q 7 = true
    · rw [if_pos q7, if_neg i1, if_pos (show wdB b t e q (itmW 1) = true from q7)]
      rfl
    · rw [if_neg q7, if_pos (show (0 : Int32) = 0 from rfl), if_neg (show ¬ wdB b t e q (itmW 1) = true from q7)]
      unfold fX11_readLines_69
      rw [if_pos v12, hcl, h2, if_pos d1, r_isW h (id := 8) (by decide), bi_I]
      by_cases q8 : wdB b t e q 8 = true
      · have eb : bndB b t e q 1 = true := by
          unfold bndB
          rw [if_pos rfl, q8]
          rfl
        have ek : bndK b t e q 1 = 0 := by
          unfold bndK
          rw [if_pos rfl, if_pos q8]
        rw [if_pos q8, if_neg i1, if_pos eb, ek, nI_0]
      · unfold fX11_readLines_98
        rw [if_neg q8, if_pos (show (0 : Int32) = 0 from rfl), if_pos v12, hcl, h2, if_pos d1, r_isW h (id := 9) (by decide), bi_I]
        by_cases q9 : wdB b t e q 9 = true
        · have eb : bndB b t e q 1 = true := by
            unfold bndB
            rw [if_pos rfl, q9, Bool.or_true]
          have ek : bndK b t e q 1 = 1 := by
            unfold bndK
            rw [if_pos rfl, if_neg q8]
          rw [if_pos q9, if_neg i1, if_pos eb, ek]
          rfl
        · have eb : ¬ bndB b t e q 1 = true := by
            unfold bndB
            rw [if_pos rfl, ts_nt q8, ts_nt q9]
            decide
          unfold fX11_readLines_127 fX11_readLines_157
          rw [if_neg q9, if_pos (show (0 : Int32) = 0 from rfl), if_pos v12, hcl, h2, if_neg d2, if_pos v12, if_neg d2, if_neg eb]
  · have d0 : ¬ nI 2 = 0 := by decide
    have d1 : ¬ nI 2 = 1 := by decide
    have d2 : nI 2 = 2 := rfl
    rw [fX11_readLines_2, if_neg i1, if_pos h.2.2, if_pos v12, hcl, h2, if_neg d0]
    unfold fX11_readLines_39 fX11_readLines_69 fX11_readLines_98 fX11_readLines_127
    rw [if_pos v12, hcl, h2, if_neg d1, if_pos v12, if_neg d1, if_pos v12, if_neg d1, if_pos v12, if_pos d2, r_isW h (id := 10) (by decide), bi_I]
    by_cases q7 : wdB b t e q 10 = true
    · rw [if_pos q7, if_neg i1, if_pos (show wdB b t e q (itmW 2) = true from q7)]
      rfl
    · unfold fX11_readLines_157
      rw [if_neg q7, if_pos (show (0 : Int32) = 0 from rfl), if_neg (show ¬ wdB b t e q (itmW 2) = true from q7), if_pos v12, hcl, h2, if_pos d2, r_isW h (id := 11) (by decide), bi_I]
      have eb : bndB b t e q 2 = wdB b t e q 11 := rfl
      by_cases q8 : wdB b t e q 11 = true
      · rw [if_pos q8, if_neg i1, eb, if_pos q8, show bndK b t e q 2 = 0 from rfl, nI_0]
      · rw [if_neg q8, if_pos (show (0 : Int32) = 0 from rfl), eb, if_neg q8]
/-- the class's two questions -/
theorem c_item (h : psR N S L b t e q) (h0 : N.1 p 0 = nI kd) (hk : kd ≤ 2) : fX4_isItem N p = rI (if wdB b t e q (itmW kd) = true then 1 else 0) N := by
  have fin : ∀ id, id < 13 → fX4_isItem_28 N id = rI (if wdB b t e q id = true then 1 else 0) N := fun id hid => by
    unfold fX4_isItem_28
    rw [c_isW h hid, bi_I]
    by_cases z : wdB b t e q id = true
    · rw [if_pos z, if_pos v_nz1]
    · rw [if_neg z, if_pos (show v_nz 0 = 0 by decide)]
  unfold fX4_isItem
  rw [h0]
  rcases (show kd = 0 ∨ kd = 1 ∨ kd = 2 by omega) with rfl | rfl | rfl
  · rw [if_pos (show nI 0 = 0 from nI_0)]
    exact fin 6 (by decide)
  · rw [if_neg (show ¬ nI 1 = 0 by decide), if_pos (show nI 1 = 1 from rfl)]
    exact fin 7 (by decide)
  · rw [if_neg (show ¬ nI 2 = 0 by decide), if_neg (show ¬ nI 2 = 1 by decide)]
    exact fin 10 (by decide)
theorem c_bond (h : psR N S L b t e q) (h0 : N.1 p 0 = nI kd) (hk : kd ≤ 2) : fX4_isBond N p = rI (if bndB b t e q kd = true then 1 else 0) N := by
  unfold fX4_isBond bndB
  rw [h0]
  rcases (show kd = 0 ∨ kd = 1 ∨ kd = 2 by omega) with rfl | rfl | rfl
  · rfl
  · rw [if_pos (show nI 1 = 1 from rfl), if_pos (show (1 : Nat) = 1 from rfl), c_isW h (id := 8) (by decide), bi_I]
    by_cases q8 : wdB b t e q 8 = true
    · rw [if_pos q8, if_neg (show ¬ (1 : Int32) = 0 by decide), q8]
      rfl
    · rw [if_neg q8, if_pos (show (0 : Int32) = 0 from rfl), c_isW h (id := 9) (by decide), bi_I, ts_nt q8, Bool.false_or]
      by_cases q9 : wdB b t e q 9 = true
      · rw [if_pos q9, if_neg (show ¬ (1 : Int32) = 0 by decide)]
      · rw [if_neg q9, if_pos (show (0 : Int32) = 0 from rfl)]
  · rw [if_neg (show ¬ nI 2 = 1 by decide), if_pos (show nI 2 = 2 from rfl), if_neg (show ¬ (2 : Nat) = 1 by decide), if_pos (show (2 : Nat) = 2 from rfl), c_isW h (id := 11) (by decide), bi_I]
    by_cases q8 : wdB b t e q 11 = true
    · rw [if_pos q8, if_neg (show ¬ (1 : Int32) = 0 by decide)]
    · rw [if_neg q8, if_pos (show (0 : Int32) = 0 from rfl)]
/-- one turn of the class's loop -/
theorem c_turn (h : gd N S L b t e q) (ht : t ≠ 0) {x : Nat} (hx : x ≤ e) (f : Nat) : fX4_readTown_26 (f + 1) N (nI x) = if hdI b t e q = -1 then bi (fX4_readMore N) fun _ M10 => fX4_readTown_26 f M10 (nI (x + 1)) else bi (fX4_readHead N (hdI b t e q)) fun _ M14 => fX4_readTown_26 f M14 (nI (x + 1)) := by
  obtain ⟨h1, -, -, -, -, -, h7, -, -, -, -, -, h13, h14, h15, h16⟩ := id h.1
  have hL := h1.1
  have hee := h16 ht
  rw [fX4_readTown_26, if_neg (show ¬ (700 : Int32) < nI x from nI_nlt (show x ≤ 700 by omega) (by decide)), h7, if_neg (nI_ne0 (by omega) (by omega)), if_pos h.2.1, c_isW h.1 (id := 0) (by decide), bi_I]
  unfold fX4_readTown_87 hdI
  by_cases q0 : wdB b t e q 0 = true
  · rw [if_pos q0, if_neg (show ¬ (1 : Int32) = 0 by decide), if_pos q0, nI_1]
  · rw [if_neg q0, if_pos (show (0 : Int32) = 0 from rfl), if_neg q0, c_isW h.1 (id := 1) (by decide), bi_I]
    by_cases q1 : wdB b t e q 1 = true
    · rw [if_pos q1, if_neg (show ¬ (1 : Int32) = 0 by decide), if_pos q1, nI_1]
    · rw [if_neg q1, if_pos (show (0 : Int32) = 0 from rfl), if_neg q1, c_isW h.1 (id := 2) (by decide), bi_I]
      by_cases q2 : wdB b t e q 2 = true
      · rw [if_pos q2, if_neg (show ¬ (1 : Int32) = 0 by decide), if_pos q2, nI_1]
      · rw [if_neg q2, if_pos (show (0 : Int32) = 0 from rfl), if_neg q2, nI_1]
theorem c_over (h : ¬ N.1 3 7 = 0) (x : Int32) (f : Nat) : fX4_readTown_26 (f + 1) N x = rI (N.1 3 7) N := by
  rw [fX4_readTown_26, if_neg h]
  split
  · rfl
  · split <;> rfl
theorem c_end (h : N.1 3 3 = 0) (x : Int32) (f : Nat) : fX4_readTown_26 (f + 1) N x = rI (N.1 3 7) N := by
  rw [fX4_readTown_26, if_pos h]
  split <;> rfl
theorem hdI_n (h : hdI b t e q ≠ -1) : ∃ k, k ≤ 2 ∧ hdI b t e q = nI k ∧ wdB b t e q k = true := by
  unfold hdI at h ⊢
  by_cases q0 : wdB b t e q 0 = true
  · rw [if_pos q0]
    exact ⟨0, by decide, nI_0.symm, q0⟩
  · by_cases q1 : wdB b t e q 1 = true
    · rw [if_neg q0, if_pos q1]
      exact ⟨1, by decide, rfl, q1⟩
    · by_cases q2 : wdB b t e q 2 = true
      · rw [if_neg q0, if_neg q1, if_pos q2]
        exact ⟨2, by decide, rfl, q2⟩
      · rw [if_neg q0, if_neg q1, if_neg q2] at h
        exact absurd rfl h
theorem bv_b {f : Option (vR × vM)} {g : vM → vM} {K : vM → Option (vR × vM)} : bv (bv f fun M => rV (g M)) K = bv f fun M => K (g M) := by
  rcases f with _ | ⟨(k | (_ | v)), M⟩ <;> rfl
end P59
