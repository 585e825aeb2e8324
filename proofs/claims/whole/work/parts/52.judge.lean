section P12
variable {M M' : vM} {i : Nat}
theorem nI_ne1 {k : Nat} (h : k < 2 ^ 31) : ¬ nI k = -1 := fun e => absurd (show nI k < 0 by rw [e]; decide) (nI_pos h)
theorem fndF_yes (p : Nat → Prop) [DecidablePred p] : ∀ n k, fndF p n k ≠ -1 → ∃ j, k ≤ j ∧ j < k + n ∧ p j ∧ fndF p n k = nI j
  | 0, k, h => absurd rfl h
  | n + 1, k, h => by
    have e : fndF p (n + 1) k = if p k then nI k else fndF p n (k + 1) := rfl
    by_cases q : p k
    · rw [if_pos q] at e
      exact ⟨k, Nat.le_refl _, by omega, q, e⟩
    · rw [if_neg q] at e
      rw [e] at h
      obtain ⟨j, a, b, c, d⟩ := fndF_yes p n (k + 1) h
      exact ⟨j, by omega, by omega, c, e.trans d⟩
theorem fndF_no (p : Nat → Prop) [DecidablePred p] : ∀ n k, k + n < 2 ^ 31 → fndF p n k = -1 → ∀ j, k ≤ j → j < k + n → ¬ p j
  | 0, k, _, h, j, h1, h2 => by omega
  | n + 1, k, hb, h, j, h1, h2 => by
    have e : fndF p (n + 1) k = if p k then nI k else fndF p n (k + 1) := rfl
    by_cases q : p k
    · rw [if_pos q] at e
      rw [e] at h
      exact absurd h (nI_ne1 (by omega))
    · rw [if_neg q] at e
      rw [e] at h
      by_cases q2 : j = k
      · rw [q2]; exact q
      · exact fndF_no p n (k + 1) (by omega) h j (by omega) (by omega)
/-- a mark that is found is a way's: small -/
theorem find_small (h : rWk M i) {x : Int32} (hx : sFind M.1 i x ≠ -1) : x = nI (qN x) ∧ qN x < 2 ^ 20 := by
  obtain ⟨j, -, hj, hp, -⟩ := fndF_yes _ _ _ hx
  have hj2 : j < qC M i := by
    rw [Nat.zero_add] at hj
    exact hj
  obtain ⟨a, b⟩ := mk_lt h hj2
  have hp2 : M.1 147 (2000 * i + j) = x := hp
  rw [← hp2, a, qN_nI (by omega)]
  exact ⟨rfl, b⟩
def sSm (A : Nat → Nat → Int32) (i : Nat) (m : Int32) (j : Nat) : Prop := sSame (A 134 i) (A (qw i) 3) (A 135 i) (qN m ^^^ qN (A 152 (100 * i + j))) = 1
/-- the list of those told, looked at from the i'-th on -/
def jOut (A : Nat → Nat → Int32) (i : Nat) (what : Nat) : Nat → Nat → Int32
  | 0, _ => -1
  | n + 1, k => if sFind A i (A 152 (100 * i + k)) = -1 then (if what = 0 then nI k else -1) else
      (if fndF (fun j => sSame (A 134 i) (A (qw i) 3) (A 135 i) (qN (A 152 (100 * i + k)) ^^^ qN (A 152 (100 * i + j))) = 1) k 0 = -1 then jOut A i what n (k + 1)
       else if what = 0 then nI k else fndF (fun j => sSame (A 134 i) (A (qw i) 3) (A 135 i) (qN (A 152 (100 * i + k)) ^^^ qN (A 152 (100 * i + j))) = 1) k 0)
theorem c_told (h : Rel M) (hi : i < qW M) {j : Nat} (hj : j < qN (M.1 151 i)) : fX1_toldAt M 6 (nI i) (nI j) = rI (M.1 152 (100 * i + j)) M := by
  have hW : qW M ≤ 6 := h.wks.2.2
  obtain ⟨-, h2, h3⟩ := h.led.2.2.1 i hi
  have := Nat.lt_of_lt_of_le hj h2.2
  unfold fX1_toldAt
  rw [show (100 : Int32) = nI 100 from rfl, ix_m, Nat.mul_comm i 100, show 6 + 4 = 10 from rfl, e_at (len := 600) rfl (by omega) (by decide), bi_I]
  rw [h3 j hj]
theorem l_j67 (h : Rel M) (hi : i < qW M) {K : vM → Int32 → Int32 → Nat → Int32 → Int32 → Option (vR × vM)} {what k : Nat} (hw : what < 2) {many : Int32} (hk : k < qN (M.1 151 i)) {m : Nat} (hm : m < 2 ^ 20) (hsm : ∀ j, j < k → M.1 152 (100 * i + j) = nI (qN (M.1 152 (100 * i + j))) ∧ qN (M.1 152 (100 * i + j)) < 2 ^ 20) :
    ∀ (n f j : Nat), n < f → j + n = k → fX10_judge_67 K f M (nI i) (nI what) (qw i) many (nI k) (nI m) (nI j) = (if fndF (fun j => sSame (M.1 134 i) (M.1 (qw i) 3) (M.1 135 i) (m ^^^ qN (M.1 152 (100 * i + j))) = 1) n j = -1 then K M (nI i) (nI what) (qw i) many (nI (k + 1)) else if what = 0 then rI (nI k) M else rI (fndF (fun j => sSame (M.1 134 i) (M.1 (qw i) 3) (M.1 135 i) (m ^^^ qN (M.1 152 (100 * i + j))) = 1) n j) M) := by
  have h100 : qN (M.1 151 i) ≤ 100 := (h.led.2.2.1 i hi).2.1.2
  intro n
  induction n with
  | zero =>
    intro f j hf hj
    cases f with
    | zero => exact absurd hf (Nat.not_lt_zero _)
    | succ f =>
      unfold fX10_judge_67
      rw [if_pos (nI_le (by omega) (by omega)), nI_1]
      exact (if_pos rfl).symm
  | succ n ih =>
    intro f j hf hj
    cases f with
    | zero => exact absurd hf (Nat.not_lt_zero _)
    | succ f =>
      obtain ⟨s1, s2⟩ := hsm j (by omega)
      unfold fX10_judge_67 fndF
      rw [if_neg (nI_ge (by omega) (by omega)), c_told h hi (by omega), bi_I, s1, c_areSame (h.wk hi) s2 hm, bi_I, Nat.xor_comm (qN (M.1 152 (100 * i + j))) m, ← s1]
      rcases sSame01 (M.1 134 i) (M.1 (qw i) 3) (M.1 135 i) (m ^^^ qN (M.1 152 (100 * i + j))) with q | q
      · rw [q, if_pos rfl, if_neg (show ¬ (0 : Int32) = 1 by decide), nI_1]
        exact ih f (j + 1) (by omega) (by omega)
      · rw [q, if_neg (by decide), if_pos rfl, if_neg (nI_ne1 (by omega))]
        by_cases w0 : what = 0
        · rw [if_pos (show nI what = 0 by rw [w0]; rfl), if_pos w0]
        · rw [if_neg (nI_ne0 (Nat.pos_of_ne_zero w0) (by omega)), if_neg w0]
theorem l_j77 (h : Rel M) (hi : i < qW M) {K : vM → Int32 → Int32 → Int32 → Option (vR × vM)} {what k : Nat} (hw : what < 2) (hk : k < qN (M.1 151 i)) {m : Nat} (hm : m < 2 ^ 20) (hsm : ∀ j, j < k → M.1 152 (100 * i + j) = nI (qN (M.1 152 (100 * i + j))) ∧ qN (M.1 152 (100 * i + j)) < 2 ^ 20) :
    ∀ (n f j : Nat), n < f → j + n = k → fX11_judge_77 K f M (nI i) (nI what) (nI k) (nI m) (nI j) = (if fndF (fun j => sSame (M.1 134 i) (M.1 (qw i) 3) (M.1 135 i) (m ^^^ qN (M.1 152 (100 * i + j))) = 1) n j = -1 then K M (nI i) (nI what) (nI (k + 1)) else if what = 0 then rI (nI k) M else rI (fndF (fun j => sSame (M.1 134 i) (M.1 (qw i) 3) (M.1 135 i) (m ^^^ qN (M.1 152 (100 * i + j))) = 1) n j) M) := by
  have h100 : qN (M.1 151 i) ≤ 100 := (h.led.2.2.1 i hi).2.1.2
  have hW : qW M ≤ 6 := h.wks.2.2
  intro n
  induction n with
  | zero =>
    intro f j hf hj
    cases f with
    | zero => exact absurd hf (Nat.not_lt_zero _)
    | succ f =>
      unfold fX11_judge_77
      rw [if_pos (nI_le (by omega) (by omega)), nI_1]
      exact (if_pos rfl).symm
  | succ n ih =>
    intro f j hf hj
    cases f with
    | zero => exact absurd hf (Nat.not_lt_zero _)
    | succ f =>
      obtain ⟨s1, s2⟩ := hsm j (by omega)
      unfold fX11_judge_77 fndF
      rw [if_neg (nI_ge (by omega) (by omega)), show (100 : Int32) = nI 100 from rfl, ix_m, if_pos (v_in_nI (show 100 * i + j < 600 by omega) (by decide)), nI_clamp (by omega), s1, r_alike (h.wk hi) (by omega) hm s2, bi_I, ← s1]
      rcases sSame01 (M.1 134 i) (M.1 (qw i) 3) (M.1 135 i) (m ^^^ qN (M.1 152 (100 * i + j))) with q | q
      · rw [q, if_pos rfl, if_neg (show ¬ (0 : Int32) = 1 by decide), nI_1]
        exact ih f (j + 1) (by omega) (by omega)
      · rw [q, if_neg (by decide), if_pos rfl, if_neg (nI_ne1 (by omega))]
        by_cases w0 : what = 0
        · rw [if_pos (show nI what = 0 by rw [w0]; rfl), if_pos w0]
        · rw [if_neg (nI_ne0 (Nat.pos_of_ne_zero w0) (by omega)), if_neg w0]
theorem l_j24 (h : Rel M) (hi : i < qW M) {what : Nat} (hw : what < 2) : ∀ (n f k : Nat), n < f → k + n = qN (M.1 151 i) → (∀ j, j < k → sFind M.1 i (M.1 152 (100 * i + j)) ≠ -1) → fX10_judge_24 f M (nI i) (nI what) (qw i) (M.1 151 i) (nI k) = rI (jOut M.1 i what n k) M := by
  have h100 : qN (M.1 151 i) ≤ 100 := (h.led.2.2.1 i hi).2.1.2
  have h151 : M.1 151 i = nI (qN (M.1 151 i)) := (h.led.2.2.1 i hi).2.1.1
  intro n
  induction n with
  | zero =>
    intro f k hf hk hs
    cases f with
    | zero => exact absurd hf (Nat.not_lt_zero _)
    | succ f =>
      unfold fX10_judge_24
      rw [if_pos (by rw [h151]; exact nI_le (by omega) (by omega))]
      rfl
  | succ n ih =>
    intro f k hf hk hs
    cases f with
    | zero => exact absurd hf (Nat.not_lt_zero _)
    | succ f =>
      unfold fX10_judge_24 jOut
      rw [if_neg (by rw [h151]; exact nI_ge (by omega) (by omega)), c_told h hi (by omega), bi_I, c_withMark (h.wk hi), bi_I]
      by_cases q : sFind M.1 i (M.1 152 (100 * i + k)) = -1
      · rw [if_pos q, if_pos q]
        by_cases w0 : what = 0
        · rw [if_pos (show nI what = 0 by rw [w0]; rfl), if_pos w0]
        · rw [if_neg (nI_ne0 (Nat.pos_of_ne_zero w0) (by omega)), if_neg w0]
      · rw [if_neg q, if_neg q]
        obtain ⟨m1, m2⟩ := find_small (h.wk hi) q
        have e := l_j67 h hi (K := fX10_judge_24 f) (many := M.1 151 i) hw (k := k) (by omega) m2 (fun j hj => find_small (h.wk hi) (hs j hj)) k FU 0 (FU_lt (by omega)) (Nat.zero_add _)
        rw [nI_0, ← m1] at e
        rw [e, ih f (k + 1) (by omega) (by omega) (fun j hj => by
          by_cases qj : j = k
          · rw [qj]; exact q
          · exact hs j (by omega))]
        by_cases q2 : fndF (fun j => sSame (M.1 134 i) (M.1 (qw i) 3) (M.1 135 i) (qN (M.1 152 (100 * i + k)) ^^^ qN (M.1 152 (100 * i + j))) = 1) k 0 = -1
        · rw [if_pos q2, if_pos q2]
        · rw [if_neg q2, if_neg q2]
          by_cases w0 : what = 0
          · rw [if_pos w0, if_pos w0]
          · rw [if_neg w0, if_neg w0]
theorem l_j30 (h : Rel M) (hi : i < qW M) {what : Nat} (hw : what < 2) : ∀ (n f k : Nat), n < f → k + n = qN (M.1 151 i) → (∀ j, j < k → sFind M.1 i (M.1 152 (100 * i + j)) ≠ -1) → fX11_judge_30 f M (nI i) (nI what) (nI k) = rI (jOut M.1 i what n k) M := by
  have h100 : qN (M.1 151 i) ≤ 100 := (h.led.2.2.1 i hi).2.1.2
  have h151 : M.1 151 i = nI (qN (M.1 151 i)) := (h.led.2.2.1 i hi).2.1.1
  have hW : qW M ≤ 6 := h.wks.2.2
  intro n
  induction n with
  | zero =>
    intro f k hf hk hs
    cases f with
    | zero => exact absurd hf (Nat.not_lt_zero _)
    | succ f =>
      unfold fX11_judge_30
      rw [if_pos (v_in_nI (by omega) (by decide)), nI_clamp (by omega), if_pos (by rw [h151]; exact nI_le (by omega) (by omega))]
      rfl
  | succ n ih =>
    intro f k hf hk hs
    cases f with
    | zero => exact absurd hf (Nat.not_lt_zero _)
    | succ f =>
      unfold fX11_judge_30 jOut
      rw [if_pos (v_in_nI (by omega) (by decide)), nI_clamp (by omega), if_neg (by rw [h151]; exact nI_ge (by omega) (by omega)), show (100 : Int32) = nI 100 from rfl, ix_m, if_pos (v_in_nI (show 100 * i + k < 600 by omega) (by decide)), nI_clamp (by omega), r_findOf (h.wk hi) (by omega), bi_I]
      by_cases q : sFind M.1 i (M.1 152 (100 * i + k)) = -1
      · rw [if_pos q, if_pos q]
        by_cases w0 : what = 0
        · rw [if_pos (show nI what = 0 by rw [w0]; rfl), if_pos w0]
        · rw [if_neg (nI_ne0 (Nat.pos_of_ne_zero w0) (by omega)), if_neg w0]
      · rw [if_neg q, if_neg q]
        obtain ⟨m1, m2⟩ := find_small (h.wk hi) q
        have e := l_j77 h hi (K := fX11_judge_30 f) hw (k := k) (by omega) m2 (fun j hj => find_small (h.wk hi) (hs j hj)) k FU 0 (FU_lt (by omega)) (Nat.zero_add _)
        rw [nI_0, ← m1] at e
        rw [e, ih f (k + 1) (by omega) (by omega) (fun j hj => by
          by_cases qj : j = k
          · rw [qj]; exact q
          · exact hs j (by omega))]
        by_cases q2 : fndF (fun j => sSame (M.1 134 i) (M.1 (qw i) 3) (M.1 135 i) (qN (M.1 152 (100 * i + k)) ^^^ qN (M.1 152 (100 * i + j))) = 1) k 0 = -1
        · rw [if_pos q2, if_pos q2]
        · rw [if_neg q2, if_neg q2]
          by_cases w0 : what = 0
          · rw [if_pos w0, if_pos w0]
          · rw [if_neg w0, if_neg w0]
theorem jOut_c {M1 : vM} (e : M1.1 = M.1) (hi : i < 6) (what : Nat) : ∀ n k, jOut (v_si M1 130 1 0).1 i what n k = jOut M.1 i what n k := by
  have rd : ∀ c d, c ≠ 130 → (v_si M1 130 1 0).1 c d = M.1 c d := fun c d hcd => by rw [si_c hcd, e]
  have hq : qw i ≠ 130 := by show 46 + 15 * i ≠ 130; omega
  intro n
  induction n with
  | zero => intro k; rfl
  | succ n ih =>
    intro k
    simp only [jOut, sFind, rd 152 _ (by decide), rd 147 _ (by decide), rd 145 _ (by decide), rd 134 _ (by decide), rd 135 _ (by decide), rd (qw i) _ hq, ih]
    rfl
theorem o12 (h : Rel M) (x y : Int32) : okS (fun K => gWr (fL_judge M x y) (fun M1 => fX11_judge M1 x y) K) := by
  unfold fL_judge
  rcases isWk h x with ⟨a, b⟩ | ⟨i, hi, rfl⟩
  · refine fin_f1 h (by unfold fX10_judge; rw [a]; rfl) rfl ?_
    unfold fX11_judge
    rw [b (v_si M 130 1 0) rfl, bi_I, if_pos rfl]
    rfl
  have h6 : i < 6 := by have := h.W1.2.1; omega
  rcases wWhat (M := M) (x := y) (n := 2) (by decide) with ⟨a, b⟩ | ⟨v, hv, rfl⟩
  · refine fin_f1 h (by unfold fX10_judge; rw [wOf h hi, br_R, show (2 : Int32) = nI 2 from rfl, a]; rfl) rfl ?_
    unfold fX11_judge
    rw [rOf (c0 h) hi, bi_I, if_neg (by decide), rWhat2 b]
    rfl
  have h100 : qN (M.1 151 i) ≤ 100 := (h.led.2.2.1 i hi).2.1.2
  refine fin_ro h (z := jOut M.1 i v (qN (M.1 151 i)) 0) ?_ (fun M1 e h1 => ?_)
  · unfold fX10_judge
    rw [wOf h hi, br_R, show fX10_refuseUnlessWhat M (nI v) 2 = rV M from wWhatY (n := 2) hv (by decide), bv_V, c_toldOf h hi, bi_I]
    exact l_j24 h hi hv (qN (M.1 151 i)) FU 0 (FU_lt (by omega)) (Nat.zero_add _) (fun j hj => absurd hj (Nat.not_lt_zero _))
  · have h2 := c0 h1
    have hi1 := qW_c (i := i) e hi
    have e151 : (v_si M1 130 1 0).1 151 i = M.1 151 i := by rw [si_c (by decide), e]
    unfold fX11_judge
    rw [rOf h2 hi1, bi_I, if_neg (by decide), rWhat2' hv]
    have e3 := l_j30 h2 hi1 hv (qN (M.1 151 i)) FU 0 (FU_lt (by omega)) (by rw [e151]; exact Nat.zero_add _) (fun j hj => absurd hj (Nat.not_lt_zero _))
    rw [jOut_c e h6] at e3
    exact e3
end P12
