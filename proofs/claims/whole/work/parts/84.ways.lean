section P44
variable {N N0 S S0 : vM} {i w : Nat}
/-! ways as they come: a list of keys (the cost above the bits of the mark) -/
theorem gD_l : ∀ (l m : List Nat) (k : Nat), k < l.length → (l ++ m).getD k 0 = l.getD k 0
  | [], _, _, h => absurd h (Nat.not_lt_zero _)
  | _ :: _, _, 0, _ => rfl
  | _ :: l, m, k + 1, h => gD_l l m k (Nat.lt_of_succ_lt_succ h)
theorem gD_r : ∀ (l : List Nat) (x : Nat), (l ++ [x]).getD l.length 0 = x
  | [], _ => rfl
  | _ :: l, x => gD_r l x
def gK (L : List Nat) : Nat → Nat := fun k => L.getD k 0
theorem gK_put (L : List Nat) (x : Nat) : ∀ k, k < (L ++ [x]).length → gK (L ++ [x]) k = put1 (gK L) L.length x k := by
  intro k hk
  rw [List.length_append, List.length_singleton] at hk
  by_cases q : k = L.length
  · rw [q, put1_s]
    exact gD_r L x
  · rw [put1_n q]
    exact gD_l L [x] k (by omega)
/-- the class's work at w holds the list; all else is as at the start -/
def cWy (N0 N : vM) (w : Nat) (L : List Nat) : Prop :=
  N.1 w 1 = nI L.length ∧ cKy N w L.length (gK L) ∧ (∀ c, c ≠ w → N.1 c = N0.1 c) ∧ (∀ j, j ≠ 1 → N.1 w j = N0.1 w j) ∧ N.2.2 = N0.2.2 ∧ ∀ c, c ≠ w + 7 → N.2.1 c = N0.2.1 c
/-- so does the reference's -/
def rWy (S0 S : vM) (i : Nat) (L : List Nat) : Prop :=
  S.1 145 i = nI L.length ∧ rKy S i L.length (gK L) ∧ S.2 = S0.2 ∧ (∀ c, c ≠ 145 → c ≠ 146 → c ≠ 147 → S.1 c = S0.1 c) ∧ (∀ j, j ≠ i → S.1 145 j = S0.1 145 j) ∧ ∀ c j, c ≠ 145 → (j < 2000 * i ∨ 2000 * i + 2000 ≤ j) → S.1 c j = S0.1 c j
theorem key_e {c b : Nat} (hc : c ≤ 1048575) (hb : b < 1048576) : ((Int32.toInt64 (nI c)) <<< (Int32.toInt64 20 &&& 63)) ||| (Int32.toInt64 (nI b)) = lN (c * 1048576 + b) := by
  rw [nI_l (by omega), nI_l (by omega), show (20 : Int32) = nI 20 from rfl, wb_shl c (k := 20) (by decide)]
  exact g_orB (k := 20) (p := 2 ^ 20) rfl (by omega) (by omega)
theorem c_add {L : List Nat} {c b : Nat} (hw : (v_LAY (w + 7)).2.2 = 1458) (h : cWy N0 N w L) (hL : L.length < 1458) (hc : c ≤ 1048575) (hb : b < 1048576) : ∃ N', fX9_addWay N w (nI b) (nI c) = rV N' ∧ cWy N0 N' w (L ++ [c * 1048576 + b]) := by
  obtain ⟨h1, h2, h3, h4, h5, h6⟩ := h
  refine ⟨v_si (v_sl N (w + 7) L.length (lN (c * 1048576 + b))) w 1 (nI (L.length + 1)), ?_, ?_, ?_, ?_, ?_, h5, ?_⟩
  · unfold fX9_addWay
    rw [h1, if_neg (nI_ge (by omega) (by decide)), if_pos (v_in_nI (by omega) (by decide)), nI_clamp (by omega), key_e hc hb, show (v_sl N (w + 7) L.length (lN (c * 1048576 + b))).1 w 1 = nI L.length from h1, nI_1]
  · rw [si_s, List.length_append, List.length_singleton]
  · intro k hk
    have e := gK_put L (c * 1048576 + b) k hk
    rw [List.length_append, List.length_singleton] at hk
    rw [e]
    show (v_sl N (w + 7) L.length (lN (c * 1048576 + b))).2.1 (w + 7) k = _ ∧ _
    by_cases q : k = L.length
    · rw [q, sl_s, put1_s]
      exact ⟨rfl, by omega⟩
    · rw [sl_n q, put1_n q]
      exact h2 k (by omega)
  · intro c' hc'
    rw [si_c hc']
    exact h3 c' hc'
  · intro j hj
    rw [si_n hj]
    exact h4 j hj
  · intro c' hc'
    show (v_sl N (w + 7) L.length (lN (c * 1048576 + b))).2.1 c' = _
    rw [sl_c hc']
    exact h6 c' hc'
theorem r_add {L : List Nat} {c b : Nat} (hi : i < 6) (h : rWy S0 S i L) (hL : L.length < 1458) (hc : c ≤ 1048575) (hb : b < 1048576) : ∃ S', fX11_addWay S (nI i) (nI c) (nI b) = rV S' ∧ rWy S0 S' i (L ++ [c * 1048576 + b]) := by
  obtain ⟨h1, h2, h3, h4, h5, h6⟩ := h
  have ei : v_in (nI i) 6 = true := v_in_nI hi (by decide)
  have ek : v_in (nI (2000 * i + L.length)) 12000 = true := r_in hi (by omega)
  refine ⟨v_si (v_si (v_si S 146 (2000 * i + L.length) (nI c)) 147 (2000 * i + L.length) (nI b)) 145 i (nI (L.length + 1)), ?_, ?_, ?_, h3, ?_, ?_, ?_⟩
  · unfold fX11_addWay
    rw [if_pos ei, nI_clamp (n := i) (by omega), h1, e_ix, if_pos ek, if_pos ei, nI_clamp (n := 2000 * i + L.length) (by omega), si_c (show (145 : Nat) ≠ 146 by decide), h1, e_ix, if_pos ek, if_pos ei, if_pos ei, nI_clamp (n := 2000 * i + L.length) (by omega), si_c (show (145 : Nat) ≠ 147 by decide), si_c (show (145 : Nat) ≠ 146 by decide), h1, nI_1]
  · rw [si_s, List.length_append, List.length_singleton]
  · intro k hk
    have e := gK_put L (c * 1048576 + b) k hk
    rw [List.length_append, List.length_singleton] at hk
    rw [e, si_c (show (146 : Nat) ≠ 145 by decide), si_c (show (146 : Nat) ≠ 147 by decide), si_c (show (147 : Nat) ≠ 145 by decide)]
    by_cases q : k = L.length
    · rw [q, si_s, si_s, put1_s]
      exact ⟨by congr 1; omega, by congr 1; omega, by omega⟩
    · rw [si_n (by omega), si_n (by omega), si_c (show (147 : Nat) ≠ 146 by decide), put1_n q]
      exact h2 k (by omega)
  · intro c' q1 q2 q3
    rw [si_c q1, si_c q3, si_c q2]
    exact h4 c' q1 q2 q3
  · intro j hj
    rw [si_n hj, si_c (by decide), si_c (by decide)]
    exact h5 j hj
  · intro c' j q1 q2
    rw [si_c q1]
    show (if c' = 147 ∧ j = 2000 * i + L.length then _ else if c' = 146 ∧ j = 2000 * i + L.length then _ else S.1 c' j) = _
    rw [if_neg (by omega), if_neg (by omega)]
    exact h6 c' j q1 q2
/-- lists one behind the other -/
def catF (g : Nat → List Nat) : Nat → Nat → List Nat
  | 0, _ => []
  | n + 1, s => g s ++ catF g n (s + 1)
theorem cat_mem {g : Nat → List Nat} : ∀ n s x, x ∈ catF g n s → ∃ t, s ≤ t ∧ t < s + n ∧ x ∈ g t
  | 0, _, _, h => by cases h
  | n + 1, s, x, h => by
    unfold catF at h
    rcases List.mem_append.mp h with z | z
    · exact ⟨s, Nat.le_refl s, by omega, z⟩
    · obtain ⟨t, a, b, c⟩ := cat_mem n (s + 1) x z
      exact ⟨t, by omega, by omega, c⟩
theorem cat_len {g : Nat → List Nat} {p : Nat → Prop} [DecidablePred p] {B : Nat} : ∀ n s, (∀ t, s ≤ t → t < s + n → (g t).length ≤ if p t then B else 0) → (catF g n s).length ≤ cntF p n s * B
  | 0, _, _ => by
    show 0 ≤ _
    exact Nat.zero_le _
  | n + 1, s, h => by
    have h1 := h s (Nat.le_refl s) (by omega)
    have h2 := cat_len (g := g) (p := p) (B := B) n (s + 1) (fun t a b => h t (by omega) (by omega))
    show (g s ++ catF g n (s + 1)).length ≤ ((if p s then 1 else 0) + cntF p n (s + 1)) * B
    rw [List.length_append, Nat.add_mul]
    by_cases q : p s
    · rw [if_pos q] at h1 ⊢
      omega
    · rw [if_neg q] at h1 ⊢
      omega
def mkR (a b : Nat) : Prop := a % 1048576 ≠ b % 1048576
theorem cat_pw {g : Nat → List Nat} : ∀ n s, (∀ t, s ≤ t → t < s + n → (g t).Pairwise mkR) → (∀ t t', s ≤ t → t < t' → t' < s + n → ∀ x, x ∈ g t → ∀ y, y ∈ g t' → mkR x y) → (catF g n s).Pairwise mkR
  | 0, _, _, _ => List.Pairwise.nil
  | n + 1, s, h1, h2 => by
    unfold catF
    refine List.pairwise_append.mpr ⟨h1 s (Nat.le_refl s) (by omega), cat_pw n (s + 1) (fun t a b => h1 t (by omega) (by omega)) (fun t t' a b c => h2 t t' (by omega) b (by omega)), fun x hx y hy => ?_⟩
    obtain ⟨t, a, b, c⟩ := cat_mem n (s + 1) y hy
    exact h2 s t (Nat.le_refl s) (by omega) (by omega) x hx y c
theorem pw_get : ∀ (L : List Nat), L.Pairwise mkR → ∀ j k, j < k → k < L.length → mkR (gK L j) (gK L k)
  | [], _, _, _, _, h => absurd h (Nat.not_lt_zero _)
  | a :: L, h, j, k, h1, h2 => by
    obtain ⟨p1, p2⟩ := List.pairwise_cons.mp h
    cases k with
    | zero => exact absurd h1 (Nat.not_lt_zero _)
    | succ k =>
      cases j with
      | zero => exact p1 _ (getD_mem L k 0 (Nat.lt_of_succ_lt_succ h2))
      | succ j => exact pw_get L p2 j k (Nat.lt_of_succ_lt_succ h1) (Nat.lt_of_succ_lt_succ h2)
theorem gK_all {L : List Nat} {P : Nat → Prop} (h : ∀ x, x ∈ L → P x) {k : Nat} (hk : k < L.length) : P (gK L k) := h _ (getD_mem L k 0 hk)
end P44
