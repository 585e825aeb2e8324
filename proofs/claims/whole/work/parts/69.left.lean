section P29
variable {M N : vM} {i : Nat}
/-- those of n from k on that fulfil p, in their order; the r-th of a list -/
def unF (p : Nat → Prop) [DecidablePred p] : Nat → Nat → List Nat
  | 0, _ => []
  | n + 1, k => if p k then k :: unF p n (k + 1) else unF p n (k + 1)
def atL (l : List Nat) (r : Nat) : Int32 := if r < l.length then nI (l.getD r 0) else -1
theorem unF_mem (p : Nat → Prop) [DecidablePred p] : ∀ n k w, w ∈ unF p n k → k ≤ w ∧ w < k + n ∧ p w
  | 0, _, w, h => by cases h
  | n + 1, k, w, h => by
    unfold unF at h
    by_cases q : p k
    · rw [if_pos q] at h
      rcases List.mem_cons.mp h with z | z
      · rw [z]; exact ⟨Nat.le_refl _, by omega, q⟩
      · have := unF_mem p n (k + 1) w z
        exact ⟨by omega, by omega, this.2.2⟩
    · rw [if_neg q] at h
      have := unF_mem p n (k + 1) w h
      exact ⟨by omega, by omega, this.2.2⟩
theorem unF_in (p : Nat → Prop) [DecidablePred p] : ∀ n k w, k ≤ w → w < k + n → p w → w ∈ unF p n k
  | 0, k, w, h1, h2, _ => absurd h2 (by omega)
  | n + 1, k, w, h1, h2, h3 => by
    unfold unF
    by_cases q : k = w
    · subst q
      rw [if_pos h3]
      exact List.mem_cons_self
    · have := unF_in p n (k + 1) w (by omega) (by omega) h3
      split
      · exact List.mem_cons_of_mem _ this
      · exact this
theorem unF_len (p : Nat → Prop) [DecidablePred p] : ∀ n k, (unF p n k).length = cntF p n k
  | 0, _ => rfl
  | n + 1, k => by
    unfold unF cntF
    by_cases q : p k
    · rw [if_pos q, if_pos q, List.length_cons, unF_len p n (k + 1), Nat.add_comm]
    · rw [if_neg q, if_neg q, unF_len p n (k + 1), Nat.zero_add]
theorem cnt_le (p : Nat → Prop) [DecidablePred p] : ∀ n k, cntF p n k ≤ n
  | 0, _ => Nat.le_refl 0
  | n + 1, k => by
    have := cnt_le p n (k + 1)
    unfold cntF
    split <;> omega
theorem atL_0 (a : Nat) (l : List Nat) : atL (a :: l) 0 = nI a := if_pos (Nat.succ_pos _)
theorem atL_s (a : Nat) (l : List Nat) (r : Nat) : atL (a :: l) (r + 1) = atL l r := by
  unfold atL
  rw [List.length_cons]
  by_cases q : r < l.length
  · rw [if_pos q, if_pos (by omega)]
    rfl
  · rw [if_neg q, if_neg (by omega)]
theorem fnd_at (p : Nat → Prop) [DecidablePred p] : ∀ n k, fndF p n k = atL (unF p n k) 0
  | 0, _ => rfl
  | n + 1, k => by
    unfold fndF unF
    by_cases q : p k
    · rw [if_pos q, if_pos q, atL_0]
    · rw [if_neg q, if_neg q, fnd_at p n (k + 1)]
theorem nI_ne {a b : Nat} (ha : a < 2 ^ 31) (hb : b < 2 ^ 31) (h : a ≠ b) : ¬ nI a = nI b := fun e => h (by
  have := congrArg Int32.toNatClampNeg e
  rw [nI_clamp ha, nI_clamp hb] at this
  exact this)
theorem nth_at (p : Nat → Prop) [DecidablePred p] (r : Nat) (hr : r < 2 ^ 30) : ∀ n k s, s ≤ r → nthF p (nI r) n k s = atL (unF p n k) (r - s)
  | 0, _, _, _ => rfl
  | n + 1, k, s, h => by
    unfold nthF unF
    by_cases q : p k
    · rw [if_pos q, if_pos q]
      by_cases z : s = r
      · rw [z, if_pos rfl, Nat.sub_self, atL_0]
      · rw [if_neg (nI_ne (by omega) (by omega) z), nth_at p r hr n (k + 1) (s + 1) (by omega), show r - s = (r - (s + 1)) + 1 by omega, atL_s]
    · rw [if_neg q, if_neg q, nth_at p r hr n (k + 1) s h]
/-- what comes behind the r-th -/
theorem fnd_nx (p : Nat → Prop) [DecidablePred p] : ∀ n k r, r < (unF p n k).length → fndF p (k + n - ((unF p n k).getD r 0 + 1)) ((unF p n k).getD r 0 + 1) = atL (unF p n k) (r + 1)
  | 0, _, _, h => absurd h (Nat.not_lt_zero _)
  | n + 1, k, r, h => by
    have e : unF p (n + 1) k = if p k then k :: unF p n (k + 1) else unF p n (k + 1) := rfl
    by_cases q : p k
    · rw [if_pos q] at e
      rw [e] at h ⊢
      cases r with
      | zero =>
        show fndF p (k + (n + 1) - (k + 1)) (k + 1) = _
        rw [atL_s, ← fnd_at, show k + (n + 1) - (k + 1) = n by omega]
      | succ r =>
        show fndF p (k + (n + 1) - ((unF p n (k + 1)).getD r 0 + 1)) ((unF p n (k + 1)).getD r 0 + 1) = _
        rw [atL_s, ← fnd_nx p n (k + 1) r (by rw [List.length_cons] at h; omega), show k + (n + 1) = k + 1 + n by omega]
    · rw [if_neg q] at e
      rw [e] at h ⊢
      rw [← fnd_nx p n (k + 1) r h, show k + (n + 1) = k + 1 + n by omega]
/-- the ways left of a work -/
def uL (A : Nat → Nat → Int32) (i : Nat) : List Nat := unF (fun k => A 148 (2000 * i + k) = 0) (qN (A 145 i)) 0
theorem uL_len {A : Nat → Nat → Int32} : (uL A i).length = sCnt A i := unF_len _ _ _
theorem uL_mem {A : Nat → Nat → Int32} {w : Nat} (h : w ∈ uL A i) : w < qN (A 145 i) ∧ A 148 (2000 * i + w) = 0 := by
  have := unF_mem _ _ _ _ h
  exact ⟨by omega, this.2.2⟩
theorem uL_le (h : rWk M i) : (uL M.1 i).length ≤ 1458 := by
  have := cnt_le (fun k => M.1 148 (2000 * i + k) = 0) (qC M i) 0
  have h2 := (wkC h).2.1
  rw [uL_len]
  exact Nat.le_trans this h2
theorem sLeft_at {A : Nat → Nat → Int32} {r : Nat} (hr : r < 2 ^ 30) : sLeft A i (nI r) = atL (uL A i) r := nth_at _ r hr _ _ 0 (Nat.zero_le _)
theorem l_nx (h : rWk M i) : ∀ (n f k : Nat), n < f → k + n = qC M i → fX9_nextUnspent_10 f M (qw i) (nI k) = rI (fndF (fun k => M.1 148 (2000 * i + k) = 0) n k) M := by
  have hc := wkC h
  intro n
  induction n with
  | zero =>
    intro f k hf hk
    cases f with
    | zero => exact absurd hf (Nat.not_lt_zero _)
    | succ f =>
      unfold fX9_nextUnspent_10
      rw [hc.1, if_pos (nI_le (by omega) (by omega))]
      rfl
  | succ n ih =>
    intro f k hf hk
    cases f with
    | zero => exact absurd hf (Nat.not_lt_zero _)
    | succ f =>
      unfold fX9_nextUnspent_10 fndF
      rw [hc.1, if_neg (nI_ge (by omega) (by omega)), e_isSp h (by omega), bi_I]
      by_cases q : M.1 148 (2000 * i + k) = 0
      · rw [if_pos q, if_pos q]
      · rw [if_neg q, if_neg q, nI_1, ih f (k + 1) (by omega) (by omega)]
theorem c_nx0 (h : rWk M i) : fX9_nextUnspent M (qw i) 0 = rI (atL (uL M.1 i) 0) M := by
  have hc := (wkC h).2.1
  unfold fX9_nextUnspent
  rw [if_pos (by decide), ← nI_0, l_nx h (qC M i) FU 0 (FU_lt (by omega)) (Nat.zero_add _), fnd_at]
  rfl
theorem c_nxS (h : rWk M i) {r : Nat} (hr : r < (uL M.1 i).length) : fX9_nextUnspent M (qw i) (atL (uL M.1 i) r + 1) = rI (atL (uL M.1 i) (r + 1)) M := by
  have hc := (wkC h).2.1
  have hm := (uL_mem (getD_mem (uL M.1 i) r 0 hr)).1
  have hm2 : (uL M.1 i).getD r 0 < qC M i := hm
  have e := fnd_nx (fun k => M.1 148 (2000 * i + k) = 0) (qN (M.1 145 i)) 0 r hr
  have e1 : atL (uL M.1 i) r = nI ((uL M.1 i).getD r 0) := if_pos hr
  unfold fX9_nextUnspent
  rw [e1, nI_1, if_pos (show (0 : Int32) ≤ nI ((uL M.1 i).getD r 0 + 1) from nI_le (Nat.zero_le _) (by omega)), l_nx h (qC M i - ((uL M.1 i).getD r 0 + 1)) FU _ (FU_lt (by omega)) (by omega)]
  refine congrArg (fun t => rI t M) ?_
  rw [Nat.zero_add] at e
  exact e
theorem atL_ne {l : List Nat} {r : Nat} (hr : r < l.length) (hm : ∀ w, w ∈ l → w < 2000) : ¬ atL l r = -1 := by
  have := hm _ (getD_mem l r 0 hr)
  unfold atL
  rw [if_pos hr]
  intro e
  have h1 : nI (l.getD r 0) < 0 := by rw [e]; decide
  exact nI_pos (by omega) h1
theorem atL_out {l : List Nat} {r : Nat} (hr : l.length ≤ r) : atL l r = -1 := if_neg (by omega)
theorem uL_2000 (h : rWk M i) : ∀ w, w ∈ uL M.1 i → w < 2000 := fun w hw => by
  have := (uL_mem hw).1
  have h2 : w < qC M i := this
  have := (wkC h).2.1
  omega
theorem nI_sh {m j : Nat} (hm : m < 2 ^ 31) (hj : j < 32) : nI m >>> (nI j &&& 31) = nI (m / 2 ^ j) := by
  have hb : ∀ x k, k < 32 → bt (nI x) k = x.testBit k := fun x k hk => by
    show (BitVec.ofNat 32 x).getLsbD k = _
    rw [BitVec.getLsbD_ofNat]
    simp [hk]
  refine b_ext (fun i hi => ?_)
  rw [b_sshr j hj _ hi, hb _ i hi, Nat.testBit_div_two_pow]
  by_cases q : j + i < 32
  · rw [if_pos q, hb _ _ q, Nat.add_comm]
  · rw [if_neg q, hb _ 31 (by decide), Nat.testBit_lt_two_pow hm, Nat.testBit_lt_two_pow (Nat.lt_of_lt_of_le hm (Nat.pow_le_pow_right (by decide) (by omega)))]
theorem uL_in {A : Nat → Nat → Int32} {w : Nat} (h1 : w < qN (A 145 i)) (h2 : A 148 (2000 * i + w) = 0) : w ∈ uL A i := unF_in _ _ _ _ (Nat.zero_le _) (by omega) h2
end P29
