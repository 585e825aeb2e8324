section P33
variable {M N : vM} {i : Nat}
def upF (g : Nat → Int32) (k : Nat) (v : Int32) : Nat → Int32 := fun t => if t = k then v else g t
/-- one more into the line, from the place behind the last -/
def insF (g : Nat → Int32) (v : Int32) : Nat → (Nat → Int32)
  | 0 => upF g 0 v
  | n + 1 => if v ≤ g n then upF g (n + 1) v else insF (upF g (n + 1) (g n)) v n
theorem upF_s {g : Nat → Int32} {k : Nat} {v : Int32} : upF g k v k = v := if_pos rfl
theorem upF_n {g : Nat → Int32} {k t : Nat} {v : Int32} (h : t ≠ k) : upF g k v t = g t := if_neg h
theorem insF_out {v : Int32} : ∀ n (g : Nat → Int32) t, n < t → insF g v n t = g t
  | 0, g, t, h => upF_n (by omega)
  | n + 1, g, t, h => by
    unfold insF
    by_cases q : v ≤ g n
    · rw [if_pos q, upF_n (by omega)]
    · rw [if_neg q, insF_out n _ t (by omega), upF_n (by omega)]
theorem insF_g {v : Int32} : ∀ n (g h : Nat → Int32), (∀ t, t < n → g t = h t) → ∀ t, t ≤ n → insF g v n t = insF h v n t
  | 0, g, h, _, t, ht => by
    show upF g 0 v t = upF h 0 v t
    rw [show t = 0 by omega, upF_s, upF_s]
  | n + 1, g, h, hg, t, ht => by
    unfold insF
    rw [← hg n (by omega)]
    by_cases q : v ≤ g n
    · rw [if_pos q, if_pos q]
      by_cases z : t = n + 1
      · rw [z, upF_s, upF_s]
      · rw [upF_n z, upF_n z, hg t (by omega)]
    · rw [if_neg q, if_neg q]
      by_cases z : t = n + 1
      · rw [z, insF_out n _ _ (by omega), insF_out n _ _ (by omega), upF_s, upF_s]
      · exact insF_g n _ _ (fun t' ht' => by rw [upF_n (by omega), upF_n (by omega), hg t' (by omega)]) t (by omega)
theorem insF_P {P : Int32 → Prop} {v : Int32} (hv : P v) : ∀ n (g : Nat → Int32), (∀ t, t < n → P (g t)) → ∀ t, t ≤ n → P (insF g v n t)
  | 0, g, _, t, ht => by
    show P (upF g 0 v t)
    rw [show t = 0 by omega, upF_s]
    exact hv
  | n + 1, g, hg, t, ht => by
    unfold insF
    by_cases q : v ≤ g n
    · rw [if_pos q]
      by_cases z : t = n + 1
      · rw [z, upF_s]; exact hv
      · rw [upF_n z]; exact hg t (by omega)
    · rw [if_neg q]
      by_cases z : t = n + 1
      · rw [z, insF_out n _ _ (by omega), upF_s]; exact hg n (by omega)
      · exact insF_P hv n _ (fun t' ht' => by rw [upF_n (by omega)]; exact hg t' (by omega)) t (by omega)
def lnF (A : Nat → Nat → Int32) (i : Nat) : Nat → (Nat → Int32)
  | 0 => fun _ => 0
  | k + 1 => insF (lnF A i k) (A 154 (12 * i + k)) k
theorem lnF_P {A : Nat → Nat → Int32} {P : Int32 → Prop} {m : Nat} (h : ∀ k, k < m → P (A 154 (12 * i + k))) : ∀ k, k ≤ m → ∀ t, t < k → P (lnF A i k t)
  | 0, _, t, ht => absurd ht (Nat.not_lt_zero _)
  | k + 1, hk, t, ht => insF_P (h k (by omega)) k _ (fun t' ht' => lnF_P h k (by omega) t' ht') t (by omega)
theorem si_up {c k : Nat} {v : Int32} : (v_si N c k v).1 c = upF (N.1 c) k v := by
  funext t
  unfold upF
  by_cases q : t = k
  · rw [if_pos q, q, si_s]
  · rw [if_neg q, si_n q]
theorem c_l35 {k16 : vM → Nat → Int32 → Int32 → Option (vR × vM)} {x1 : Nat} {x2 x3 v : Int32} : ∀ (n f : Nat) (N : vM), n < f → n < 12 → ∃ N', fX2_line_35 k16 f N x1 x2 x3 v (nI n) = k16 N' x1 x2 (x3 + 1) ∧ N'.2 = N.2 ∧ (∀ c, c ≠ 35 → N'.1 c = N.1 c) ∧ N'.1 35 = insF (N.1 35) v n := by
  intro n
  induction n with
  | zero =>
    intro f N hf hn
    cases f with
    | zero => exact absurd hf (Nat.not_lt_zero _)
    | succ f =>
      refine ⟨v_si N 35 0 v, ?_, rfl, fun c hc => si_c hc, si_up⟩
      unfold fX2_line_35 fX2_line_82
      rw [if_pos (show nI 0 ≤ 0 by decide), e_put (len := 12) rfl (by decide) (by decide), bv_V]
  | succ n ih =>
    intro f N hf hn
    cases f with
    | zero => exact absurd hf (Nat.not_lt_zero _)
    | succ f =>
      have e1 : nI (n + 1) - 1 = nI n := nI_sub (b := 1) (Nat.succ_le_succ (Nat.zero_le n))
      unfold fX2_line_35
      rw [if_neg (show ¬ nI (n + 1) ≤ 0 from nI_ge (show 0 < n + 1 by omega) (by omega)), e1, e_at (len := 12) rfl (by omega) (by decide), bi_I]
      by_cases q : v ≤ N.1 35 n
      · refine ⟨v_si N 35 (n + 1) v, ?_, rfl, fun c hc => si_c hc, ?_⟩
        · unfold fX2_line_82
          rw [if_pos q, e_put (len := 12) rfl (by omega) (by decide), bv_V]
        · rw [si_up]
          show _ = if v ≤ N.1 35 n then _ else _
          rw [if_pos q]
      · obtain ⟨N', a, b, c, d⟩ := ih f (v_si N 35 (n + 1) (N.1 35 n)) (by omega) (by omega)
        refine ⟨N', ?_, b, fun c' hc => by rw [c c' hc, si_c hc], ?_⟩
        · rw [if_neg q, e_at (len := 12) rfl (by omega) (by decide), bi_I, e_put (len := 12) rfl (by omega) (by decide), bv_V, show nI (n + 1) + -1 = nI n from (Int32.sub_eq_add_neg _ 1).symm.trans e1]
          exact a
        · rw [d, si_up]
          show _ = if v ≤ N.1 35 n then _ else _
          rw [if_neg q]
theorem r_s27 {k2 : vM → Int32 → Int32 → Option (vR × vM)} {x1 x2 v : Int32} : ∀ (n f : Nat) (N : vM), n < f → n < 12 → ∃ N', fX11_sortPeople_27 k2 f N x1 x2 v (nI n) = k2 N' x1 (x2 + 1) ∧ N'.2 = N.2 ∧ (∀ c, c ≠ 163 → N'.1 c = N.1 c) ∧ N'.1 163 = insF (N.1 163) v n := by
  intro n
  induction n with
  | zero =>
    intro f N hf hn
    cases f with
    | zero => exact absurd hf (Nat.not_lt_zero _)
    | succ f =>
      refine ⟨v_si N 163 0 v, ?_, rfl, fun c hc => si_c hc, si_up⟩
      unfold fX11_sortPeople_27
      rw [if_pos (show nI 0 ≤ 0 by decide), if_pos (v_in_nI (by decide) (by decide)), nI_clamp (by decide)]
  | succ n ih =>
    intro f N hf hn
    cases f with
    | zero => exact absurd hf (Nat.not_lt_zero _)
    | succ f =>
      have e1 : nI (n + 1) - 1 = nI n := nI_sub (b := 1) (Nat.succ_le_succ (Nat.zero_le n))
      have v1 : v_in (nI n) 12 = true := v_in_nI (by omega) (by decide)
      have v2 : v_in (nI (n + 1)) 12 = true := v_in_nI (by omega) (by decide)
      unfold fX11_sortPeople_27
      rw [if_neg (show ¬ nI (n + 1) ≤ 0 from nI_ge (show 0 < n + 1 by omega) (by omega)), e1, if_pos v1, if_pos v1, if_pos v2, nI_clamp (show n < 2 ^ 31 by omega), nI_clamp (show n + 1 < 2 ^ 31 by omega)]
      by_cases q : v ≤ N.1 163 n
      · refine ⟨v_si N 163 (n + 1) v, ?_, rfl, fun c hc => si_c hc, ?_⟩
        · rw [if_pos q]
        · rw [si_up]
          show _ = if v ≤ N.1 163 n then _ else _
          rw [if_pos q]
      · obtain ⟨N', a, b, c, d⟩ := ih f (v_si N 163 (n + 1) (N.1 163 n)) (by omega) (by omega)
        refine ⟨N', ?_, b, fun c' hc => by rw [c c' hc, si_c hc], ?_⟩
        · rw [if_neg q, if_pos v2, show nI (n + 1) + -1 = nI n from (Int32.sub_eq_add_neg _ 1).symm.trans e1]
          exact a
        · rw [d, si_up]
          show _ = if v ≤ N.1 163 n then _ else _
          rw [if_neg q]
theorem c_l16 {m : Nat} (hm : m ≤ 12) (hi : i < 6) : ∀ (n f k : Nat) (N : vM), n < f → k + n = m → N.1 34 1 = nI m → (∀ j, j < m → N.1 12 (12 * i + j) = M.1 154 (12 * i + j)) → (∀ t, t < k → N.1 35 t = lnF M.1 i k t) →
    ∃ N', fX2_line_16 f N 6 (nI i) (nI k) = rV N' ∧ N'.2 = N.2 ∧ (∀ c, c ≠ 35 → N'.1 c = N.1 c) ∧ ∀ t, t < m → N'.1 35 t = lnF M.1 i m t := by
  intro n
  induction n with
  | zero =>
    intro f k N hf hk h1 h12 hr
    cases f with
    | zero => exact absurd hf (Nat.not_lt_zero _)
    | succ f =>
      refine ⟨N, ?_, rfl, fun _ _ => rfl, by rw [← show k = m by omega]; exact hr⟩
      unfold fX2_line_16
      rw [h1, if_pos (nI_le (by omega) (by omega))]
  | succ n ih =>
    intro f k N hf hk h1 h12 hr
    cases f with
    | zero => exact absurd hf (Nat.not_lt_zero _)
    | succ f =>
      obtain ⟨N1, a, b, c, d⟩ := c_l35 (k16 := fX2_line_16 f) (x1 := 6) (x2 := nI i) (x3 := nI k) (v := M.1 154 (12 * i + k)) k FU N (FU_lt (by omega)) (by omega)
      obtain ⟨N', a', b', c', d'⟩ := ih f (k + 1) N1 (by omega) (by omega) (by rw [c 34 (by decide)]; exact h1) (fun j hj => by rw [c 12 (by decide)]; exact h12 j hj) (fun t ht => by
        rw [d]
        exact insF_g k _ _ hr t (by omega))
      refine ⟨N', ?_, by rw [b', b], fun c9 hc => by rw [c' c9 hc, c c9 hc], d'⟩
      unfold fX2_line_16 fX1_givesAt
      rw [h1, if_neg (nI_ge (by omega) (by omega)), show nI i * 12 + nI k = nI (12 * i + k) by rw [show (12 : Int32) = nI 12 from rfl, nI_mul, nI_add, Nat.mul_comm], show 6 + 6 = 12 from rfl, e_at (len := 72) rfl (by omega) (by decide), bi_I, bi_I, h12 k (by omega)]
      rw [a, nI_1]
      exact a'
theorem r_s2 {m : Nat} (hm : m ≤ 12) (hi : i < 6) : ∀ (n f k : Nat) (N : vM), n < f → k + n = m → N.1 153 i = nI m → (∀ j, j < m → N.1 154 (12 * i + j) = M.1 154 (12 * i + j)) → (∀ t, t < k → N.1 163 t = lnF M.1 i k t) →
    ∃ N', fX11_sortPeople_2 f N (nI i) (nI k) = rV N' ∧ N'.2 = N.2 ∧ (∀ c, c ≠ 163 → N'.1 c = N.1 c) ∧ ∀ t, t < m → N'.1 163 t = lnF M.1 i m t := by
  intro n
  induction n with
  | zero =>
    intro f k N hf hk h1 h12 hr
    cases f with
    | zero => exact absurd hf (Nat.not_lt_zero _)
    | succ f =>
      refine ⟨N, ?_, rfl, fun _ _ => rfl, by rw [← show k = m by omega]; exact hr⟩
      unfold fX11_sortPeople_2
      rw [if_pos (v_in_nI hi (by decide)), nI_clamp (by omega), h1, if_pos (nI_le (by omega) (by omega))]
  | succ n ih =>
    intro f k N hf hk h1 h12 hr
    cases f with
    | zero => exact absurd hf (Nat.not_lt_zero _)
    | succ f =>
      obtain ⟨N1, a, b, c, d⟩ := r_s27 (k2 := fX11_sortPeople_2 f) (x1 := nI i) (x2 := nI k) (v := M.1 154 (12 * i + k)) k FU N (FU_lt (by omega)) (by omega)
      obtain ⟨N', a', b', c', d'⟩ := ih f (k + 1) N1 (by omega) (by omega) (by rw [c 153 (by decide)]; exact h1) (fun j hj => by rw [c 154 (by decide)]; exact h12 j hj) (fun t ht => by
        rw [d]
        exact insF_g k _ _ hr t (by omega))
      refine ⟨N', ?_, by rw [b', b], fun c9 hc => by rw [c' c9 hc, c c9 hc], d'⟩
      unfold fX11_sortPeople_2
      rw [if_pos (v_in_nI hi (by decide)), nI_clamp (show i < 2 ^ 31 by omega), h1, if_neg (nI_ge (by omega) (by omega)), show (12 : Int32) * nI i + nI k = nI (12 * i + k) by rw [show (12 : Int32) = nI 12 from rfl, nI_mul, nI_add], if_pos (v_in_nI (by omega) (by decide)), nI_clamp (show 12 * i + k < 2 ^ 31 by omega), h12 k (by omega)]
      rw [a, nI_1]
      exact a'
/-- who gets one, and the gain -/
def gvF (gv cst : Nat → Int32) (m len : Nat) : Nat → Nat → Int32 → Nat × Int32
  | 0, r, a => (r, a)
  | n + 1, r, a => if r < m ∧ r < len ∧ ¬ gv r ≤ cst r then gvF gv cst m len n (r + 1) (a + (gv r - cst r)) else (r, a)
def ds (cst : Nat → Int32) (r : Nat) : Int32 := if r = 0 then 0 else cst (r - 1)
def lpF (gv cst : Nat → Int32) (m r : Nat) : Int32 := if m ≤ r then ds cst r else if ds cst r < gv r then gv r else ds cst r
def gpF (gv cst : Nat → Int32) (len r : Nat) : Int32 := if len ≤ r then (if r = 0 then 9999 else gv (r - 1)) else if r = 0 then cst r else if cst r < gv (r - 1) then cst r else gv (r - 1)
end P33
