section P34
variable {M N : vM} {i : Nat}
theorem Rel_34 (h : Rel M) (h2 : N.2 = M.2) (hc : ∀ c, c ≠ 34 → c ≠ 35 → N.1 c = M.1 c) : Rel N :=
  Rel_congr h (by rw [h2]) (fun c hcc => hc c (by omega) (by omega)) (fun j _ => by rw [hc 130 (by decide) (by decide)]) (fun c _ _ => by rw [h2])
def csF (A : Nat → Nat → Int32) (i r : Nat) : Int32 := A 146 (2000 * i + (uL A i).getD r 0)
theorem csF_nI (h : rWk M i) {r : Nat} (hr : r < (uL M.1 i).length) : ∃ n, n ≤ 1048575 ∧ csF M.1 i r = nI n := by
  have hm := (uL_mem (getD_mem (uL M.1 i) r 0 hr)).1
  have := wkW h (k := (uL M.1 i).getD r 0) hm
  exact ⟨_, this.2.1, this.1⟩
theorem c_at34 (h : Rel M) (hi : i < qW M) (h2 : N.2 = M.2) (hc : ∀ c, c ≠ 34 → c ≠ 35 → N.1 c = M.1 c) {r : Nat} (hr : r < (uL M.1 i).length) : fX9_costOf N (qw i) (atL (uL M.1 i) r) = rI (csF M.1 i r) N ∧ fX9_nextUnspent N (qw i) (atL (uL M.1 i) r + 1) = rI (atL (uL M.1 i) (r + 1)) N ∧ ¬ atL (uL M.1 i) r = -1 := by
  have hR := Rel_34 h h2 hc
  have hiN : i < qW N := by show i < qN (N.1 130 2); rw [hc 130 (by decide) (by decide)]; exact hi
  have wN := hR.wk hiN
  have eu : uL N.1 i = uL M.1 i := uL_g (hc 148 (by decide) (by decide)) (hc 145 (by decide) (by decide))
  have hm := (uL_mem (getD_mem (uL N.1 i) r 0 (by rw [eu]; exact hr))).1
  refine ⟨?_, ?_, atL_ne hr (uL_2000 (h.wk hi))⟩
  · rw [show atL (uL M.1 i) r = nI ((uL N.1 i).getD r 0) by rw [eu]; exact if_pos hr, e_costOf wN hm]
    unfold csF
    rw [eu, hc 146 (by decide) (by decide)]
  · have := c_nxS wN (r := r) (by rw [eu]; exact hr)
    rw [eu] at this
    exact this
theorem c_s18 (h : Rel M) (hi : i < qW M) {m : Nat} (hm : m ≤ 12) {gv : Nat → Int32} : ∀ (n f r : Nat) (N : vM) (a : Int32), n < f → r + n = m → r ≤ (uL M.1 i).length → N.2 = M.2 → (∀ c, c ≠ 34 → c ≠ 35 → N.1 c = M.1 c) → N.1 34 1 = nI m → N.1 34 2 = a → N.1 34 3 = nI r → (∀ t, t < m → N.1 35 t = gv t) →
    ∃ N' R A, (R, A) = gvF gv (csF M.1 i) m (uL M.1 i).length n r a ∧ R ≤ m ∧ R ≤ (uL M.1 i).length ∧ fX2_settle_18 f N (qw i) (ds (csF M.1 i) r) (atL (uL M.1 i) r) = fX2_settle_102 N' (qw i) (ds (csF M.1 i) R) (atL (uL M.1 i) R) ∧ N'.2 = M.2 ∧ (∀ c, c ≠ 34 → c ≠ 35 → N'.1 c = M.1 c) ∧ N'.1 34 1 = nI m ∧ N'.1 34 2 = A ∧ N'.1 34 3 = nI R ∧ ∀ t, t < m → N'.1 35 t = gv t := by
  intro n
  induction n with
  | zero =>
    intro f r N a hf hk hl h2 hc h1 ha h3 hg
    cases f with
    | zero => exact absurd hf (Nat.not_lt_zero _)
    | succ f =>
      refine ⟨N, r, a, rfl, by omega, hl, ?_, h2, hc, h1, ha, h3, hg⟩
      unfold fX2_settle_18
      rw [h1, h3, if_pos (nI_le (by omega) (by omega))]
  | succ n ih =>
    intro f r N a hf hk hl h2 hc h1 ha h3 hg
    cases f with
    | zero => exact absurd hf (Nat.not_lt_zero _)
    | succ f =>
      have eg : gvF gv (csF M.1 i) m (uL M.1 i).length (n + 1) r a = if r < m ∧ r < (uL M.1 i).length ∧ ¬ gv r ≤ csF M.1 i r then gvF gv (csF M.1 i) m (uL M.1 i).length n (r + 1) (a + (gv r - csF M.1 i r)) else (r, a) := rfl
      by_cases q1 : ¬ r < (uL M.1 i).length
      · refine ⟨N, r, a, ?_, by omega, hl, ?_, h2, hc, h1, ha, h3, hg⟩
        · rw [eg, if_neg (fun z => q1 z.2.1)]
        · unfold fX2_settle_18
          rw [h1, h3, if_neg (nI_ge (by omega) (by omega)), if_pos (atL_out (by omega))]
      have q1 := Classical.not_not.mp q1
      obtain ⟨k1, k2, k3⟩ := c_at34 h hi h2 hc q1
      by_cases q2 : gv r ≤ csF M.1 i r
      · refine ⟨N, r, a, ?_, by omega, hl, ?_, h2, hc, h1, ha, h3, hg⟩
        · rw [eg, if_neg (fun z => z.2.2 q2)]
        · unfold fX2_settle_18
          rw [h1, h3, if_neg (nI_ge (by omega) (by omega)), if_neg k3, e_at (len := 12) rfl (by omega) (by decide), bi_I, k1, bi_I, hg r (by omega), if_pos q2]
      · generalize hN1 : v_si (v_si N 34 2 (a + (gv r - csF M.1 i r))) 34 3 (nI (r + 1)) = N1
        have nc : ∀ c, c ≠ 34 → c ≠ 35 → N1.1 c = M.1 c := fun c hc1 hc2 => by rw [← hN1, si_c hc1, si_c hc1]; exact hc c hc1 hc2
        have n2 : N1.2 = M.2 := by rw [← hN1]; exact h2
        obtain ⟨N', R, A, x1, x2, x3, x4, x5⟩ := ih f (r + 1) N1 (a + (gv r - csF M.1 i r)) (by omega) (by omega) (by omega) n2 nc (by rw [← hN1, si_n (by decide), si_n (by decide)]; exact h1) (by rw [← hN1, si_n (by decide), si_s]) (by rw [← hN1, si_s]) (fun t ht => by rw [← hN1, si_c (by decide), si_c (by decide)]; exact hg t ht)
        refine ⟨N', R, A, ?_, x2, x3, ?_, x5⟩
        · rw [eg, if_pos ⟨by omega, q1, q2⟩]
          exact x1
        · rw [← x4]
          have k4 := (c_at34 h hi n2 nc q1).2.1
          rw [fX2_settle_18, h1, h3, if_neg (nI_ge (by omega) (by omega)), if_neg k3, e_at (len := 12) rfl (by omega) (by decide), bi_I, k1, bi_I, hg r (by omega), if_neg q2, k1, bi_I, h3, e_at (len := 12) rfl (by omega) (by decide), bi_I, hg r (by omega), ha, show (v_si N 34 2 (a + (gv r - csF M.1 i r))).1 34 3 = nI r from by rw [si_n (by decide), h3], nI_1, hN1, k4, bi_I]
          unfold ds
          rw [if_neg (Nat.succ_ne_zero r), Nat.add_sub_cancel]
          try rfl
theorem c_s102 (h : Rel M) (hi : i < qW M) {m R : Nat} (hm : m ≤ 12) (hR : R ≤ m) (hRl : R ≤ (uL M.1 i).length) {gv : Nat → Int32} {A : Int32} (h2 : N.2 = M.2) (hc : ∀ c, c ≠ 34 → c ≠ 35 → N.1 c = M.1 c) (h1 : N.1 34 1 = nI m) (ha : N.1 34 2 = A) (h3 : N.1 34 3 = nI R) (hg : ∀ t, t < m → N.1 35 t = gv t) :
    ∃ N', fX2_settle_102 N (qw i) (ds (csF M.1 i) R) (atL (uL M.1 i) R) = rV N' ∧ N'.2 = M.2 ∧ (∀ c, c ≠ 34 → c ≠ 35 → N'.1 c = M.1 c) ∧ N'.1 34 2 = A ∧ N'.1 34 3 = nI R ∧ N'.1 34 4 = lpF gv (csF M.1 i) m R ∧ N'.1 34 5 = gpF gv (csF M.1 i) (uL M.1 i).length R := by
  -- the last stage
  have s163 : ∀ (Q : vM) (s1 : Int32), Q.2 = M.2 → (∀ c, c ≠ 34 → c ≠ 35 → Q.1 c = M.1 c) → Q.1 34 3 = nI R → s1 = (if R = 0 then 9999 else gv (R - 1)) →
      ∃ N', fX2_settle_163 Q (qw i) (atL (uL M.1 i) R) s1 = rV N' ∧ N'.2 = M.2 ∧ (∀ c, c ≠ 34 → c ≠ 35 → N'.1 c = M.1 c) ∧ (∀ j, j ≠ 5 → N'.1 34 j = Q.1 34 j) ∧ N'.1 34 5 = gpF gv (csF M.1 i) (uL M.1 i).length R := fun Q s1 hQ hQc h3 hs => by
    have hc1 : ∀ x : Int32, ∀ c, c ≠ 34 → c ≠ 35 → (v_si Q 34 5 x).1 c = M.1 c := fun x c a b => by rw [si_c a]; exact hQc c a b
    by_cases q : R < (uL M.1 i).length
    · have k1 := (c_at34 (N := v_si Q 34 5 s1) h hi hQ (hc1 s1) q)
      by_cases z : R = 0
      · refine ⟨v_si (v_si Q 34 5 s1) 34 5 (csF M.1 i R), ?_, hQ, fun c a b => by rw [si_c a]; exact hc1 s1 c a b, fun j hj => by rw [si_n hj, si_n hj], ?_⟩
        · unfold fX2_settle_163
          rw [if_neg k1.2.2, k1.1, bi_I, si_n (by decide), h3, z, if_pos (show nI 0 ≤ 0 by decide)]
        · rw [si_s]
          unfold gpF
          rw [if_neg (by omega), if_pos z]
      · refine ⟨v_si (v_si Q 34 5 s1) 34 5 (if csF M.1 i R < s1 then csF M.1 i R else s1), ?_, hQ, fun c a b => by rw [si_c a]; exact hc1 s1 c a b, fun j hj => by rw [si_n hj, si_n hj], ?_⟩
        · unfold fX2_settle_163
          rw [if_neg k1.2.2, k1.1, bi_I, si_n (by decide), h3, if_neg (show ¬ nI R ≤ 0 from nI_ge (show 0 < R by omega) (by omega)), si_s]
        · rw [si_s, hs, if_neg z]
          unfold gpF
          rw [if_neg (show ¬ (uL M.1 i).length ≤ R by omega), if_neg z]
    · refine ⟨v_si Q 34 5 s1, ?_, hQ, hc1 s1, fun j hj => si_n hj, ?_⟩
      · unfold fX2_settle_163
        rw [if_pos (atL_out (by omega))]
      · rw [si_s, hs]
        unfold gpF
        by_cases z : R = 0
        · rw [if_pos z, if_pos (show (uL M.1 i).length ≤ R by omega)]
          try rw [if_pos z]
        · rw [if_neg z, if_pos (show (uL M.1 i).length ≤ R by omega)]
          try rw [if_neg z]
  have s133 : ∀ s0 : Int32, s0 = lpF gv (csF M.1 i) m R → ∃ N', fX2_settle_133 N (qw i) (atL (uL M.1 i) R) s0 = rV N' ∧ N'.2 = M.2 ∧ (∀ c, c ≠ 34 → c ≠ 35 → N'.1 c = M.1 c) ∧ N'.1 34 2 = A ∧ N'.1 34 3 = nI R ∧ N'.1 34 4 = lpF gv (csF M.1 i) m R ∧ N'.1 34 5 = gpF gv (csF M.1 i) (uL M.1 i).length R := fun s0 hs => by
    have hc1 : ∀ c, c ≠ 34 → c ≠ 35 → (v_si N 34 4 s0).1 c = M.1 c := fun c a b => by rw [si_c a]; exact hc c a b
    have e3 : (v_si N 34 4 s0).1 34 3 = nI R := by rw [si_n (by decide), h3]
    obtain ⟨N', x1, x2, x3, x4, x5⟩ := s163 (v_si N 34 4 s0) (if R = 0 then 9999 else gv (R - 1)) h2 hc1 e3 rfl
    refine ⟨N', ?_, x2, x3, by rw [x4 2 (by decide), si_n (by decide), ha], by rw [x4 3 (by decide), e3], by rw [x4 4 (by decide), si_s, hs], x5⟩
    rw [← x1]
    unfold fX2_settle_133
    rw [e3]
    by_cases z : R = 0
    · rw [z, if_pos (show nI 0 ≤ 0 by decide), if_pos rfl]
    · rw [if_neg (show ¬ nI R ≤ 0 from nI_ge (show 0 < R by omega) (by omega)), show nI R - 1 = nI (R - 1) from nI_sub (b := 1) (by omega), e_at (len := 12) rfl (by omega) (by decide), bi_I, si_c (by decide), hg (R - 1) (by omega), if_neg z]
  unfold fX2_settle_102
  rw [h1, h3]
  by_cases q : m ≤ R
  · rw [if_pos (nI_le q (by omega))]
    exact s133 _ (by unfold lpF; rw [if_pos q])
  · rw [if_neg (nI_ge (by omega) (by omega)), e_at (len := 12) rfl (by omega) (by decide), bi_I, hg R (by omega)]
    exact s133 _ (by unfold lpF; rw [if_neg q])
/-! the reference's -/
theorem r_cl (h : rWk M i) (hi : i < 6) {r : Nat} (hr : r < 2 ^ 30) : fX11_costLeft M (nI i) (nI r) = rI (if r < (uL M.1 i).length then csF M.1 i r else -1) M := by
  unfold fX11_costLeft
  rw [r_leftAt h hi, bi_I, sLeft_at hr]
  by_cases q : r < (uL M.1 i).length
  · have hm := uL_2000 h _ (getD_mem (uL M.1 i) r 0 q)
    rw [if_neg (atL_ne q (uL_2000 h)), if_pos q, show atL (uL M.1 i) r = nI ((uL M.1 i).getD r 0) from if_pos q, e_ix, if_pos (r_in hi hm), nI_clamp (by omega)]
    rfl
  · rw [if_pos (atL_out (by omega)), if_neg q]
theorem r_g38 (h : rWk N i) (hi : i < 6) {m : Nat} (hm : m ≤ 12) {gv : Nat → Int32} {v : Int32} (h153 : N.1 153 i = nI m) (hg : ∀ t, t < m → N.1 163 t = gv t) : ∀ (n f r : Nat) (a : Int32), n < f → r + n = m → r ≤ (uL N.1 i).length →
    fX11_given_38 f N (nI i) v (nI r) a = fX11_given_97 N (nI i) v (nI (gvF gv (csF N.1 i) m (uL N.1 i).length n r a).1) (gvF gv (csF N.1 i) m (uL N.1 i).length n r a).2 := by
  intro n
  induction n with
  | zero =>
    intro f r a hf hk hl
    cases f with
    | zero => exact absurd hf (Nat.not_lt_zero _)
    | succ f =>
      unfold fX11_given_38
      rw [if_pos (v_in_nI hi (by decide)), nI_clamp (by omega), h153, if_pos (nI_le (by omega) (by omega))]
      rfl
  | succ n ih =>
    intro f r a hf hk hl
    cases f with
    | zero => exact absurd hf (Nat.not_lt_zero _)
    | succ f =>
      have eg : gvF gv (csF N.1 i) m (uL N.1 i).length (n + 1) r a = if r < m ∧ r < (uL N.1 i).length ∧ ¬ gv r ≤ csF N.1 i r then gvF gv (csF N.1 i) m (uL N.1 i).length n (r + 1) (a + (gv r - csF N.1 i r)) else (r, a) := rfl
      have v1 : v_in (nI r) 12 = true := v_in_nI (by omega) (by decide)
      unfold fX11_given_38
      rw [if_pos (v_in_nI hi (by decide)), nI_clamp (show i < 2 ^ 31 by omega), h153, if_neg (nI_ge (by omega) (by omega)), r_cl h hi (by omega), bi_I]
      by_cases q1 : ¬ r < (uL N.1 i).length
      · rw [if_neg q1, if_pos rfl, eg, if_neg (fun z => q1 z.2.1)]
      have q1 := Classical.not_not.mp q1
      obtain ⟨c, c1, c2⟩ := csF_nI h q1
      rw [if_pos q1, if_neg (by rw [c2]; exact nI_ne1 (by omega)), if_pos v1, r_cl h hi (by omega), if_pos q1, bi_I, nI_clamp (show r < 2 ^ 31 by omega), hg r (by omega)]
      by_cases q2 : gv r ≤ csF N.1 i r
      · rw [if_pos q2, eg, if_neg (fun z => z.2.2 q2)]
      · rw [if_neg q2, if_pos v1, r_cl h hi (by omega), if_pos q1, bi_I, nI_1, ih f (r + 1) _ (by omega) (by omega) (by omega), eg, if_pos ⟨by omega, q1, q2⟩]
theorem nI0_le {x : Int32} {b : Nat} (hx : nIb x b) (hb : b < 2 ^ 31) : ¬ x < 0 := by
  rw [hx.e]
  exact nI_pos (by have := hx.le; omega)
theorem gvF_le (gv cst : Nat → Int32) (m len : Nat) : ∀ n r a, r ≤ m → r ≤ len → (gvF gv cst m len n r a).1 ≤ m ∧ (gvF gv cst m len n r a).1 ≤ len
  | 0, r, a, h1, h2 => ⟨h1, h2⟩
  | n + 1, r, a, h1, h2 => by
    unfold gvF
    split
    · rename_i q
      exact gvF_le gv cst m len n (r + 1) _ (by omega) (by omega)
    · exact ⟨h1, h2⟩
/-- the reference's four answers -/
theorem r_g97 (h : rWk N i) (hi : i < 6) {m R v : Nat} (hm : m ≤ 12) (hv : v < 4) {gv : Nat → Int32} {A : Int32} (h153 : N.1 153 i = nI m) (hg : ∀ t, t < m → N.1 163 t = gv t ∧ nIb (gv t) 9999) (hR : R ≤ m) (hRl : R ≤ (uL N.1 i).length) :
    fX11_given_97 N (nI i) (nI v) (nI R) A = rI (if v = 0 then A else if v = 1 then nI R else if v = 2 then lpF gv (csF N.1 i) m R else gpF gv (csF N.1 i) (uL N.1 i).length R) N := by
  have hl := uL_le h
  by_cases hv2 : v < 2
  · unfold fX11_given_97
    rw [if_neg (show ¬ (2 : Int32) ≤ nI v from nI_ge hv2 (by decide))]
    rcases (show v = 0 ∨ v = 1 by omega) with rfl | rfl <;> rfl
  have e197 : ∀ x y : Int32, fX11_given_197 N (nI v) x y = rI (if v = 2 then x else y) N := fun x y => by
    unfold fX11_given_197
    rcases (show v = 2 ∨ v = 3 by omega) with rfl | rfl <;> rfl
  have e176 : ∀ x : Int32, fX11_given_176 N (nI v) (nI R) x (if R < (uL N.1 i).length then csF N.1 i R else 9999) = rI (if v = 2 then x else gpF gv (csF N.1 i) (uL N.1 i).length R) N := fun x => by
    unfold fX11_given_176
    by_cases z : R = 0
    · rw [z, if_pos (show nI 0 ≤ 0 by decide), e197]
      unfold gpF
      rw [if_pos rfl, if_pos rfl]
      by_cases q : 0 < (uL N.1 i).length
      · rw [if_pos q, if_neg (show ¬ (uL N.1 i).length ≤ 0 by omega)]
      · rw [if_neg q, if_pos (show (uL N.1 i).length ≤ 0 by omega)]
    · rw [if_neg (show ¬ nI R ≤ 0 from nI_ge (show 0 < R by omega) (by omega)), show nI R - 1 = nI (R - 1) from nI_sub (b := 1) (by omega), if_pos (v_in_nI (by omega) (by decide)), nI_clamp (by omega), (hg (R - 1) (by omega)).1, e197]
      refine congrArg (fun t => rI (if v = 2 then x else t) N) ?_
      unfold gpF
      rw [if_neg z, if_neg z]
      by_cases q : R < (uL N.1 i).length
      · rw [if_pos q, if_neg (show ¬ (uL N.1 i).length ≤ R by omega)]
        by_cases w : gv (R - 1) < csF N.1 i R
        · rw [if_pos w, if_neg (fa_of_lt w).2.2.1]
        · rw [if_neg w]
          by_cases w2 : csF N.1 i R < gv (R - 1)
          · rw [if_pos w2]
          · rw [if_neg w2]
            rcases fa_three (gv (R - 1)) (csF N.1 i R) with y | y | y
            · exact absurd y w
            · exact y.symm
            · exact absurd y w2
      · rw [if_neg q, if_pos (show (uL N.1 i).length ≤ R by omega)]
        have hb := (hg (R - 1) (by omega)).2
        by_cases w : gv (R - 1) < 9999
        · rw [if_pos w]
        · rw [if_neg w]
          have h9 : gv (R - 1) = nI (qN (gv (R - 1))) := hb.e
          have h8 := hb.le
          rw [h9] at w ⊢
          have : ¬ qN (gv (R - 1)) < 9999 := fun z => w (nI_lt z (by decide))
          rw [show qN (gv (R - 1)) = 9999 by omega]
          rfl
  have e154 : ∀ x : Int32, fX11_given_154 N (nI i) (nI v) (nI R) x = rI (if v = 2 then x else gpF gv (csF N.1 i) (uL N.1 i).length R) N := fun x => by
    rw [← e176 x]
    unfold fX11_given_154
    rw [r_cl h hi (by omega), bi_I]
    by_cases q : R < (uL N.1 i).length
    · obtain ⟨c, c1, c2⟩ := csF_nI h q
      rw [if_pos q, if_neg (by rw [c2]; exact nI_ne1 (by omega)), r_cl h hi (by omega), if_pos q, bi_I, if_pos q]
    · rw [if_neg q, if_pos rfl, if_neg q]
  have e133 : ∀ s0 : Int32, s0 = (if m ≤ R then 0 else gv R) → fX11_given_133 N (nI i) (nI v) (nI R) s0 = rI (if v = 2 then lpF gv (csF N.1 i) m R else gpF gv (csF N.1 i) (uL N.1 i).length R) N := fun s0 hs => by
    unfold fX11_given_133
    by_cases z : R = 0
    · have e : s0 = lpF gv (csF N.1 i) m R := by
        rw [hs]
        unfold lpF ds
        rw [if_pos z]
        by_cases q : m ≤ R
        · rw [if_pos q, if_pos q]
        · rw [if_neg q, if_neg q]
          by_cases w : 0 < gv R
          · rw [if_pos w]
          · rw [if_neg w]
            have hb := (hg R (by omega)).2
            rw [hb.e] at w ⊢
            have : ¬ 0 < qN (gv R) := fun z => w (nI_lt (a := 0) z (by have := hb.le; omega))
            rw [show qN (gv R) = 0 by omega]
            rfl
      rw [if_pos (show nI R ≤ 0 by rw [z]; decide), e154, e]
    · rw [if_neg (show ¬ nI R ≤ 0 from nI_ge (show 0 < R by omega) (by omega)), show nI R - 1 = nI (R - 1) from nI_sub (b := 1) (by omega), r_cl h hi (by omega), bi_I, if_pos (show R - 1 < (uL N.1 i).length by omega), e154]
      obtain ⟨c, c1, c2⟩ := csF_nI h (show R - 1 < (uL N.1 i).length by omega)
      refine congrArg (fun t => rI (if v = 2 then t else gpF gv (csF N.1 i) (uL N.1 i).length R) N) ?_
      rw [hs]
      unfold lpF ds
      rw [if_neg z]
      by_cases q : m ≤ R
      · rw [if_pos q, if_pos q, c2]
        by_cases w : 0 < c
        · rw [if_pos (show (0 : Int32) < nI c from nI_lt (a := 0) w (by omega))]
        · rw [show c = 0 by omega]
          rfl
      · rw [if_neg q, if_neg q]
        by_cases w : gv R < csF N.1 i (R - 1)
        · rw [if_pos w, if_neg (fa_of_lt w).2.2.1]
        · rw [if_neg w]
          by_cases w2 : csF N.1 i (R - 1) < gv R
          · rw [if_pos w2]
          · rw [if_neg w2]
            rcases fa_three (gv R) (csF N.1 i (R - 1)) with y | y | y
            · exact absurd y w
            · exact y
            · exact absurd y w2
  unfold fX11_given_97
  rw [if_pos (show (2 : Int32) ≤ nI v from nI_le (show 2 ≤ v by omega) (by omega)), if_pos (v_in_nI hi (by decide)), nI_clamp (show i < 2 ^ 31 by omega), h153, if_neg (show ¬ v = 0 by omega), if_neg (show ¬ v = 1 by omega)]
  by_cases q : m ≤ R
  · rw [if_pos (nI_le q (by omega))]
    exact e133 0 (by rw [if_pos q])
  · rw [if_neg (nI_ge (by omega) (by omega)), if_pos (v_in_nI (by omega) (by decide)), nI_clamp (show R < 2 ^ 31 by omega), (hg R (by omega)).1]
    exact e133 _ (by rw [if_neg q])
end P34
