section P38
variable {M N : vM} {i : Nat}
theorem c_i17 {n m : Nat} {st en : Nat → Nat} (hn : netF M i n m st en) (hP : v_isP (qp M i)) {I : Nat → Int32} (hI : flw I st en m 0 n) : ∀ (c f q : Nat) (N : vM), c < f → q + c = n → N.2 = M.2 → (∀ c, c ≠ 37 → c ≠ 38 → c ≠ 36 → N.1 c = M.1 c) → (∀ p, p < n → N.1 37 p = rwF I st en id m 0 q 0 p) →
    ∃ N', fX5_countInto_17 f N (qp M i) (nI q) = rV N' ∧ N'.2 = M.2 ∧ (∀ c, c ≠ 37 → c ≠ 38 → c ≠ 36 → N'.1 c = M.1 c) ∧ N'.1 38 = N.1 38 ∧ N'.1 36 = N.1 36 ∧ ∀ p, p < n → N'.1 37 p = I p := by
  have hpb := v_isP_b hP
  have hn12 := hn.n3.2
  have hm20 := hn.m3
  have hlt : ∀ s, s < m → id (st s) < id (en s) := fun s hs => (hn.s1 s hs).2.2.2.2.1
  intro c
  induction c with
  | zero =>
    intro f q N hf hq h2 hc hr
    cases f with
    | zero => exact absurd hf (Nat.not_lt_zero _)
    | succ f =>
      refine ⟨N, ?_, h2, hc, rfl, rfl, fun p hp => by rw [hr p hp, rw_at (rk := id) hI hlt hp (show id p ≤ q by show p ≤ q; omega)]⟩
      unfold fX5_countInto_17
      rw [hc (qp M i) (by omega) (by omega) (by omega), hn.n1, if_pos (nI_le (by omega) (by omega))]
  | succ c ih =>
    intro f q N hf hq h2 hc hr
    cases f with
    | zero => exact absurd hf (Nat.not_lt_zero _)
    | succ f =>
      obtain ⟨N1, x1, x2, x3, x4, x5, x6⟩ := c_i27 hn hP hI (k17 := fX5_countInto_17 f) (q := q) (by omega) m FU 0 N (FU_lt (by omega)) (Nat.zero_add _) h2 hc hr
      obtain ⟨N', y1, y2, y3, y4, y5, y6⟩ := ih f (q + 1) N1 (by omega) (by omega) x2 x3 x6
      refine ⟨N', ?_, y2, y3, by rw [y4, x4], by rw [y5, x5], y6⟩
      unfold fX5_countInto_17
      rw [hc (qp M i) (by omega) (by omega) (by omega), hn.n1, if_neg (nI_ge (by omega) (by omega))]
      refine Eq.trans (show fX5_countInto_27 (fX5_countInto_17 f) FU N (qp M i) (nI q) 0 = _ from x1) ?_
      rw [nI_1]
      exact y1
/-- onward: the arrows turned, the rank counted from the last place -/
theorem c_o35 {n m : Nat} {st en : Nat → Nat} (hn : netF M i n m st en) (hP : v_isP (qp M i)) {O : Nat → Int32} (hO : flw O en st m (n - 1) n) {k29 : vM → Nat → Int32 → Option (vR × vM)} {q : Nat} (hq : q < n) : ∀ (c f s : Nat) (N : vM), c < f → s + c = m → N.2 = M.2 → (∀ c, c ≠ 37 → c ≠ 38 → c ≠ 36 → N.1 c = M.1 c) → (∀ p, p < n → N.1 38 p = rwF O en st (fun p => n - 1 - p) m (n - 1) (n - 1 - q) s p) →
    ∃ N', fX5_countOnward_35 k29 f N (qp M i) (nI q) (nI s) = k29 N' (qp M i) (nI q + (-1)) ∧ N'.2 = M.2 ∧ (∀ c, c ≠ 37 → c ≠ 38 → c ≠ 36 → N'.1 c = M.1 c) ∧ N'.1 37 = N.1 37 ∧ N'.1 36 = N.1 36 ∧ ∀ p, p < n → N'.1 38 p = rwF O en st (fun p => n - 1 - p) m (n - 1) (n - 1 - q + 1) 0 p := by
  have hpb := v_isP_b hP
  have hn12 := hn.n3.2
  have hm20 := hn.m3
  have hlt : ∀ s, s < m → n - 1 - en s < n - 1 - st s := fun s hs => by
    have := (hn.s1 s hs).2.2.2.2
    omega
  intro c
  induction c with
  | zero =>
    intro f s N hf hs h2 hc hr
    cases f with
    | zero => exact absurd hf (Nat.not_lt_zero _)
    | succ f =>
      refine ⟨N, ?_, h2, hc, rfl, rfl, fun p hp => by rw [hr p hp, show s = m by omega, rw_next]⟩
      unfold fX5_countOnward_35
      rw [hc (qp M i) (by omega) (by omega) (by omega), hn.m1, if_pos (nI_le (by omega) (by omega))]
  | succ c ih =>
    intro f s N hf hs h2 hc hr
    cases f with
    | zero => exact absurd hf (Nat.not_lt_zero _)
    | succ f =>
      have hsm : s < m := by omega
      obtain ⟨s1, s2, -, -, s5, s6⟩ := hn.s1 s hsm
      obtain ⟨t1, t2⟩ := c_st2 (N := N) hP (k := s) (by omega)
      unfold fX5_countOnward_35
      rw [hc (qp M i) (by omega) (by omega) (by omega), hn.m1, if_neg (nI_ge (by omega) (by omega)), t2, bi_I, hc (qp M i + 3) (by omega) (by omega) (by omega), s2]
      by_cases z : en s = q
      · rw [if_pos (by rw [z]), t1, bi_I, t1, bi_I, hc (qp M i + 2) (by omega) (by omega) (by omega), s1, e_at (len := 12) rfl (by omega) (by decide), bi_I, e_at (len := 12) rfl (by omega) (by decide), bi_I, e_put (len := 12) rfl (by omega) (by decide), bv_V, nI_1]
        obtain ⟨N', x1, x2, x3, x4, x5, x6⟩ := ih f (s + 1) (v_si N 38 (st s) (N.1 38 (st s) + N.1 38 q)) (by omega) (by omega) h2 (fun c h3 h4 h5 => by rw [si_c h4]; exact hc c h3 h4 h5) (fun p hp => by
          rw [rw_step hsm]
          by_cases y : st s = p
          · rw [if_pos ⟨by rw [z], y⟩, ← y, si_s, hr (st s) (by omega), hr q hq, rw_at (rk := fun p => n - 1 - p) hO hlt hq (Nat.le_refl _), z]
          · rw [if_neg (fun w => y w.2), si_n (fun w => y w.symm)]
            exact hr p hp)
        exact ⟨N', x1, x2, x3, by rw [x4, si_c (by decide)], by rw [x5, si_c (by decide)], x6⟩
      · rw [if_neg (nI_ne (by omega) (by omega) z), nI_1]
        exact ih f (s + 1) N (by omega) (by omega) h2 hc (fun p hp => by
          rw [rw_step hsm, if_neg (fun w => z (by have := w.1; omega))]
          exact hr p hp)
theorem c_o29 {n m : Nat} {st en : Nat → Nat} (hn : netF M i n m st en) (hP : v_isP (qp M i)) {O : Nat → Int32} (hO : flw O en st m (n - 1) n) : ∀ (c f : Nat) (N : vM), c < f → c ≤ n → N.2 = M.2 → (∀ c, c ≠ 37 → c ≠ 38 → c ≠ 36 → N.1 c = M.1 c) → (∀ p, p < n → N.1 38 p = rwF O en st (fun p => n - 1 - p) m (n - 1) (n - c) 0 p) →
    ∃ N', fX5_countOnward_29 f N (qp M i) (nI c - 1) = rV N' ∧ N'.2 = M.2 ∧ (∀ c, c ≠ 37 → c ≠ 38 → c ≠ 36 → N'.1 c = M.1 c) ∧ N'.1 37 = N.1 37 ∧ N'.1 36 = N.1 36 ∧ ∀ p, p < n → N'.1 38 p = O p := by
  have hn12 := hn.n3.2
  have hm20 := hn.m3
  have hlt : ∀ s, s < m → n - 1 - en s < n - 1 - st s := fun s hs => by
    have := (hn.s1 s hs).2.2.2.2
    omega
  intro c
  induction c with
  | zero =>
    intro f N hf hq h2 hc hr
    cases f with
    | zero => exact absurd hf (Nat.not_lt_zero _)
    | succ f =>
      refine ⟨N, ?_, h2, hc, rfl, rfl, fun p hp => by rw [hr p hp, rw_at (rk := fun p => n - 1 - p) hO hlt hp (show n - 1 - p ≤ n - 0 by omega)]⟩
      unfold fX5_countOnward_29
      rw [if_pos (show nI 0 - 1 < 0 by decide)]
  | succ c ih =>
    intro f N hf hq h2 hc hr
    cases f with
    | zero => exact absurd hf (Nat.not_lt_zero _)
    | succ f =>
      have e1 : nI (c + 1) - 1 = nI c := nI_sub (b := 1) (Nat.succ_le_succ (Nat.zero_le c))
      obtain ⟨N1, x1, x2, x3, x4, x5, x6⟩ := c_o35 hn hP hO (k29 := fX5_countOnward_29 f) (q := c) (by omega) m FU 0 N (FU_lt (by omega)) (Nat.zero_add _) h2 hc (fun p hp => by rw [hr p hp, show n - (c + 1) = n - 1 - c by omega])
      obtain ⟨N', y1, y2, y3, y4, y5, y6⟩ := ih f N1 (by omega) (by omega) x2 x3 (fun p hp => by rw [x6 p hp, show n - 1 - c + 1 = n - c by omega])
      refine ⟨N', ?_, y2, y3, by rw [y4, x4], by rw [y5, x5], y6⟩
      unfold fX5_countOnward_29
      rw [e1, if_neg (nI_pos (by omega))]
      refine Eq.trans (show fX5_countOnward_35 (fX5_countOnward_29 f) FU N (qp M i) (nI c) 0 = _ from x1) ?_
      rw [show nI c + -1 = nI c - 1 from (Int32.sub_eq_add_neg _ _).symm]
      exact y1
/-- the best pair -/
def prF (I O : Nat → Int32) (n : Nat) : Nat → Nat → Nat → (Nat × Nat × Int32) → (Nat × Nat × Int32)
  | 0, _, _, b => b
  | c + 1, x, y, b => if n ≤ y then prF I O n c (x + 1) (x + 1 + 1) b else prF I O n c x (y + 1) (if I x * O y ≤ b.2.2 then b else (x, y, I x * O y))
end P38
