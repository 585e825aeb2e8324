section P37
variable {M N : vM} {i : Nat}
theorem sI_upd {f g : Nat → Int32} {v : Int32} : ∀ {m s : Nat}, s < m → (∀ k, k < m → k ≠ s → f k = g k) → f s = 0 → g s = v → sI g m = sI f m + v
  | 0, s, h, _, _, _ => absurd h (Nat.not_lt_zero _)
  | m + 1, s, h, h1, h2, h3 => by
    show sI g m + g m = sI f m + f m + v
    by_cases q : s = m
    · subst q
      rw [h2, h3, Int32.add_zero, sI_g (f := g) (g := f) (fun k hk => (h1 k (by omega) (by omega)).symm)]
    · rw [sI_upd (m := m) (s := s) (by omega) (fun k hk hn => h1 k (by omega) hn) h2 h3, h1 m (by omega) (fun z => q z.symm), Int32.add_assoc, Int32.add_assoc, Int32.add_comm v]
/-- the row while places of rank r give on what flows to them, the first s arrows done -/
def rwF (I : Nat → Int32) (st en rk : Nat → Nat) (m b r s p : Nat) : Int32 := (if p = b then 1 else 0) + sI (fun k => if en k = p ∧ (rk (st k) < r ∨ (rk (st k) = r ∧ k < s)) then I (st k) else 0) m
theorem rw_0 {I : Nat → Int32} {st en rk : Nat → Nat} {m b p : Nat} : rwF I st en rk m b 0 0 p = if p = b then 1 else 0 := by
  unfold rwF
  rw [sI_0 m (fun s _ => if_neg (by omega)), Int32.add_zero]
theorem rw_step {I : Nat → Int32} {st en rk : Nat → Nat} {m b r s p : Nat} (hs : s < m) : rwF I st en rk m b r (s + 1) p = if rk (st s) = r ∧ en s = p then rwF I st en rk m b r s p + I (st s) else rwF I st en rk m b r s p := by
  unfold rwF
  by_cases q : rk (st s) = r ∧ en s = p
  · rw [if_pos q, Int32.add_assoc]
    refine congrArg (_ + ·) (sI_upd hs (fun k hk hn => ?_) (if_neg (by omega)) (if_pos (by omega)))
    by_cases z : en k = p ∧ (rk (st k) < r ∨ (rk (st k) = r ∧ k < s))
    · rw [if_pos z, if_pos (by omega)]
    · rw [if_neg z, if_neg (by omega)]
  · rw [if_neg q]
    refine congrArg (_ + ·) (sI_g (fun k hk => ?_))
    by_cases z : en k = p ∧ (rk (st k) < r ∨ (rk (st k) = r ∧ k < s))
    · rw [if_pos z, if_pos (by omega)]
    · rw [if_neg z, if_neg (fun w => by
        by_cases y : k = s
        · subst y; omega
        · omega)]
theorem rw_next {I : Nat → Int32} {st en rk : Nat → Nat} {m b r p : Nat} : rwF I st en rk m b r m p = rwF I st en rk m b (r + 1) 0 p := by
  unfold rwF
  refine congrArg (_ + ·) (sI_g (fun k hk => ?_))
  by_cases z : en k = p ∧ (rk (st k) < r ∨ (rk (st k) = r ∧ k < m))
  · rw [if_pos z, if_pos (by omega)]
  · rw [if_neg z, if_neg (by omega)]
theorem rw_at {I : Nat → Int32} {st en rk : Nat → Nat} {m b n r s q : Nat} (hI : flw I st en m b n) (h : ∀ s, s < m → rk (st s) < rk (en s)) (hq : q < n) (hr : rk q ≤ r) : rwF I st en rk m b r s q = I q := by
  rw [hI q hq]
  unfold rwF
  refine congrArg (_ + ·) (sI_g (fun k hk => ?_))
  by_cases z : en k = q
  · have := h k hk
    rw [z] at this
    rw [if_pos z, if_pos ⟨z, by omega⟩]
  · rw [if_neg z, if_neg (fun w => z w.1)]
/-- a net as both know it -/
def netF (M : vM) (i : Nat) (n m : Nat) (st en : Nat → Nat) : Prop :=
  M.1 (qp M i) 1 = nI n ∧ M.1 133 i = nI n ∧ (2 ≤ n ∧ n ≤ 12) ∧ M.1 (qp M i) 4 = nI m ∧ M.1 136 i = nI m ∧ m ≤ 20 ∧
  ∀ s, s < m → M.1 (qp M i + 2) s = nI (st s) ∧ M.1 (qp M i + 3) s = nI (en s) ∧ M.1 139 (20 * i + s) = nI (st s) ∧ M.1 140 (20 * i + s) = nI (en s) ∧ st s < en s ∧ en s < n
theorem netF.n1 {n m : Nat} {st en : Nat → Nat} (h : netF M i n m st en) : M.1 (qp M i) 1 = nI n := h.1
theorem netF.n2 {n m : Nat} {st en : Nat → Nat} (h : netF M i n m st en) : M.1 133 i = nI n := h.2.1
theorem netF.n3 {n m : Nat} {st en : Nat → Nat} (h : netF M i n m st en) : 2 ≤ n ∧ n ≤ 12 := h.2.2.1
theorem netF.m1 {n m : Nat} {st en : Nat → Nat} (h : netF M i n m st en) : M.1 (qp M i) 4 = nI m := h.2.2.2.1
theorem netF.m2 {n m : Nat} {st en : Nat → Nat} (h : netF M i n m st en) : M.1 136 i = nI m := h.2.2.2.2.1
theorem netF.m3 {n m : Nat} {st en : Nat → Nat} (h : netF M i n m st en) : m ≤ 20 := h.2.2.2.2.2.1
theorem netF.s1 {n m : Nat} {st en : Nat → Nat} (h : netF M i n m st en) : ∀ s, s < m → M.1 (qp M i + 2) s = nI (st s) ∧ M.1 (qp M i + 3) s = nI (en s) ∧ M.1 139 (20 * i + s) = nI (st s) ∧ M.1 140 (20 * i + s) = nI (en s) ∧ st s < en s ∧ en s < n := h.2.2.2.2.2.2
theorem wkNet (h : rWk M i) (hk : M.1 132 i = 0) : netF M i (qN (M.1 133 i)) (qit M i) (fun s => qN (M.1 139 (20 * i + s))) (fun s => qN (M.1 140 (20 * i + s))) := by
  obtain ⟨-, ⟨a1, a2⟩, -, -, ⟨b1, b2, -⟩, -, -, c, -⟩ := h
  obtain ⟨c1, c2⟩ := c hk
  exact ⟨a1.trans a2.e, a2.e, ⟨c1, a2.le⟩, b1.trans b2.e, b2.e, b2.le, fun s hs => by
    obtain ⟨d1, d2, d3, d4, d5, d6⟩ := c2 s hs
    exact ⟨d1.trans d3.e, d2.trans d4.e, d3.e, d4.e, d5, d6⟩⟩
theorem c_st2 {p : Nat} (hp : v_isP p) {k : Nat} (hk : k < 20) : fX3_startAt N p (nI k) = rI (N.1 (p + 2) k) N ∧ fX3_endAt N p (nI k) = rI (N.1 (p + 3) k) N := by
  unfold fX3_startAt fX3_endAt
  rw [e_at (len := 20) (by rw [(v_LP hp).2.2.1.2.1]) hk (by decide), bi_I, e_at (len := 20) (by rw [(v_LP hp).2.2.1.2.2.1]) hk (by decide), bi_I]
  exact ⟨rfl, rfl⟩
theorem c_i27 {n m : Nat} {st en : Nat → Nat} (hn : netF M i n m st en) (hP : v_isP (qp M i)) {I : Nat → Int32} (hI : flw I st en m 0 n) {k17 : vM → Nat → Int32 → Option (vR × vM)} {q : Nat} (hq : q < n) : ∀ (c f s : Nat) (N : vM), c < f → s + c = m → N.2 = M.2 → (∀ c, c ≠ 37 → c ≠ 38 → c ≠ 36 → N.1 c = M.1 c) → (∀ p, p < n → N.1 37 p = rwF I st en id m 0 q s p) →
    ∃ N', fX5_countInto_27 k17 f N (qp M i) (nI q) (nI s) = k17 N' (qp M i) (nI q + 1) ∧ N'.2 = M.2 ∧ (∀ c, c ≠ 37 → c ≠ 38 → c ≠ 36 → N'.1 c = M.1 c) ∧ N'.1 38 = N.1 38 ∧ N'.1 36 = N.1 36 ∧ ∀ p, p < n → N'.1 37 p = rwF I st en id m 0 (q + 1) 0 p := by
  have hpb := v_isP_b hP
  have hn12 := hn.n3.2
  have hm20 := hn.m3
  intro c
  induction c with
  | zero =>
    intro f s N hf hs h2 hc hr
    cases f with
    | zero => exact absurd hf (Nat.not_lt_zero _)
    | succ f =>
      refine ⟨N, ?_, h2, hc, rfl, rfl, fun p hp => by rw [hr p hp, show s = m by omega, rw_next]⟩
      unfold fX5_countInto_27
      rw [hc (qp M i) (by omega) (by omega) (by omega), hn.m1, if_pos (nI_le (by omega) (by omega))]
  | succ c ih =>
    intro f s N hf hs h2 hc hr
    cases f with
    | zero => exact absurd hf (Nat.not_lt_zero _)
    | succ f =>
      have hsm : s < m := by omega
      obtain ⟨s1, s2, -, -, s5, s6⟩ := hn.s1 s hsm
      obtain ⟨t1, t2⟩ := c_st2 (N := N) hP (k := s) (by omega)
      unfold fX5_countInto_27
      rw [hc (qp M i) (by omega) (by omega) (by omega), hn.m1, if_neg (nI_ge (by omega) (by omega)), t1, bi_I, hc (qp M i + 2) (by omega) (by omega) (by omega), s1]
      by_cases z : st s = q
      · rw [if_pos (by rw [z]), t2, bi_I, t2, bi_I, hc (qp M i + 3) (by omega) (by omega) (by omega), s2, e_at (len := 12) rfl (by omega) (by decide), bi_I, e_at (len := 12) rfl (by omega) (by decide), bi_I, e_put (len := 12) rfl (by omega) (by decide), bv_V, nI_1]
        obtain ⟨N', x1, x2, x3, x4, x5, x6⟩ := ih f (s + 1) (v_si N 37 (en s) (N.1 37 (en s) + N.1 37 q)) (by omega) (by omega) h2 (fun c h3 h4 h5 => by rw [si_c h3]; exact hc c h3 h4 h5) (fun p hp => by
          rw [rw_step hsm]
          by_cases y : en s = p
          · rw [if_pos ⟨z, y⟩, ← y, si_s, hr (en s) (by omega), hr q hq, rw_at (rk := id) hI (fun s hs => (hn.s1 s hs).2.2.2.2.1) hq (Nat.le_refl q), z]
          · rw [if_neg (fun w => y w.2), si_n (fun w => y w.symm)]
            exact hr p hp)
        exact ⟨N', x1, x2, x3, by rw [x4, si_c (by decide)], by rw [x5, si_c (by decide)], x6⟩
      · rw [if_neg (nI_ne (by omega) (by omega) z), nI_1]
        exact ih f (s + 1) N (by omega) (by omega) h2 hc (fun p hp => by
          rw [rw_step hsm, if_neg (fun w => z w.1)]
          exact hr p hp)
end P37
