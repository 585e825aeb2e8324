section P39
variable {M N : vM} {i : Nat}
theorem rw_all {I : Nat → Int32} {st en : Nat → Nat} {m b n p : Nat} (hI : flw I st en m b n) (hp : p < n) : rwF I st en (fun _ => 0) m b 0 m p = I p := by
  rw [hI p hp]
  unfold rwF
  refine congrArg (_ + ·) (sI_g (fun k hk => ?_))
  by_cases z : en k = p
  · rw [if_pos z, if_pos ⟨z, Or.inr ⟨rfl, hk⟩⟩]
  · rw [if_neg z, if_neg (fun w => z w.1)]
theorem e_20 (x k : Nat) : (20 : Int32) * nI x + nI k = nI (20 * x + k) := by rw [show (20 : Int32) = nI 20 from rfl, nI_mul, nI_add]
theorem r_104 {n m : Nat} {st en : Nat → Nat} (hn : netF M i n m st en) (hi : i < 6) {I : Nat → Int32} (hI : flw I st en m 0 n) {k91 : vM → Int32 → Int32 → Int32 → Option (vR × vM)} {v : Int32} {q : Nat} (hq : q < n) : ∀ (c f s : Nat) (N : vM), c < f → s + c = m → (∀ c, 131 ≤ c → c < 164 → N.1 c = M.1 c) → (∀ p, p < q → N.1 164 p = I p) → N.1 164 q = rwF I st en (fun _ => 0) m 0 0 s q →
    ∃ N', fX11_more_104 k91 f N (nI i) v (nI q) (nI s) = k91 N' (nI i) v (nI q + 1) ∧ N'.2 = N.2 ∧ (∀ c, c ≠ 164 → N'.1 c = N.1 c) ∧ (∀ p, p ≠ q → N'.1 164 p = N.1 164 p) ∧ N'.1 164 q = I q := by
  have hn12 := hn.n3.2
  have hm20 := hn.m3
  intro c
  induction c with
  | zero =>
    intro f s N hf hs hc hp hr
    cases f with
    | zero => exact absurd hf (Nat.not_lt_zero _)
    | succ f =>
      refine ⟨N, ?_, rfl, fun _ _ => rfl, fun _ _ => rfl, by rw [hr, show s = m by omega, rw_all hI hq]⟩
      unfold fX11_more_104
      rw [if_pos (v_in_nI (by omega) (by decide)), nI_clamp (show i < 2 ^ 31 by omega), hc 136 (by decide) (by decide), hn.m2, if_pos (nI_le (by omega) (by omega))]
  | succ c ih =>
    intro f s N hf hs hc hp hr
    cases f with
    | zero => exact absurd hf (Nat.not_lt_zero _)
    | succ f =>
      have hsm : s < m := by omega
      obtain ⟨-, -, s3, s4, s5, s6⟩ := hn.s1 s hsm
      have v1 : v_in (nI (20 * i + s)) 240 = true := v_in_nI (by omega) (by decide)
      have v2 : v_in (nI q) 12 = true := v_in_nI (by omega) (by decide)
      unfold fX11_more_104
      rw [if_pos (v_in_nI (by omega) (by decide)), nI_clamp (show i < 2 ^ 31 by omega), hc 136 (by decide) (by decide), hn.m2, if_neg (nI_ge (by omega) (by omega)), e_20, if_pos v1, nI_clamp (show 20 * i + s < 2 ^ 31 by omega), hc 140 (by decide) (by decide), s4]
      by_cases z : en s = q
      · rw [if_pos (by rw [z]), if_pos v2, if_pos v1, hc 139 (by decide) (by decide), s3, if_pos (v_in_nI (by omega) (by decide)), if_pos v2, nI_clamp (show q < 2 ^ 31 by omega), nI_clamp (show st s < 2 ^ 31 by omega), nI_1]
        obtain ⟨N', x1, x2, x3, x4, x5⟩ := ih f (s + 1) (v_si N 164 q (N.1 164 q + N.1 164 (st s))) (by omega) (by omega) (fun c h3 h4 => by rw [si_c (by omega)]; exact hc c h3 h4) (fun p hp9 => by rw [si_n (by omega)]; exact hp p hp9) (by
          rw [si_s, rw_step hsm, if_pos ⟨rfl, z⟩, hr, hp (st s) (by omega)])
        exact ⟨N', x1, x2, fun c hc9 => by rw [x3 c hc9, si_c hc9], fun p hp9 => by rw [x4 p hp9, si_n hp9], x5⟩
      · rw [if_neg (nI_ne (by omega) (by omega) z), nI_1]
        exact ih f (s + 1) N (by omega) (by omega) hc hp (by rw [rw_step hsm, if_neg (fun w => z w.2)]; exact hr)
theorem r_91 {n m : Nat} {st en : Nat → Nat} (hn : netF M i n m st en) (hi : i < 6) {I : Nat → Int32} (hI : flw I st en m 0 n) {v : Int32} : ∀ (c f q : Nat) (N : vM), c < f → q + c = n → 1 ≤ q → (∀ c, 131 ≤ c → c < 164 → N.1 c = M.1 c) → (∀ p, p < q → N.1 164 p = I p) → (∀ p, q ≤ p → p < n → N.1 164 p = 0) →
    ∃ N', fX11_more_91 f N (nI i) v (nI q) = fX11_more_178 FU N' (nI i) v (nI n - 2) ∧ N'.2 = N.2 ∧ (∀ c, c ≠ 164 → N'.1 c = N.1 c) ∧ ∀ p, p < n → N'.1 164 p = I p := by
  have hn12 := hn.n3.2
  have hm20 := hn.m3
  intro c
  induction c with
  | zero =>
    intro f q N hf hq h1 hc hp hz
    cases f with
    | zero => exact absurd hf (Nat.not_lt_zero _)
    | succ f =>
      refine ⟨N, ?_, rfl, fun _ _ => rfl, fun p hp9 => hp p (by omega)⟩
      unfold fX11_more_91
      have v1 : v_in (nI i) 12 = true := v_in_nI (by omega) (by decide)
      rw [if_pos v1, nI_clamp (show i < 2 ^ 31 by omega), hc 133 (by decide) (by decide), hn.n2, if_pos (nI_le (by omega) (by omega)), if_pos v1]
  | succ c ih =>
    intro f q N hf hq h1 hc hp hz
    cases f with
    | zero => exact absurd hf (Nat.not_lt_zero _)
    | succ f =>
      obtain ⟨N1, x1, x2, x3, x4, x5⟩ := r_104 hn hi hI (k91 := fX11_more_91 f) (v := v) (q := q) (by omega) m FU 0 N (FU_lt (by omega)) (Nat.zero_add _) hc hp (by rw [hz q (Nat.le_refl _) (by omega), rw_0, if_neg (by omega)])
      obtain ⟨N', y1, y2, y3, y4⟩ := ih f (q + 1) N1 (by omega) (by omega) (by omega) (fun c h3 h4 => by rw [x3 c (by omega)]; exact hc c h3 h4) (fun p hp9 => by
        by_cases z : p = q
        · rw [z]; exact x5
        · rw [x4 p z]; exact hp p (by omega)) (fun p h5 h6 => by rw [x4 p (by omega)]; exact hz p (by omega) h6)
      refine ⟨N', ?_, by rw [y2, x2], fun c hc9 => by rw [y3 c hc9, x3 c hc9], y4⟩
      unfold fX11_more_91
      rw [if_pos (v_in_nI (by omega) (by decide)), nI_clamp (show i < 2 ^ 31 by omega), hc 133 (by decide) (by decide), hn.n2, if_neg (nI_ge (by omega) (by omega))]
      refine Eq.trans (show fX11_more_104 (fX11_more_91 f) FU N (nI i) v (nI q) 0 = _ from x1) ?_
      rw [nI_1]
      exact y1
theorem r_185 {n m : Nat} {st en : Nat → Nat} (hn : netF M i n m st en) (hi : i < 6) {O : Nat → Int32} (hO : flw O en st m (n - 1) n) {k178 : vM → Int32 → Int32 → Int32 → Option (vR × vM)} {v : Int32} {q : Nat} (hq : q < n) : ∀ (c f s : Nat) (N : vM), c < f → s + c = m → (∀ c, 131 ≤ c → c < 164 → N.1 c = M.1 c) → (∀ p, q < p → p < n → N.1 165 p = O p) → N.1 165 q = rwF O en st (fun _ => 0) m (n - 1) 0 s q →
    ∃ N', fX11_more_185 k178 f N (nI i) v (nI q) (nI s) = k178 N' (nI i) v (nI q + (-1)) ∧ N'.2 = N.2 ∧ (∀ c, c ≠ 165 → N'.1 c = N.1 c) ∧ (∀ p, p ≠ q → N'.1 165 p = N.1 165 p) ∧ N'.1 165 q = O q := by
  have hn12 := hn.n3.2
  have hm20 := hn.m3
  intro c
  induction c with
  | zero =>
    intro f s N hf hs hc hp hr
    cases f with
    | zero => exact absurd hf (Nat.not_lt_zero _)
    | succ f =>
      refine ⟨N, ?_, rfl, fun _ _ => rfl, fun _ _ => rfl, by rw [hr, show s = m by omega, rw_all hO hq]⟩
      unfold fX11_more_185
      rw [if_pos (v_in_nI (by omega) (by decide)), nI_clamp (show i < 2 ^ 31 by omega), hc 136 (by decide) (by decide), hn.m2, if_pos (nI_le (by omega) (by omega))]
  | succ c ih =>
    intro f s N hf hs hc hp hr
    cases f with
    | zero => exact absurd hf (Nat.not_lt_zero _)
    | succ f =>
      have hsm : s < m := by omega
      obtain ⟨-, -, s3, s4, s5, s6⟩ := hn.s1 s hsm
      have v1 : v_in (nI (20 * i + s)) 240 = true := v_in_nI (by omega) (by decide)
      have v2 : v_in (nI q) 12 = true := v_in_nI (by omega) (by decide)
      unfold fX11_more_185
      rw [if_pos (v_in_nI (by omega) (by decide)), nI_clamp (show i < 2 ^ 31 by omega), hc 136 (by decide) (by decide), hn.m2, if_neg (nI_ge (by omega) (by omega)), e_20, if_pos v1, nI_clamp (show 20 * i + s < 2 ^ 31 by omega), hc 139 (by decide) (by decide), s3]
      by_cases z : st s = q
      · rw [if_pos (by rw [z]), if_pos v2, if_pos v1, hc 140 (by decide) (by decide), s4, if_pos (v_in_nI (by omega) (by decide)), if_pos v2, nI_clamp (show q < 2 ^ 31 by omega), nI_clamp (show en s < 2 ^ 31 by omega), nI_1]
        obtain ⟨N', x1, x2, x3, x4, x5⟩ := ih f (s + 1) (v_si N 165 q (N.1 165 q + N.1 165 (en s))) (by omega) (by omega) (fun c h3 h4 => by rw [si_c (by omega)]; exact hc c h3 h4) (fun p hp9 hp8 => by rw [si_n (by omega)]; exact hp p hp9 hp8) (by
          rw [si_s, rw_step hsm, if_pos ⟨rfl, z⟩, hr, hp (en s) (by omega) s6])
        exact ⟨N', x1, x2, fun c hc9 => by rw [x3 c hc9, si_c hc9], fun p hp9 => by rw [x4 p hp9, si_n hp9], x5⟩
      · rw [if_neg (nI_ne (by omega) (by omega) z), nI_1]
        exact ih f (s + 1) N (by omega) (by omega) hc hp (by rw [rw_step hsm, if_neg (fun w => z w.2)]; exact hr)
end P39
