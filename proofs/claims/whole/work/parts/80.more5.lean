section P40
variable {M N : vM} {i : Nat}
theorem r_178 {n m : Nat} {st en : Nat → Nat} (hn : netF M i n m st en) (hi : i < 6) {O : Nat → Int32} (hO : flw O en st m (n - 1) n) {v : Int32} : ∀ (c f : Nat) (N : vM), c < f → c + 1 ≤ n → (∀ c, 131 ≤ c → c < 164 → N.1 c = M.1 c) → (∀ p, c ≤ p → p < n → N.1 165 p = O p) → (∀ p, p < c → N.1 165 p = 0) →
    ∃ N', fX11_more_178 f N (nI i) v (nI c - 1) = fX11_more_258 FU N' (nI i) v 0 1 0 ∧ N'.2 = N.2 ∧ (∀ c, c ≠ 165 → N'.1 c = N.1 c) ∧ ∀ p, p < n → N'.1 165 p = O p := by
  have hn12 := hn.n3.2
  have hm20 := hn.m3
  intro c
  induction c with
  | zero =>
    intro f N hf hq hc hp hz
    cases f with
    | zero => exact absurd hf (Nat.not_lt_zero _)
    | succ f =>
      refine ⟨N, ?_, rfl, fun _ _ => rfl, fun p hp9 => hp p (Nat.zero_le _) hp9⟩
      unfold fX11_more_178
      rw [if_pos (show nI 0 - 1 < 0 by decide)]
  | succ c ih =>
    intro f N hf hq hc hp hz
    cases f with
    | zero => exact absurd hf (Nat.not_lt_zero _)
    | succ f =>
      have e1 : nI (c + 1) - 1 = nI c := nI_sub (b := 1) (Nat.succ_le_succ (Nat.zero_le c))
      obtain ⟨N1, x1, x2, x3, x4, x5⟩ := r_185 hn hi hO (k178 := fX11_more_178 f) (v := v) (q := c) (by omega) m FU 0 N (FU_lt (by omega)) (Nat.zero_add _) hc (fun p h5 h6 => hp p (by omega) h6) (by rw [hz c (Nat.lt_succ_self c), rw_0, if_neg (by omega)])
      obtain ⟨N', y1, y2, y3, y4⟩ := ih f N1 (by omega) (by omega) (fun c h3 h4 => by rw [x3 c (by omega)]; exact hc c h3 h4) (fun p h5 h6 => by
        by_cases z : p = c
        · rw [z]; exact x5
        · rw [x4 p z]; exact hp p (by omega) h6) (fun p h5 => by rw [x4 p (by omega)]; exact hz p (by omega))
      refine ⟨N', ?_, by rw [y2, x2], fun c hc9 => by rw [y3 c hc9, x3 c hc9], y4⟩
      unfold fX11_more_178
      rw [e1, if_neg (nI_pos (by omega))]
      refine Eq.trans (show fX11_more_185 (fX11_more_178 f) FU N (nI i) v (nI c) 0 = _ from x1) ?_
      rw [show nI c + -1 = nI c - 1 from (Int32.sub_eq_add_neg _ _).symm]
      exact y1
theorem r_39 {n m : Nat} {st en : Nat → Nat} (hn : netF M i n m st en) (hi : i < 6) {v : Int32} : ∀ (c f k : Nat) (N : vM), c < f → k + c = 12 → (∀ c, 131 ≤ c → c < 164 → N.1 c = M.1 c) → (∀ p, p < k → N.1 164 p = (if p = 0 then 1 else 0) ∧ N.1 165 p = if p = n - 1 then 1 else 0) →
    ∃ N', fX11_more_39 f N (nI i) v (nI k) = fX11_more_91 FU N' (nI i) v 1 ∧ N'.2 = N.2 ∧ (∀ c, c ≠ 164 → c ≠ 165 → N'.1 c = N.1 c) ∧ ∀ p, p < 12 → N'.1 164 p = (if p = 0 then 1 else 0) ∧ N'.1 165 p = if p = n - 1 then 1 else 0 := by
  have hn12 := hn.n3.2
  intro c
  induction c with
  | zero =>
    intro f k N hf hk hc hr
    cases f with
    | zero => exact absurd hf (Nat.not_lt_zero _)
    | succ f =>
      refine ⟨N, ?_, rfl, fun _ _ _ => rfl, fun p hp => hr p (by omega)⟩
      unfold fX11_more_39
      rw [if_pos (show (12 : Int32) ≤ nI k from nI_le (show 12 ≤ k by omega) (by omega))]
  | succ c ih =>
    intro f k N hf hk hc hr
    cases f with
    | zero => exact absurd hf (Nat.not_lt_zero _)
    | succ f =>
      have v2 : v_in (nI k) 12 = true := v_in_nI (by omega) (by decide)
      have st59 : ∀ x : Int32, x = (if k = 0 then 1 else 0) → fX11_more_59 (fX11_more_39 f) N (nI i) v (nI k) (nI k) x = fX11_more_39 f (v_si (v_si N 164 k (if k = 0 then 1 else 0)) 165 k (if k = n - 1 then 1 else 0)) (nI i) v (nI (k + 1)) := fun x hx => by
        unfold fX11_more_59
        rw [if_pos v2, if_pos (v_in_nI (by omega) (by decide)), nI_clamp (show i < 2 ^ 31 by omega), nI_clamp (show k < 2 ^ 31 by omega), si_c (show (133 : Nat) ≠ 164 by decide), hc 133 (by decide) (by decide), hn.n2, show nI n - 1 = nI (n - 1) from nI_sub (b := 1) (by have := hn.n3.1; omega), if_pos v2, if_pos v2, nI_1, hx]
        by_cases z : k = n - 1
        · rw [if_pos (by rw [z]), if_pos z]
        · rw [if_neg (nI_ne (by omega) (by omega) z), if_neg z]
      obtain ⟨N', a, b, d, e⟩ := ih f (k + 1) (v_si (v_si N 164 k (if k = 0 then 1 else 0)) 165 k (if k = n - 1 then 1 else 0)) (by omega) (by omega) (fun c h1 h2 => by rw [si_c (by omega), si_c (by omega)]; exact hc c h1 h2) (fun p hp => by
        rw [si_c (show (164 : Nat) ≠ 165 by decide)]
        by_cases z : p = k
        · rw [z, si_s, si_s]
          exact ⟨rfl, rfl⟩
        · rw [si_n z, si_n z, si_c (show (165 : Nat) ≠ 164 by decide)]
          exact hr p (by omega))
      refine ⟨N', ?_, b, fun c h1 h2 => by rw [d c h1 h2, si_c h2, si_c h1], e⟩
      unfold fX11_more_39
      rw [if_neg (show ¬ (12 : Int32) ≤ nI k from nI_ge (show k < 12 by omega) (by decide))]
      by_cases z : k = 0
      · rw [if_pos (show nI k = 0 by rw [z]; rfl), st59 1 (by rw [if_pos z])]
        exact a
      · rw [if_neg (show ¬ nI k = 0 from nI_ne (b := 0) (by omega) (by decide) z), st59 0 (by rw [if_neg z])]
        exact a
end P40
