section P36
variable {M N : vM} {i : Nat}
/-- sums in the machine's ints -/
def sI (f : Nat → Int32) : Nat → Int32
  | 0 => 0
  | s + 1 => sI f s + f s
theorem sI_g {f g : Nat → Int32} : ∀ {m : Nat}, (∀ s, s < m → f s = g s) → sI f m = sI g m
  | 0, _ => rfl
  | m + 1, h => by
    show sI f m + f m = sI g m + g m
    rw [sI_g (fun s hs => h s (by omega)), h m (by omega)]
theorem sI_add {f g : Nat → Int32} : ∀ m, sI (fun s => f s + g s) m = sI f m + sI g m
  | 0 => rfl
  | m + 1 => by
    show sI (fun s => f s + g s) m + (f m + g m) = (sI f m + f m) + (sI g m + g m)
    rw [sI_add m, Int32.add_assoc, Int32.add_assoc, ← Int32.add_assoc (sI g m), Int32.add_comm (sI g m) (f m), Int32.add_assoc (f m)]
theorem sI_0 {f : Nat → Int32} : ∀ m, (∀ s, s < m → f s = 0) → sI f m = 0
  | 0, _ => rfl
  | m + 1, h => by
    show sI f m + f m = 0
    rw [sI_0 m (fun s hs => h s (by omega)), h m (by omega)]
    rfl
/-- what flows from the place b along m arrows -/
def flw (I : Nat → Int32) (st en : Nat → Nat) (m b n : Nat) : Prop := ∀ p, p < n → I p = (if p = b then 1 else 0) + sI (fun s => if en s = p then I (st s) else 0) m
/-- so much along the arrows, in whole numbers -/
def flN (st en : Nat → Nat) (m b : Nat) : Nat → Nat → Nat
  | 0, _ => 0
  | n + 1, p => (if p = b then 1 else 0) + fb_sm (fun s => if en s = p then flN st en m b n (st s) else 0) m
theorem sI_nat {f : Nat → Nat} : ∀ m, sI (fun s => nI (f s)) m = nI (fb_sm f m)
  | 0 => rfl
  | m + 1 => by
    show sI (fun s => nI (f s)) m + nI (f m) = _
    rw [sI_nat m, nI_add, fb_sm_succ]
theorem flN_st {st en : Nat → Nat} {m b : Nat} (rk : Nat → Nat) (h : ∀ s, s < m → rk (st s) < rk (en s)) : ∀ n p, rk p < n → flN st en m b n p = flN st en m b (n + 1) p
  | 0, p, hp => absurd hp (Nat.not_lt_zero _)
  | n + 1, p, hp => by
    show _ + fb_sm _ m = _ + fb_sm _ m
    refine congrArg (_ + ·) (fb_sm_cong (fun s hs => ?_))
    by_cases q : en s = p
    · rw [if_pos q, if_pos q]
      have := h s hs
      rw [q] at this
      exact flN_st rk h n (st s) (by omega)
    · rw [if_neg q, if_neg q]
theorem flN_st2 {st en : Nat → Nat} {m b : Nat} (rk : Nat → Nat) (h : ∀ s, s < m → rk (st s) < rk (en s)) {n p : Nat} (hp : rk p < n) : ∀ d, flN st en m b (n + d) p = flN st en m b n p
  | 0 => rfl
  | d + 1 => by
    rw [← flN_st2 rk h hp d]
    exact (flN_st rk h (n + d) p (by omega)).symm
theorem flw_ex {st en : Nat → Nat} {m b n : Nat} (rk : Nat → Nat) (h : ∀ s, s < m → rk (st s) < rk (en s)) (hr : ∀ p, p < n → rk p < n) (hst : ∀ s, s < m → st s < n) : flw (fun p => nI (flN st en m b n p)) st en m b n := by
  intro p hp
  show nI (flN st en m b n p) = _
  rw [flN_st rk h n p (hr p hp)]
  show nI ((if p = b then 1 else 0) + fb_sm _ m) = _
  rw [← nI_add, ← sI_nat]
  refine congr (congrArg HAdd.hAdd ?_) (sI_g (fun s hs => ?_))
  · split <;> rfl
  · split <;> rfl
/-- no more than two to the arrows from there on -/
theorem flN_le {st en : Nat → Nat} {m b : Nat} (rk : Nat → Nat) (h : ∀ s, s < m → rk (st s) < rk (en s)) : ∀ n p, flN st en m b n p ≤ 2 ^ fb_ct (fun s => decide (rk (en s) ≤ rk p)) m
  | 0, p => Nat.zero_le _
  | n + 1, p => by
    -- arrows into p, and those that end lower
    have e1 : fb_ct (fun s => decide (rk (en s) ≤ rk p)) m ≥ fb_ct (fun s => decide (rk (en s) < rk p)) m + fb_ct (fun s => decide (en s = p)) m := by
      rw [← fb_ct_or (fun k _ => by simp only [decide_eq_true_eq]; rintro ⟨a, b⟩; rw [b] at a; omega)]
      refine fb_ct_sub (fun k _ hk => ?_)
      simp only [Bool.or_eq_true, decide_eq_true_eq] at hk ⊢
      rcases hk with q | q
      · omega
      · rw [q]; omega
    have e2 : fb_sm (fun s => if en s = p then flN st en m b n (st s) else 0) m ≤ fb_ct (fun s => decide (en s = p)) m * 2 ^ fb_ct (fun s => decide (rk (en s) < rk p)) m := by
      have : ∀ k, k ≤ m → fb_sm (fun s => if en s = p then flN st en m b n (st s) else 0) k ≤ fb_ct (fun s => decide (en s = p)) k * 2 ^ fb_ct (fun s => decide (rk (en s) < rk p)) m := by
        intro k
        induction k with
        | zero => intro _; exact Nat.zero_le _
        | succ k ih =>
          intro hk
          have ih := ih (by omega)
          rw [fb_sm_succ, fb_ct_succ]
          by_cases q : en k = p
          · rw [if_pos q, if_pos (decide_eq_true q), Nat.add_mul, Nat.one_mul]
            have hb := flN_le (b := b) rk h n (st k)
            have hk2 := h k (by omega)
            rw [q] at hk2
            have hc : fb_ct (fun s => decide (rk (en s) ≤ rk (st k))) m ≤ fb_ct (fun s => decide (rk (en s) < rk p)) m := fb_ct_sub (fun s _ hs => by simp only [decide_eq_true_eq] at hs ⊢; omega)
            have := Nat.pow_le_pow_right (show 0 < 2 by decide) hc
            omega
          · rw [if_neg q, if_neg (by rw [decide_eq_false q]; decide), Nat.add_zero, Nat.add_zero]
            exact ih
      exact this m (Nat.le_refl _)
    have e3 : ∀ c : Nat, 1 + c ≤ 2 ^ c := by
      intro c
      induction c with
      | zero => exact Nat.le_refl _
      | succ c ih => rw [Nat.pow_succ]; omega
    have hp : 2 ^ (fb_ct (fun s => decide (rk (en s) < rk p)) m + fb_ct (fun s => decide (en s = p)) m) ≤ 2 ^ fb_ct (fun s => decide (rk (en s) ≤ rk p)) m := Nat.pow_le_pow_right (by decide) e1
    refine Nat.le_trans ?_ hp
    rw [Nat.pow_add]
    have h1 : 1 ≤ 2 ^ fb_ct (fun s => decide (rk (en s) < rk p)) m := Nat.two_pow_pos _
    have h3 := e3 (fb_ct (fun s => decide (en s = p)) m)
    have h4 : 2 ^ fb_ct (fun s => decide (rk (en s) < rk p)) m * (1 + fb_ct (fun s => decide (en s = p)) m) ≤ 2 ^ fb_ct (fun s => decide (rk (en s) < rk p)) m * 2 ^ fb_ct (fun s => decide (en s = p)) m := Nat.mul_le_mul_left _ h3
    rw [Nat.mul_add, Nat.mul_one, Nat.mul_comm (2 ^ _) (fb_ct (fun s => decide (en s = p)) m)] at h4
    show (if p = b then 1 else 0) + _ ≤ _
    have h5 : (if p = b then 1 else 0) ≤ 1 := by split <;> omega
    omega
end P36
