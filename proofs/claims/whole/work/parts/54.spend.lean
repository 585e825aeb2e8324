section P14
variable {M N : vM} {i : Nat}
/-- a row's places that fulfil P set to 1 -/
def v_up1 (M : vM) (R : Nat) (P : Nat → Prop) [DecidablePred P] : vM := (fun c j => if c = R ∧ P j then 1 else M.1 c j, M.2)
theorem up_c {R c : Nat} {P : Nat → Prop} [DecidablePred P] (h : c ≠ R) : (v_up1 M R P).1 c = M.1 c := by
  funext j
  exact if_neg (fun z => h z.1)
theorem up_y {R j : Nat} {P : Nat → Prop} [DecidablePred P] (h : P j) : (v_up1 M R P).1 R j = 1 := if_pos ⟨rfl, h⟩
theorem up_n {R j : Nat} {P : Nat → Prop} [DecidablePred P] (h : ¬ P j) : (v_up1 M R P).1 R j = M.1 R j := if_neg (fun z => h z.2)
theorem up_eq {R : Nat} {P Q : Nat → Prop} [DecidablePred P] [DecidablePred Q] (h2 : N.2 = M.2) (h1 : ∀ c, c ≠ R → N.1 c = M.1 c) (h : ∀ j, (v_up1 N R P).1 R j = (v_up1 M R Q).1 R j) : v_up1 N R P = v_up1 M R Q := by
  refine Prod.ext ?_ h2
  funext c j
  by_cases q : c = R
  · subst q
    exact h j
  · have e1 := congrFun (up_c (M := N) (P := P) q) j
    have e2 := congrFun (up_c (M := M) (P := Q) q) j
    exact e1.trans ((congrFun (h1 c q) j).trans e2.symm)
theorem v_nz1 : v_nz 1 = 1 := by decide
def kOK (N : vM) (w c : Nat) (co mk : Nat → Nat) : Prop := N.1 w 1 = nI c ∧ c ≤ 1458 ∧ ∀ k, k < c → N.2.1 (w + 7) k = lN (co k * 1048576 + mk k) ∧ mk k < 1048576 ∧ co k < 1048576
theorem bits20 (law lo : Int32) : 1048575 &&& cBits law lo = cBits law lo := by
  unfold cBits
  split
  · rw [← Int32.and_assoc]
    congr 1
  · decide
theorem key_xor {a k m : Nat} (hk : k < 1048576) (hm : m < 1048576) (law lo : Int32) : (Int64.toInt32 (lN (a * 1048576 + k)) ^^^ nI m) &&& cBits law lo = nI (k ^^^ m) &&& cBits law lo := by
  rw [lN_i, nx_xor, ← bits20, ← Int32.and_assoc, ← Int32.and_assoc]
  congr 1
  rw [show (1048575 : Int32) = nI (2 ^ 20 - 1) from rfl, nx_and, nx_and, Nat.and_two_pow_sub_one_eq_mod, Nat.and_two_pow_sub_one_eq_mod, Nat.xor_mod_two_pow, Nat.xor_mod_two_pow, show (a * 1048576 + k) % 2 ^ 20 = k % 2 ^ 20 by omega]
/-- the zeros of a row -/
def zer (N : vM) (R c : Nat) : Nat := fb_ct (fun j => decide (N.1 R j = 0)) c
theorem zer_set {R c k : Nat} (hk : k < c) (h0 : N.1 R k = 0) : zer (v_si N R k 1) R c + 1 = zer N R c := by
  have h := fb_ct_upd (fun j => decide (N.1 R j = 0)) false hk
  have e : (fun j => decide ((v_si N R k 1).1 R j = 0)) = fun j => if j = k then false else decide (N.1 R j = 0) := by
    funext j
    by_cases q : j = k
    · subst q
      rw [si_s, if_pos rfl]
      rfl
    · rw [si_n q, if_neg q]
  unfold zer
  rw [e]
  rw [show (if decide (N.1 R k = 0) = true then 1 else 0) = 1 from if_pos (decide_eq_true h0), show (if false = true then 1 else 0) = 0 from rfl] at h
  exact h
theorem c_test1 {law lo ot : Int32} {u : Nat} (hu : u < 2 ^ 20) (hl : law = 0 ∨ law = 1 ∨ law = 2) : ∃ v, v < 2 ^ 20 ∧ nI u &&& cBits law lo = nI v ∧ (¬ cUnl law ot ≤ nI (pcn 32 v) ↔ sSame law lo ot u = 1) := by
  obtain ⟨v, v1, v2, v3⟩ := c_test (lo := lo) (ot := ot) hu hl
  refine ⟨v, v1, v2, ?_⟩
  rw [← v3]
  by_cases q : cUnl law ot ≤ nI (pcn 32 v)
  · rw [if_pos q]
    exact ⟨fun z => absurd q z, fun z => absurd z (by decide)⟩
  · rw [if_neg q]
    exact ⟨fun _ => rfl, fun _ => q⟩
theorem l_ss84 {w R : Nat} {law lo num : Int32} {m : Nat} (hm : m < 2 ^ 20) (hl : law = 0 ∨ law = 1 ∨ law = 2) (hR : (v_LAY R).2.2 = 1458) (hRw : R ≠ w) {c : Nat} {co mk : Nat → Nat} :
    ∀ (n f k s : Nat) (N : vM), n < f → k + n = c → kOK N w c co mk → (∀ j, j < c → N.1 R j = 0 ∨ N.1 R j = 1) →
    ∃ s', fX9_setSame_84 f N w R (nI s) (cBits law lo) (cUnl law num) (nI m) (nI k) = rI (nI s') (v_up1 N R (fun j => k ≤ j ∧ j < c ∧ sSame law lo num (mk j ^^^ m) = 1)) ∧ s' + zer (v_up1 N R (fun j => k ≤ j ∧ j < c ∧ sSame law lo num (mk j ^^^ m) = 1)) R c = s + zer N R c := by
  intro n
  induction n with
  | zero =>
    intro f k s N hf hk hO hrow
    cases f with
    | zero => exact absurd hf (Nat.not_lt_zero _)
    | succ f =>
      have e : v_up1 N R (fun j => k ≤ j ∧ j < c ∧ sSame law lo num (mk j ^^^ m) = 1) = N := by
        refine Prod.ext ?_ rfl
        funext a b
        exact if_neg (by omega)
      refine ⟨s, ?_, by rw [e]⟩
      have hc := hO.2.1
      unfold fX9_setSame_84
      rw [hO.1, if_pos (nI_le (by omega) (by omega)), e]
  | succ n ih =>
    intro f k s N hf hk hO hrow
    cases f with
    | zero => exact absurd hf (Nat.not_lt_zero _)
    | succ f =>
      have hc := hO.2.1
      obtain ⟨k1, k2, k3⟩ := hO.2.2 k (by omega)
      have hx : mk k ^^^ m < 2 ^ 20 := Nat.xor_lt_two_pow k2 hm
      obtain ⟨v, v1, v2, v3⟩ := c_test1 (lo := lo) (ot := num) hx hl
      have hin : v_in (nI k) 1458 = true := v_in_nI (by omega) (by decide)
      have skip : ¬ (N.1 R k = 0 ∧ sSame law lo num (mk k ^^^ m) = 1) → v_up1 N R (fun j => k + 1 ≤ j ∧ j < c ∧ sSame law lo num (mk j ^^^ m) = 1) = v_up1 N R (fun j => k ≤ j ∧ j < c ∧ sSame law lo num (mk j ^^^ m) = 1) := by
        intro hn
        refine up_eq rfl (fun _ _ => rfl) (fun j => ?_)
        by_cases qj : j = k
        · subst qj
          rw [up_n (fun z => by omega)]
          by_cases q2 : sSame law lo num (mk j ^^^ m) = 1
          · rw [up_y ⟨Nat.le_refl _, by omega, q2⟩]
            exact (hrow j (by omega)).resolve_left (fun z => hn ⟨z, q2⟩)
          · rw [up_n (fun z => q2 z.2.2)]
        · by_cases q2 : k ≤ j ∧ j < c ∧ sSame law lo num (mk j ^^^ m) = 1
          · rw [up_y ⟨by have := q2.1; omega, q2.2⟩, up_y q2]
          · rw [up_n (fun z => q2 ⟨by have := z.1; omega, z.2⟩), up_n q2]
      unfold fX9_setSame_84
      rw [hO.1, if_neg (nI_ge (by omega) (by omega)), hR, if_neg (nI_ge (show k < 1458 by omega) (by decide)), if_neg (nI_ge (show k < 1458 by omega) (by decide)), if_pos hin, nI_clamp (by omega)]
      by_cases q0 : N.1 R k = 0
      · rw [if_pos q0, if_pos hin, k1, key_xor k2 hm, v2, pop_nat (by omega), bi_I]
        by_cases q1 : cUnl law num ≤ nI (pcn 32 v)
        · rw [if_pos q1, nI_1]
          obtain ⟨s', a, b⟩ := ih f (k + 1) s N (by omega) (by omega) hO hrow
          rw [skip (fun z => (v3.mpr z.2) q1)] at a b
          exact ⟨s', a, b⟩
        · rw [if_neg q1, if_pos hin, v_nz1, nI_1, nI_1]
          have hs := v3.mp q1
          have hO2 : kOK (v_si N R k 1) w c co mk := ⟨by rw [si_c (Ne.symm hRw)]; exact hO.1, hc, hO.2.2⟩
          obtain ⟨s', a, b⟩ := ih f (k + 1) (s + 1) (v_si N R k 1) (by omega) (by omega) hO2 (fun j hj => by
            by_cases qj : j = k
            · rw [qj, si_s]; exact Or.inr rfl
            · rw [si_n qj]; exact hrow j hj)
          have e : v_up1 (v_si N R k 1) R (fun j => k + 1 ≤ j ∧ j < c ∧ sSame law lo num (mk j ^^^ m) = 1) = v_up1 N R (fun j => k ≤ j ∧ j < c ∧ sSame law lo num (mk j ^^^ m) = 1) := by
            refine up_eq rfl (fun c' h' => si_c h') (fun j => ?_)
            by_cases qj : j = k
            · subst qj
              rw [up_n (fun z => by omega), si_s, up_y ⟨Nat.le_refl _, by omega, hs⟩]
            · by_cases q2 : k ≤ j ∧ j < c ∧ sSame law lo num (mk j ^^^ m) = 1
              · rw [up_y ⟨by have := q2.1; omega, q2.2⟩, up_y q2]
              · rw [up_n (fun z => q2 ⟨by have := z.1; omega, z.2⟩), up_n q2, si_n qj]
          rw [e] at a b
          have z := zer_set (N := N) (R := R) (c := c) (k := k) (by omega) q0
          exact ⟨s', a, by omega⟩
      · rw [if_neg q0, nI_1]
        obtain ⟨s', a, b⟩ := ih f (k + 1) s N (by omega) (by omega) hO hrow
        rw [skip (fun z => q0 z.1)] at a b
        exact ⟨s', a, b⟩
end P14
