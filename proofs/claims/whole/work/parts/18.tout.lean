theorem v_tout {x : Int32} {m : Nat} (hm : m < 2 ^ 31) (h : ∀ k, k < m + 1 → ¬ x = nI k) : x.toInt < 0 ∨ (m : Int) < x.toInt := by
  rcases Int.lt_or_le x.toInt 0 with h0 | h0
  · exact Or.inl h0
  · right
    rcases Int.lt_or_le (m : Int) x.toInt with h1 | h1
    · exact h1
    · exfalso
      have h2 : x.toInt.toNat < m + 1 := by omega
      refine h _ h2 ?_
      apply Int32.toInt_inj.mp
      rw [nI_toInt (by omega)]
      omega
