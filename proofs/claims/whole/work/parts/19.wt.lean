theorem v_plan_ne : ∀ q, q < 12 → v_plan q ≠ 4 ∧ v_plan q < 131 := by decide +kernel
theorem v_WT_plan {M : vM} {w k : Nat} (h : v_WT M.2.2) (hw : v_isW w) (hp : v_isP k) : v_WT (v_sr M w 0 (k + 1)).2.2 := by
  have hfin : ((v_FIN.all fun q => (List.range 6).all fun i => decide (¬ (q.1 = 46 + 15 * i ∧ q.2.1 = 0)))) = true := by decide +kernel
  obtain ⟨i, hi, rfl⟩ := hw
  refine ⟨fun q hq => ?_, fun j hj => ?_, fun w' hw' => ?_⟩
  · have h1 := of_decide_eq_true (List.all_eq_true.mp (List.all_eq_true.mp hfin q hq) i (List.mem_range.mpr hi))
    show (if q.1 = 46 + 15 * i ∧ q.2.1 = 0 then k + 1 else M.2.2 q.1 q.2.1) = q.2.2 + 1
    rw [if_neg h1]
    exact h.1 q hq
  · show ∃ x, (if 4 = 46 + 15 * i ∧ j = 0 then k + 1 else M.2.2 4 j) = x + 1 ∧ v_isP x
    rw [if_neg (by omega)]
    exact h.2.1 j hj
  · show ∃ x, (if w' = 46 + 15 * i ∧ 0 = 0 then k + 1 else M.2.2 w' 0) = x + 1 ∧ v_isP x
    by_cases e : w' = 46 + 15 * i
    · rw [if_pos ⟨e, rfl⟩]
      exact ⟨k, rfl, hp⟩
    · rw [if_neg (fun q => e q.1)]
      exact h.2.2 w' hw'
theorem v_WT_spare {M : vM} {i k : Nat} (h : v_WT M.2.2) (hi : i < 6) (hp : v_isP k) : v_WT (v_sr M 4 i (k + 1)).2.2 := by
  have hfin : (v_FIN.all fun q => decide (¬ q.1 = 4)) = true := by decide +kernel
  refine ⟨fun q hq => ?_, fun j hj => ?_, fun w' hw' => ?_⟩
  · have h1 := of_decide_eq_true (List.all_eq_true.mp hfin q hq)
    show (if q.1 = 4 ∧ q.2.1 = i then k + 1 else M.2.2 q.1 q.2.1) = q.2.2 + 1
    rw [if_neg (fun z => h1 z.1)]
    exact h.1 q hq
  · show ∃ x, (if 4 = 4 ∧ j = i then k + 1 else M.2.2 4 j) = x + 1 ∧ v_isP x
    by_cases e : j = i
    · rw [if_pos ⟨rfl, e⟩]
      exact ⟨k, rfl, hp⟩
    · rw [if_neg (fun q => e q.2)]
      exact h.2.1 j hj
  · obtain ⟨j, hj, rfl⟩ := hw'
    show ∃ x, (if 46 + 15 * j = 4 ∧ 0 = i then k + 1 else M.2.2 (46 + 15 * j) 0) = x + 1 ∧ v_isP x
    rw [if_neg (by omega)]
    exact h.2.2 _ ⟨j, hj, rfl⟩
