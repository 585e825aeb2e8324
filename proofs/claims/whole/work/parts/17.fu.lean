/-- fuel: more than any loop of the class or of the reference turns -/
def FU : Nat := 100000
theorem th_iaeg : ∀ w ∈ Cond.classLink "NeverTwice" 101 (v_exn 2) :: Cond.initialized (v_exn 2) :: vx_atS "NeverTwice" 105 (v_exn 2) ["java/lang/RuntimeException", "java/lang/Exception"], vx_ot w = true := by decide +kernel
theorem th_iae : ∀ w ∈ vx_atS "NeverTwice" 105 (v_exn 2) ["java/lang/RuntimeException", "java/lang/Exception"], w ∈ lw_tbl ∧ (goodWord w || v_nwK w) = true := by decide +kernel
theorem v_th {L : List Cond} (h : ∀ w ∈ L, w ∈ lw_tbl ∧ (goodWord w || v_nwK w) = true) : ∀ w ∈ L, w ∈ v_G ∨ w ∈ v_NW := by
  intro w hw
  obtain ⟨h1, h2⟩ := h w hw
  rcases Bool.or_eq_true _ _ |>.mp h2 with h3 | h3
  · exact Or.inl (List.mem_filter.mpr ⟨h1, h3⟩)
  · exact Or.inr (List.mem_filter.mpr ⟨h1, h3⟩)
section V13
variable {l : Launch} {D : va_G} {dA : Nat → ClassId} {S : vS} {al : Bool} {nf d kc ks pc pc' : Nat} {lv lv' : List (Nat × Value)} {st st' : List Value} {n : Nat} {M : vM} {o : Option (vR × vM)}
theorem v_nar_z (x : Int32) : narrow .boolean (.int x) = .int (v_nz x) := rfl
theorem V_retz {x : Int32} (hI : vI al M) (hr : S.2.2.2.1 = some .boolean) (hd : decode S.2.1 pc = .ok (.ireturn, 1)) : V l D dA S al n d kc ks pc lv [.int x] n M (if v_nz x = x then rI x M else none) := by
  by_cases h : v_nz x = x
  · rw [if_pos h]
    refine V_ret hI (by rw [hr]; exact Or.inr (Or.inr (Or.inl ⟨rfl, _, rfl⟩))) (by rw [hr]; exact hd) ?_ rfl
    intro ty y h1 h2
    rw [hr] at h1
    cases h1
    cases h2
    rw [v_nar_z, h]
  · rw [if_neg h]
    exact V_none
theorem V_throwW {k ik is ic sid : Nat} {text : String} (hI : vI al M) (hl9 : l.stackTraces = false) (hcls : Bundle.fit (v_exn k) = true)
    (hk : Cond.classLink S.1.cls ik (v_exn k) ∈ v_G) (hini : Cond.initialized (v_exn k) ∈ v_G) (hstr : (S.1.cls, (is, (text, sid))) ∈ v_STR) (hat : ∀ w ∈ vx_atS S.1.cls ic (v_exn k) ["java/lang/RuntimeException", "java/lang/Exception"], w ∈ v_G ∨ w ∈ v_NW)
    (hgood : ∀ w ∈ Cond.classLink S.1.cls ik (v_exn k) :: Cond.initialized (v_exn k) :: vx_atS S.1.cls ic (v_exn k) ["java/lang/RuntimeException", "java/lang/Exception"], vx_ot w = true)
    (d0 : decode S.2.1 pc = .ok (.new ik, 3)) (d3 : decode S.2.1 (pc + 3) = .ok (.dup, 1)) (d4 : decode S.2.1 (pc + 4) = .ok (.ldc_w is, 3)) (d6 : decode S.2.1 (pc + 7) = .ok (.invokespecial ic, 3)) (d9 : decode S.2.1 (pc + 10) = .ok (.athrow, 1))
    (hh : S.2.2.2.2 = []) (hdd : 6 ≤ d) (hkc : 1 ≤ kc) (hks : 6 ≤ ks) (hcat : (st.map fun v => v.category).sum ≤ 8) : V l D dA S al n d kc ks pc lv st n M (rT k M) := by
  intro r M' ho
  cases ho
  refine ⟨⟨hI, fun v9 h9 => (by cases h9)⟩, ?_⟩
  intro ad p e R s m args below meth cd H locs cells slots Q A ls C Wd Zr h3 h4 hl Rt
  obtain ⟨Qc, XC, mc, ms, free, rfl, c1, c2, c3, c4⟩ := (Rt ad v_exS).2 k rfl
  obtain ⟨hx, hb, hml, -, hown, hts, hlocks, htab, -, hfr, hlo⟩ := id C
  obtain ⟨hP, hK, hD, hS, hA, hG⟩ := id Wd
  have hout : ∀ x ∈ cd.exceptionTable.toList, covers x (pc + 10) = false := by
    rw [htab, hh]
    intro x hx9
    cases hx9
  have hcat9 : ((st.map (vcv ad)).map fun v => v.category).sum ≤ 8 := v_catsum hcat
  refine vx_throwSW (A := A) (names := ["java/lang/RuntimeException", "java/lang/Exception"]) hx hb hl9 hown hcls (by decide +kernel) (hts _ hk) (hts _ hini) (hG.2.1 _ hstr) ?_ hgood hG.2.2.2.1 hG.2.2.2.2.1 hS (hl.1.trans hml.symm) d0 d3 d4 d6 d9 hout ?_ ?_ ?_ ?_ hlocks ?_ (fun z hz => c3 _ (hS.2.2 z hz)) (by omega) (by omega)
  · intro w hw
    rcases hat w hw with h | h
    · exact hts w h
    · exact v_nwU (fun _ => hG.1 w h) (List.mem_filter.mp h).2
  · show 2 + 3 < R.frames
    omega
  · show _ + (13 * (2 + 1) + 43) ≤ R.locals
    omega
  · omega
  · omega
  · intro t ht hz hq
    refine c4 t ht ⟨?_, hD⟩ ?_
    · exact hP.kept (fun k q hk => hq q.1 (hP k q hk).lt)
    · exact ⟨Nat.le_trans hS.1 hz, fun q h1 h2 => (hq q (Nat.lt_of_lt_of_le h1 hS.1)).trans (hS.2.1 q h1 h2)⟩
end V13
