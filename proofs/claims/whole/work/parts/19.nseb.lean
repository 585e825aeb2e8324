theorem th_N : ∀ w ∈ (vN_at "NeverTwice" 157 "java/util/NoSuchElementException" "java/lang/RuntimeException" 13 prog_30_method_4_code ["java/lang/Exception"]).filter vx_no, w ∈ lw_tbl ∧ (goodWord w || v_nwK w) = true := by decide +kernel
theorem gw_nk : Cond.classLink "NeverTwice" 153 "java/util/NoSuchElementException" ∈ v_G := gw876
theorem gw_ni : Cond.initialized "java/util/NoSuchElementException" ∈ v_G := gw103
section V14
variable {l : Launch} {D : va_G} {dA : Nat → ClassId} {S : vS} {al : Bool} {nf d kc ks pc pc' : Nat} {lv lv' : List (Nat × Value)} {st st' : List Value} {n : Nat} {M : vM} {o : Option (vR × vM)}
theorem V_throwN {is sid : Nat} {text : String} (hI : vI al M) (hl9 : l.stackTraces = false) (hown9 : S.1.cls = "NeverTwice") (hstr : (S.1.cls, (is, (text, sid))) ∈ v_STR)
    (d0 : decode S.2.1 pc = .ok (.new 153, 3)) (d3 : decode S.2.1 (pc + 3) = .ok (.dup, 1)) (d4 : decode S.2.1 (pc + 4) = .ok (.ldc is, 2)) (d6 : decode S.2.1 (pc + 4 + 2) = .ok (.invokespecial 157, 3)) (d9 : decode S.2.1 (pc + 4 + 2 + 3) = .ok (.athrow, 1))
    (hh : S.2.2.2.2 = []) (hdd : 6 ≤ d) (hkc : 1 ≤ kc) (hks : 6 ≤ ks) (hcat : (st.map fun v => v.category).sum ≤ 8) : V l D dA S al n d kc ks pc lv st n M (rT 1 M) := by
  intro r M' ho
  cases ho
  refine ⟨⟨hI, fun v9 h9 => (by cases h9)⟩, ?_⟩
  intro ad p e R s m args below meth cd H locs cells slots Q A ls C Wd Zr h3 h4 hl Rt
  obtain ⟨Qc, XC, mc, ms, free, rfl, c1, c2, c3, c4⟩ := (Rt ad v_exS).2 1 rfl
  obtain ⟨hx, hb, hml, -, hown, hts, hlocks, htab, -, hfr, hlo⟩ := id C
  obtain ⟨hP, hK, hD, hS, hA, hG⟩ := id Wd
  rw [hown9] at hown hstr
  have hout : ∀ x ∈ cd.exceptionTable.toList, covers x (pc + 4 + 2 + 3) = false := by
    rw [htab, hh]
    intro x hx9
    cases hx9
  have hcat9 : ((st.map (vcv ad)).map fun v => v.category).sum ≤ 8 := v_catsum hcat
  intro T hT X
  have htr : e.platform.stackTraces = false := (show e.platform.stackTraces = l.stackTraces by rw [X.admits.platform]).trans hl9
  have Y := vx_rebase X (R' := { frames := R.frames, locals := R.locals, cells := 1, slots := 6 }) (Nat.le_refl _) (Nat.le_refl _) (by show cells + 1 ≤ R.cells; omega) (by show slots + 6 ≤ R.slots; omega)
  obtain ⟨s', hA'⟩ : ∃ z, z = (T.setVm s.vm).setFrames (.invoking m args :: below) := ⟨_, rfl⟩
  rw [← hA'] at Y
  have hvm : s'.vm = s.vm := by rw [hA']; rfl
  have hhp : s'.heap = H := by rw [hA']; exact hT
  have hW0 : s.WarmedH s'.vm := by rw [hvm]; exact State.WarmedH.refl s
  have up : ∀ w, w ∈ lw_tbl → (goodWord w || v_nwK w) = true → w.before args s' = true := by
    intro w h1 h2
    rcases Bool.or_eq_true _ _ |>.mp h2 with h5 | h5
    · exact word_at hW0 (good_of_word h5) (hts w (List.mem_filter.mpr ⟨h1, h5⟩))
    · refine va_tabs ?_ hvm.symm (v_nwU (args := args) (fun _ => hG.1 w (List.mem_filter.mpr ⟨h1, h5⟩)) h5)
      cases w <;> first | rfl | (simp [v_nwK] at h5)
  have hU' : vx_Zq Bundle.tN "UNASSIGNED_STACK" Bundle.steD A s' s'.heap := by rw [hhp]; exact vx_Zq.moved hW0.alike (hG.2.2.2.1.kept hS.2.1)
  have hN' : vx_Zq Bundle.tN "SUPPRESSED_SENTINEL" Bundle.listD A s' s'.heap := by rw [hhp]; exact vx_Zq.moved hW0.alike (hG.2.2.2.2.1.kept hS.2.1)
  have h : ∀ w ∈ vN_at "NeverTwice" 157 "java/util/NoSuchElementException" "java/lang/RuntimeException" 13 prog_30_method_4_code ["java/lang/Exception"], w.before args s' = true :=
    vx_own (fun w hw => up w (th_N w hw).1 (th_N w hw).2) (vx_isRefq hU'.1) (vx_isRefq hN'.1) hU'.2.word hN'.2.word
  have hown' : s'.vm.findClass "NeverTwice" = some m.cls := by rw [hvm]; exact hown
  have hk' : (Cond.classLink "NeverTwice" 153 "java/util/NoSuchElementException").before args s' = true := up _ (List.mem_filter.mp gw_nk).1 (by decide +kernel)
  have hini' : (Cond.initialized "java/util/NoSuchElementException").before args s' = true := up _ (List.mem_filter.mp gw_ni).1 (by decide +kernel)
  have hins : (Cond.instantiable "java/util/NoSuchElementException" 6).before args s' = true := h _ (by simp [vN_at, vN_tail])
  obtain ⟨vm₁, cX, kX, hfX, hkX, -, -, X₁, st1⟩ := Y.newCold hx (own := "NeverTwice") (C := "java/util/NoSuchElementException") (index := 153) (n := 6) hown' hk' hins hini'
    (g := F0 m pc ls (st.map (vcv ad))) rfl (by rw [hb]; exact d0) (Nat.le_refl _) (Nat.le_refl _)
  generalize hT1 : (T.setVm vm₁).pushCell { cls := cX, slots := kX.instanceTypes.map defaultValue, vm := .none } = T1 at X₁ st1
  have hcat0 : (Value.ref T.heap.size).category = 1 := rfl
  have hcellA : T1.heap[T.heap.size]? = some (freshCell cX kX) := by rw [← hT1]; exact State.heap_pushCell_size _ _
  have d3' : decode cd.code (pc + 3) = .ok (.dup, 1) := by rw [hb]; exact d3
  have d4' : decode cd.code (pc + 4) = .ok (.ldc is, 2) := by rw [hb]; exact d4
  have hstr' : vk_R "NeverTwice" is text (ad (1000 + sid)) s' := vk_R.warm hW0 (hG.2.1 _ hstr)
  obtain ⟨U, hsteps, hrun, hend, hW, hsame, ce, hce, hcv, hcl0⟩ := vN_ctor X₁ hx htr (own := "NeverTwice") (cls := "java/util/NoSuchElementException") (Y0 := "java/lang/RuntimeException") (names := ["java/lang/Exception"]) (ic := 157) (i1 := 13) (b1 := prog_30_method_4_code) (by decide +kernel) (by decide +kernel) (by decide +kernel) (by decide +kernel) hown' (by decide +kernel) (by decide +kernel) (by decide +kernel) h (vx_isRefq hU'.1) (vx_isRefq hN'.1) hU'.2.word hN'.2.word (fun x hx => nomatch hx) hfX hkX hcellA (by rw [hhp, hT]; exact Nat.le_refl _) (msg := .ref (ad (1000 + sid))) rfl
    (g := { method := m, pc := pc + 4 + 2, locals := ls, stack := .ref (ad (1000 + sid)) :: .ref T.heap.size :: .ref T.heap.size :: st.map (vcv ad), locked := none }) rfl (hl.1.trans hml.symm) rfl rfl (rest := st.map (vcv ad)) rfl
    (by rw [hb]; exact d6) (by rw [hb]; exact d9) hout (by show 1 + 4 < R.frames; omega) (by
      show 2 * 0 + ((Value.ref T.heap.size :: st.map (vcv ad)).map fun v => v.category).sum + (13 * (1 + 2) + 42) ≤ R.locals
      simp only [List.map_cons, List.sum_cons, hcat0]
      omega) hlocks
  obtain ⟨f1, f2⟩ := vx_frame hsame
  rw [hhp] at f1 f2
  have hWs : s.WarmedH U.vm := State.WarmedH.trans hW0 hW
  have hcl : s.vm.findClass "java/util/NoSuchElementException" = some ce.cls := by
    rw [hvm] at hcl0
    exact hcl0
  have hall : s.sameButNew ({ U with vm := s.vm } : State) locs mc ms := by
    subst hA'
    obtain ⟨e1, e2⟩ := hsame
    rw [State.setFrames_setFrames] at e1
    have h2 : (T.setVm s.vm).sameButNew ({ U with vm := s.vm } : State) [] (0 + 1) (0 + 6) := ⟨e1, e2⟩
    have h3 := X.same.trans h2
    rw [List.append_nil] at h3
    exact h3.mono (by omega) (by omega)
  have hF : ∀ q : Nat, q < H.size → U.heap[q]? = H[q]? := fun q hq => f2 q hq (fun z hz => nomatch hz)
  refine ⟨U, ?_, .threw T.heap.size, hrun, hend, Or.inr ⟨T.heap.size, rfl, "java/util/NoSuchElementException", ce, locs, ?_, hce, hcv, hcl, hWs, hall, fun z hz => c3 _ (hS.2.2 z hz)⟩⟩
  · refine st1 _ ?_
    show Steps p.tables e below (T1.setTop { method := m, pc := pc + 3, locals := ls, stack := .ref T.heap.size :: st.map (vcv ad), locked := none }) _
    jvm_step X₁.here [X₁.here.top, hx, d3', Value.category]
    exact X₁.ldcString hx (own := "NeverTwice") (text := text) (index := is) (a := ad (1000 + sid)) hown' hstr'.1 hstr'.2
      (g := { method := m, pc := pc + 4, locals := ls, stack := .ref T.heap.size :: .ref T.heap.size :: st.map (vcv ad), locked := none }) rfl d4' _ hsteps
  · refine c4 U hWs.alike ⟨hP.kept (fun k q hk => hF q.1 (hP k q hk).lt), hD⟩ ⟨Nat.le_trans hS.1 f1, fun q h1 h2 => (hF q (Nat.lt_of_lt_of_le h1 hS.1)).trans (hS.2.1 q h1 h2)⟩
theorem V_throwNW {is sid : Nat} {text : String} (hI : vI al M) (hl9 : l.stackTraces = false) (hown9 : S.1.cls = "NeverTwice") (hstr : (S.1.cls, (is, (text, sid))) ∈ v_STR)
    (d0 : decode S.2.1 pc = .ok (.new 153, 3)) (d3 : decode S.2.1 (pc + 3) = .ok (.dup, 1)) (d4 : decode S.2.1 (pc + 4) = .ok (.ldc_w is, 3)) (d6 : decode S.2.1 (pc + 4 + 3) = .ok (.invokespecial 157, 3)) (d9 : decode S.2.1 (pc + 4 + 3 + 3) = .ok (.athrow, 1))
    (hh : S.2.2.2.2 = []) (hdd : 6 ≤ d) (hkc : 1 ≤ kc) (hks : 6 ≤ ks) (hcat : (st.map fun v => v.category).sum ≤ 8) : V l D dA S al n d kc ks pc lv st n M (rT 1 M) := by
  intro r M' ho
  cases ho
  refine ⟨⟨hI, fun v9 h9 => (by cases h9)⟩, ?_⟩
  intro ad p e R s m args below meth cd H locs cells slots Q A ls C Wd Zr h3 h4 hl Rt
  obtain ⟨Qc, XC, mc, ms, free, rfl, c1, c2, c3, c4⟩ := (Rt ad v_exS).2 1 rfl
  obtain ⟨hx, hb, hml, -, hown, hts, hlocks, htab, -, hfr, hlo⟩ := id C
  obtain ⟨hP, hK, hD, hS, hA, hG⟩ := id Wd
  rw [hown9] at hown hstr
  have hout : ∀ x ∈ cd.exceptionTable.toList, covers x (pc + 4 + 3 + 3) = false := by
    rw [htab, hh]
    intro x hx9
    cases hx9
  have hcat9 : ((st.map (vcv ad)).map fun v => v.category).sum ≤ 8 := v_catsum hcat
  intro T hT X
  have htr : e.platform.stackTraces = false := (show e.platform.stackTraces = l.stackTraces by rw [X.admits.platform]).trans hl9
  have Y := vx_rebase X (R' := { frames := R.frames, locals := R.locals, cells := 1, slots := 6 }) (Nat.le_refl _) (Nat.le_refl _) (by show cells + 1 ≤ R.cells; omega) (by show slots + 6 ≤ R.slots; omega)
  obtain ⟨s', hA'⟩ : ∃ z, z = (T.setVm s.vm).setFrames (.invoking m args :: below) := ⟨_, rfl⟩
  rw [← hA'] at Y
  have hvm : s'.vm = s.vm := by rw [hA']; rfl
  have hhp : s'.heap = H := by rw [hA']; exact hT
  have hW0 : s.WarmedH s'.vm := by rw [hvm]; exact State.WarmedH.refl s
  have up : ∀ w, w ∈ lw_tbl → (goodWord w || v_nwK w) = true → w.before args s' = true := by
    intro w h1 h2
    rcases Bool.or_eq_true _ _ |>.mp h2 with h5 | h5
    · exact word_at hW0 (good_of_word h5) (hts w (List.mem_filter.mpr ⟨h1, h5⟩))
    · refine va_tabs ?_ hvm.symm (v_nwU (args := args) (fun _ => hG.1 w (List.mem_filter.mpr ⟨h1, h5⟩)) h5)
      cases w <;> first | rfl | (simp [v_nwK] at h5)
  have hU' : vx_Zq Bundle.tN "UNASSIGNED_STACK" Bundle.steD A s' s'.heap := by rw [hhp]; exact vx_Zq.moved hW0.alike (hG.2.2.2.1.kept hS.2.1)
  have hN' : vx_Zq Bundle.tN "SUPPRESSED_SENTINEL" Bundle.listD A s' s'.heap := by rw [hhp]; exact vx_Zq.moved hW0.alike (hG.2.2.2.2.1.kept hS.2.1)
  have h : ∀ w ∈ vN_at "NeverTwice" 157 "java/util/NoSuchElementException" "java/lang/RuntimeException" 13 prog_30_method_4_code ["java/lang/Exception"], w.before args s' = true :=
    vx_own (fun w hw => up w (th_N w hw).1 (th_N w hw).2) (vx_isRefq hU'.1) (vx_isRefq hN'.1) hU'.2.word hN'.2.word
  have hown' : s'.vm.findClass "NeverTwice" = some m.cls := by rw [hvm]; exact hown
  have hk' : (Cond.classLink "NeverTwice" 153 "java/util/NoSuchElementException").before args s' = true := up _ (List.mem_filter.mp gw_nk).1 (by decide +kernel)
  have hini' : (Cond.initialized "java/util/NoSuchElementException").before args s' = true := up _ (List.mem_filter.mp gw_ni).1 (by decide +kernel)
  have hins : (Cond.instantiable "java/util/NoSuchElementException" 6).before args s' = true := h _ (by simp [vN_at, vN_tail])
  obtain ⟨vm₁, cX, kX, hfX, hkX, -, -, X₁, st1⟩ := Y.newCold hx (own := "NeverTwice") (C := "java/util/NoSuchElementException") (index := 153) (n := 6) hown' hk' hins hini'
    (g := F0 m pc ls (st.map (vcv ad))) rfl (by rw [hb]; exact d0) (Nat.le_refl _) (Nat.le_refl _)
  generalize hT1 : (T.setVm vm₁).pushCell { cls := cX, slots := kX.instanceTypes.map defaultValue, vm := .none } = T1 at X₁ st1
  have hcat0 : (Value.ref T.heap.size).category = 1 := rfl
  have hcellA : T1.heap[T.heap.size]? = some (freshCell cX kX) := by rw [← hT1]; exact State.heap_pushCell_size _ _
  have d3' : decode cd.code (pc + 3) = .ok (.dup, 1) := by rw [hb]; exact d3
  have d4' : decode cd.code (pc + 4) = .ok (.ldc_w is, 3) := by rw [hb]; exact d4
  have hstr' : vk_R "NeverTwice" is text (ad (1000 + sid)) s' := vk_R.warm hW0 (hG.2.1 _ hstr)
  obtain ⟨U, hsteps, hrun, hend, hW, hsame, ce, hce, hcv, hcl0⟩ := vN_ctor X₁ hx htr (own := "NeverTwice") (cls := "java/util/NoSuchElementException") (Y0 := "java/lang/RuntimeException") (names := ["java/lang/Exception"]) (ic := 157) (i1 := 13) (b1 := prog_30_method_4_code) (by decide +kernel) (by decide +kernel) (by decide +kernel) (by decide +kernel) hown' (by decide +kernel) (by decide +kernel) (by decide +kernel) h (vx_isRefq hU'.1) (vx_isRefq hN'.1) hU'.2.word hN'.2.word (fun x hx => nomatch hx) hfX hkX hcellA (by rw [hhp, hT]; exact Nat.le_refl _) (msg := .ref (ad (1000 + sid))) rfl
    (g := { method := m, pc := pc + 4 + 3, locals := ls, stack := .ref (ad (1000 + sid)) :: .ref T.heap.size :: .ref T.heap.size :: st.map (vcv ad), locked := none }) rfl (hl.1.trans hml.symm) rfl rfl (rest := st.map (vcv ad)) rfl
    (by rw [hb]; exact d6) (by rw [hb]; exact d9) hout (by show 1 + 4 < R.frames; omega) (by
      show 2 * 0 + ((Value.ref T.heap.size :: st.map (vcv ad)).map fun v => v.category).sum + (13 * (1 + 2) + 42) ≤ R.locals
      simp only [List.map_cons, List.sum_cons, hcat0]
      omega) hlocks
  obtain ⟨f1, f2⟩ := vx_frame hsame
  rw [hhp] at f1 f2
  have hWs : s.WarmedH U.vm := State.WarmedH.trans hW0 hW
  have hcl : s.vm.findClass "java/util/NoSuchElementException" = some ce.cls := by
    rw [hvm] at hcl0
    exact hcl0
  have hall : s.sameButNew ({ U with vm := s.vm } : State) locs mc ms := by
    subst hA'
    obtain ⟨e1, e2⟩ := hsame
    rw [State.setFrames_setFrames] at e1
    have h2 : (T.setVm s.vm).sameButNew ({ U with vm := s.vm } : State) [] (0 + 1) (0 + 6) := ⟨e1, e2⟩
    have h3 := X.same.trans h2
    rw [List.append_nil] at h3
    exact h3.mono (by omega) (by omega)
  have hF : ∀ q : Nat, q < H.size → U.heap[q]? = H[q]? := fun q hq => f2 q hq (fun z hz => nomatch hz)
  refine ⟨U, ?_, .threw T.heap.size, hrun, hend, Or.inr ⟨T.heap.size, rfl, "java/util/NoSuchElementException", ce, locs, ?_, hce, hcv, hcl, hWs, hall, fun z hz => c3 _ (hS.2.2 z hz)⟩⟩
  · refine st1 _ ?_
    show Steps p.tables e below (T1.setTop { method := m, pc := pc + 3, locals := ls, stack := .ref T.heap.size :: st.map (vcv ad), locked := none }) _
    jvm_step X₁.here [X₁.here.top, hx, d3', Value.category]
    exact X₁.ldcStringW hx (own := "NeverTwice") (text := text) (index := is) (a := ad (1000 + sid)) hown' hstr'.1 hstr'.2
      (g := { method := m, pc := pc + 4, locals := ls, stack := .ref T.heap.size :: .ref T.heap.size :: st.map (vcv ad), locked := none }) rfl d4' _ hsteps
  · refine c4 U hWs.alike ⟨hP.kept (fun k q hk => hF q.1 (hP k q hk).lt), hD⟩ ⟨Nat.le_trans hS.1 f1, fun q h1 h2 => (hF q (Nat.lt_of_lt_of_le h1 hS.1)).trans (hS.2.1 q h1 h2)⟩
end V14
