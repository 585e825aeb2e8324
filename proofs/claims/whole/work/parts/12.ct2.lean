section V9
variable {l : Launch} {D : va_G} {dA : Nat → ClassId} {S : vS} {al : Bool} {nf d kc ks pc pc' : Nat} {lv lv' : List (Nat × Value)} {st st' : List Value} {n : Nat} {M : vM} {o : Option (vR × vM)}
theorem v_args_map {ad : Nat → Nat} : ∀ (av : List Value) (i : Nat), lv_args i (av.map (vcv ad)) = (lv_args i av).map (vcl ad) := by
  intro av
  induction av with
  | nil => intro i; rfl
  | cons v vs ih =>
    intro i
    simp only [List.map_cons, lv_args, vcv_cat, ih]
    rfl
theorem v_sl_len {ad : Nat → Nat} : ∀ (av : List Value), (lg_sl (av.map (vcv ad))).length = (lg_sl av).length := by
  intro av
  induction av with
  | nil => rfl
  | cons v vs ih =>
    have h1 : lg_sl (v :: vs) = (if v.category = 2 then [Slot.val v, .second] else [Slot.val v]) ++ lg_sl vs := by simp [lg_sl]
    have h2 : lg_sl ((v :: vs).map (vcv ad)) = (if (vcv ad v).category = 2 then [Slot.val (vcv ad v), .second] else [Slot.val (vcv ad v)]) ++ lg_sl (vs.map (vcv ad)) := by simp [lg_sl]
    rw [h1, h2, List.length_append, List.length_append, ih, vcv_cat]
    by_cases h : v.category = 2 <;> simp [h]
theorem v_ctx {y : MethodName} {p : Program} {e : Env} {s s₁ : State} {m : MethodId} {args : Array Value} {below : List Frame} {meth : Method} {c : Code} {dd mc ms : Nat} (hS : S.1 = y) (B : BodyLoose p l y (headSpec (v_ws S) (v_rm d mc ms)) S.2.1 S.2.2.1 S.2.2.2.1 e s m args below meth c s₁) (hml : c.maxLocals = S.2.2.1) (ht : c.exceptionTable.toList = tableOf S.2.2.2.2) : vCx S d (headSpec (v_ws S) (v_rm d mc ms)).room p s m args meth c := by
  subst hS
  refine ⟨B.exec, B.bytes, hml, B.returns, findClass_of_methodNamed B.named, ?_, B.notSynchronized, ht, (name_of_methodNamed B.named B.method).1, Nat.le_refl _, Nat.le_refl _⟩
  intro w hw
  exact atoms_spec (ws := v_ws S) B.pre w (List.mem_cons_of_mem _ hw)
/-- a contract out of a walk of the body -/
theorem Ct_of {mc ms : Nat} {av : List Value} (hy : plainName S.1.cls = true) (hh : S.2.2.2.2 = []) (hlen : (lg_sl av).length ≤ S.2.2.1) (hlv : lv_args 0 av = lv) (hal : al = true → v_Zr n M)
    (hV : V l D dA S al nf d mc ms 0 lv [] n M o) : Ct l D dA S al nf d mc ms n av M o := by
  intro r M' ho
  refine ⟨(hV r M' ho).1.1, ?_⟩
  intro ad sz
  refine vx_ofW (cc := S.2.1) (maxL := S.2.2.1) (ret := S.2.2.2.1) hy (ws' := v_G) (by simp [v_ws, v_code, hh]) ?_
  intro p e s m args below meth c s₁ B hml ht hv
  obtain ⟨hargs, hsz, hP, hK, hD0, hGE⟩ := hv
  subst hargs
  subst hsz
  have C : vCx S d (headSpec (v_ws S) (v_rm d mc ms)).room p s m (av.map (vcv ad)).toArray meth c := v_ctx (l := l) (dd := d) rfl B hml (by
    rw [hh]
    exact List.eq_nil_iff_forall_not_mem.mpr (fun x hx => ht x hx))
  have hD : va_D (v_FA ad n s.heap.size) (v_wl dA ad n M) := by
    refine ⟨hD0.1, fun k q hk => ?_⟩
    have hkn : k < n := by
      have := (List.getElem?_eq_some_iff.mp hk).1
      simpa [v_wl] using this
    rw [v_wl_get hkn] at hk
    cases hk
    exact Or.inl ⟨k, hkn, rfl⟩
  rw [lg_entry_eq]
  have hl := v_entry (ad := ad) (av := av) (nL := S.2.2.1) (lv := lv) (by rw [v_sl_len]; exact hlen) hlv (v_args_map av 0)
  refine (hV r M' ho).2 ad p e _ s m _ below meth c s.heap [] 0 0 _ (v_FA ad n s.heap.size) _ C ⟨hP, hK, hD, va_S.rf, fun q h => Or.inr h, hGE⟩ hal ?_ ?_ hl (v_rt_met C rfl rfl ((hV r M' ho).1.2))
  · show 0 + mc ≤ mc
    omega
  · show 0 + ms ≤ ms
    omega
theorem V_callVi {S' : vS} {d' mc' ms' idx np kc' ks' : Nat} {av stk st0 : List Value} {f : Option (vR × vM)} {c cls : Nat} {q : vw_C} {K : Int32 → vM → Option (vR × vM)} (hdg : decode S.2.1 pc = .ok (.invokevirtual idx, 3)) (hlk : vLkV S.1.cls idx S' np) (hh' : S'.2.2.2.2 = []) (hc : c < n) (hL : v_LAY c = (0, cls, 0)) (hq : vwCl[cls]? = some q) (hq1 : q.1 = S'.1.cls) (hCt : Ct l D dA S' false n d' mc' ms' n (.ref c :: av) M f) (hnp : av.length = np) (hstk : av.reverse ++ .ref c :: st0 = stk) (hd' : d' + 1 ≤ d) (hmx : S'.2.2.1 ≤ 45) (hcat : (st0.map fun v => v.category).sum ≤ 8) (hh : S.2.2.2.2 = [] ∨ ∀ k M1, f ≠ some (.inl k, M1)) (hal : al = false) (hnf : nf = n) (hkc : mc' + kc' ≤ kc) (hks : ms' + ks' ≤ ks)
    (kk : ∀ x M1, f = rI x M1 → v_WT M1.2.2 → V l D dA S al nf d kc' ks' (pc + 3) lv (.int x :: st0) n M1 (K x M1)) : V l D dA S al nf d kc ks pc lv stk n M (bi f K) := by
  subst hal
  refine V_callG (al' := false) (nf' := n) (mc' := mc') (ms' := ms') (st0 := st0) (fun C Wd hl hf h1 h2 => ⟨_, v_runV C Wd hl hlk hh' hCt hf hc hL hq hq1 hnp hstk hd' hmx hcat hdg h1 h2⟩) hh (Or.inl ⟨rfl, rfl⟩) (fun _ => hnf.symm) hkc hks (fun _ => hnf) (fun _ h => by cases h) (fun r1 M1 hf => (hCt r1 M1 hf).1) ?_
  intro v M1 hf hI
  cases v with
  | none => exact V_none
  | some v =>
    cases v <;> first | exact kk _ M1 hf (hI rfl) | exact V_none
theorem V_callVl {S' : vS} {d' mc' ms' idx np kc' ks' : Nat} {av stk st0 : List Value} {f : Option (vR × vM)} {c cls : Nat} {q : vw_C} {K : Int64 → vM → Option (vR × vM)} (hdg : decode S.2.1 pc = .ok (.invokevirtual idx, 3)) (hlk : vLkV S.1.cls idx S' np) (hh' : S'.2.2.2.2 = []) (hc : c < n) (hL : v_LAY c = (0, cls, 0)) (hq : vwCl[cls]? = some q) (hq1 : q.1 = S'.1.cls) (hCt : Ct l D dA S' false n d' mc' ms' n (.ref c :: av) M f) (hnp : av.length = np) (hstk : av.reverse ++ .ref c :: st0 = stk) (hd' : d' + 1 ≤ d) (hmx : S'.2.2.1 ≤ 45) (hcat : (st0.map fun v => v.category).sum ≤ 8) (hh : S.2.2.2.2 = [] ∨ ∀ k M1, f ≠ some (.inl k, M1)) (hal : al = false) (hnf : nf = n) (hkc : mc' + kc' ≤ kc) (hks : ms' + ks' ≤ ks)
    (kk : ∀ x M1, f = rL x M1 → v_WT M1.2.2 → V l D dA S al nf d kc' ks' (pc + 3) lv (.long x :: st0) n M1 (K x M1)) : V l D dA S al nf d kc ks pc lv stk n M (bl f K) := by
  subst hal
  refine V_callG (al' := false) (nf' := n) (mc' := mc') (ms' := ms') (st0 := st0) (fun C Wd hl hf h1 h2 => ⟨_, v_runV C Wd hl hlk hh' hCt hf hc hL hq hq1 hnp hstk hd' hmx hcat hdg h1 h2⟩) hh (Or.inl ⟨rfl, rfl⟩) (fun _ => hnf.symm) hkc hks (fun _ => hnf) (fun _ h => by cases h) (fun r1 M1 hf => (hCt r1 M1 hf).1) ?_
  intro v M1 hf hI
  cases v with
  | none => exact V_none
  | some v =>
    cases v <;> first | exact kk _ M1 hf (hI rfl) | exact V_none
theorem V_callVr {S' : vS} {d' mc' ms' idx np kc' ks' : Nat} {av stk st0 : List Value} {f : Option (vR × vM)} {c cls : Nat} {q : vw_C} {K : Nat → vM → Option (vR × vM)} (hdg : decode S.2.1 pc = .ok (.invokevirtual idx, 3)) (hlk : vLkV S.1.cls idx S' np) (hh' : S'.2.2.2.2 = []) (hc : c < n) (hL : v_LAY c = (0, cls, 0)) (hq : vwCl[cls]? = some q) (hq1 : q.1 = S'.1.cls) (hCt : Ct l D dA S' false n d' mc' ms' n (.ref c :: av) M f) (hnp : av.length = np) (hstk : av.reverse ++ .ref c :: st0 = stk) (hd' : d' + 1 ≤ d) (hmx : S'.2.2.1 ≤ 45) (hcat : (st0.map fun v => v.category).sum ≤ 8) (hh : S.2.2.2.2 = [] ∨ ∀ k M1, f ≠ some (.inl k, M1)) (hal : al = false) (hnf : nf = n) (hkc : mc' + kc' ≤ kc) (hks : ms' + ks' ≤ ks)
    (kk : ∀ x M1, f = rR x M1 → v_WT M1.2.2 → V l D dA S al nf d kc' ks' (pc + 3) lv (.ref x :: st0) n M1 (K x M1)) : V l D dA S al nf d kc ks pc lv stk n M (br f K) := by
  subst hal
  refine V_callG (al' := false) (nf' := n) (mc' := mc') (ms' := ms') (st0 := st0) (fun C Wd hl hf h1 h2 => ⟨_, v_runV C Wd hl hlk hh' hCt hf hc hL hq hq1 hnp hstk hd' hmx hcat hdg h1 h2⟩) hh (Or.inl ⟨rfl, rfl⟩) (fun _ => hnf.symm) hkc hks (fun _ => hnf) (fun _ h => by cases h) (fun r1 M1 hf => (hCt r1 M1 hf).1) ?_
  intro v M1 hf hI
  cases v with
  | none => exact V_none
  | some v =>
    cases v <;> first | exact kk _ M1 hf (hI rfl) | exact V_none
theorem V_callVv {S' : vS} {d' mc' ms' idx np kc' ks' : Nat} {av stk st0 : List Value} {f : Option (vR × vM)} {c cls : Nat} {q : vw_C} {K : vM → Option (vR × vM)} (hdg : decode S.2.1 pc = .ok (.invokevirtual idx, 3)) (hlk : vLkV S.1.cls idx S' np) (hh' : S'.2.2.2.2 = []) (hc : c < n) (hL : v_LAY c = (0, cls, 0)) (hq : vwCl[cls]? = some q) (hq1 : q.1 = S'.1.cls) (hCt : Ct l D dA S' false n d' mc' ms' n (.ref c :: av) M f) (hnp : av.length = np) (hstk : av.reverse ++ .ref c :: st0 = stk) (hd' : d' + 1 ≤ d) (hmx : S'.2.2.1 ≤ 45) (hcat : (st0.map fun v => v.category).sum ≤ 8) (hh : S.2.2.2.2 = [] ∨ ∀ k M1, f ≠ some (.inl k, M1)) (hal : al = false) (hnf : nf = n) (hkc : mc' + kc' ≤ kc) (hks : ms' + ks' ≤ ks)
    (kk : ∀ M1, f = rV M1 → v_WT M1.2.2 → V l D dA S al nf d kc' ks' (pc + 3) lv (st0) n M1 (K M1)) : V l D dA S al nf d kc ks pc lv stk n M (bv f K) := by
  subst hal
  refine V_callG (al' := false) (nf' := n) (mc' := mc') (ms' := ms') (st0 := st0) (fun C Wd hl hf h1 h2 => ⟨_, v_runV C Wd hl hlk hh' hCt hf hc hL hq hq1 hnp hstk hd' hmx hcat hdg h1 h2⟩) hh (Or.inl ⟨rfl, rfl⟩) (fun _ => hnf.symm) hkc hks (fun _ => hnf) (fun _ h => by cases h) (fun r1 M1 hf => (hCt r1 M1 hf).1) ?_
  intro v M1 hf hI
  cases v with
  | none => exact kk M1 hf (hI rfl)
  | some v => exact V_none
theorem V_callSi {S' : vS} {d' mc' ms' idx np kc' ks' : Nat} {av stk st0 : List Value} {f : Option (vR × vM)} {K : Int32 → vM → Option (vR × vM)} (hdg : decode S.2.1 pc = .ok (.invokestatic idx, 3)) (hlk : vLkS S.1.cls idx S' np) (hh' : S'.2.2.2.2 = []) (hCt : Ct l D dA S' false n d' mc' ms' n av M f) (hnp : av.length = np) (hstk : av.reverse ++ st0 = stk) (hd' : d' + 1 ≤ d) (hmx : S'.2.2.1 ≤ 45) (hcat : (st0.map fun v => v.category).sum ≤ 8) (hh : S.2.2.2.2 = [] ∨ ∀ k M1, f ≠ some (.inl k, M1)) (hal : al = false) (hnf : nf = n) (hkc : mc' + kc' ≤ kc) (hks : ms' + ks' ≤ ks)
    (kk : ∀ x M1, f = rI x M1 → v_WT M1.2.2 → V l D dA S al nf d kc' ks' (pc + 3) lv (.int x :: st0) n M1 (K x M1)) : V l D dA S al nf d kc ks pc lv stk n M (bi f K) := by
  subst hal
  refine V_callG (al' := false) (nf' := n) (mc' := mc') (ms' := ms') (st0 := st0) (fun C Wd hl hf h1 h2 => ⟨_, v_runS C Wd hl hlk hh' hCt hf hnp hstk hd' hmx hcat hdg h1 h2⟩) hh (Or.inl ⟨rfl, rfl⟩) (fun _ => hnf.symm) hkc hks (fun _ => hnf) (fun _ h => by cases h) (fun r1 M1 hf => (hCt r1 M1 hf).1) ?_
  intro v M1 hf hI
  cases v with
  | none => exact V_none
  | some v =>
    cases v <;> first | exact kk _ M1 hf (hI rfl) | exact V_none
theorem V_callSl {S' : vS} {d' mc' ms' idx np kc' ks' : Nat} {av stk st0 : List Value} {f : Option (vR × vM)} {K : Int64 → vM → Option (vR × vM)} (hdg : decode S.2.1 pc = .ok (.invokestatic idx, 3)) (hlk : vLkS S.1.cls idx S' np) (hh' : S'.2.2.2.2 = []) (hCt : Ct l D dA S' false n d' mc' ms' n av M f) (hnp : av.length = np) (hstk : av.reverse ++ st0 = stk) (hd' : d' + 1 ≤ d) (hmx : S'.2.2.1 ≤ 45) (hcat : (st0.map fun v => v.category).sum ≤ 8) (hh : S.2.2.2.2 = [] ∨ ∀ k M1, f ≠ some (.inl k, M1)) (hal : al = false) (hnf : nf = n) (hkc : mc' + kc' ≤ kc) (hks : ms' + ks' ≤ ks)
    (kk : ∀ x M1, f = rL x M1 → v_WT M1.2.2 → V l D dA S al nf d kc' ks' (pc + 3) lv (.long x :: st0) n M1 (K x M1)) : V l D dA S al nf d kc ks pc lv stk n M (bl f K) := by
  subst hal
  refine V_callG (al' := false) (nf' := n) (mc' := mc') (ms' := ms') (st0 := st0) (fun C Wd hl hf h1 h2 => ⟨_, v_runS C Wd hl hlk hh' hCt hf hnp hstk hd' hmx hcat hdg h1 h2⟩) hh (Or.inl ⟨rfl, rfl⟩) (fun _ => hnf.symm) hkc hks (fun _ => hnf) (fun _ h => by cases h) (fun r1 M1 hf => (hCt r1 M1 hf).1) ?_
  intro v M1 hf hI
  cases v with
  | none => exact V_none
  | some v =>
    cases v <;> first | exact kk _ M1 hf (hI rfl) | exact V_none
theorem V_callSr {S' : vS} {d' mc' ms' idx np kc' ks' : Nat} {av stk st0 : List Value} {f : Option (vR × vM)} {K : Nat → vM → Option (vR × vM)} (hdg : decode S.2.1 pc = .ok (.invokestatic idx, 3)) (hlk : vLkS S.1.cls idx S' np) (hh' : S'.2.2.2.2 = []) (hCt : Ct l D dA S' false n d' mc' ms' n av M f) (hnp : av.length = np) (hstk : av.reverse ++ st0 = stk) (hd' : d' + 1 ≤ d) (hmx : S'.2.2.1 ≤ 45) (hcat : (st0.map fun v => v.category).sum ≤ 8) (hh : S.2.2.2.2 = [] ∨ ∀ k M1, f ≠ some (.inl k, M1)) (hal : al = false) (hnf : nf = n) (hkc : mc' + kc' ≤ kc) (hks : ms' + ks' ≤ ks)
    (kk : ∀ x M1, f = rR x M1 → v_WT M1.2.2 → V l D dA S al nf d kc' ks' (pc + 3) lv (.ref x :: st0) n M1 (K x M1)) : V l D dA S al nf d kc ks pc lv stk n M (br f K) := by
  subst hal
  refine V_callG (al' := false) (nf' := n) (mc' := mc') (ms' := ms') (st0 := st0) (fun C Wd hl hf h1 h2 => ⟨_, v_runS C Wd hl hlk hh' hCt hf hnp hstk hd' hmx hcat hdg h1 h2⟩) hh (Or.inl ⟨rfl, rfl⟩) (fun _ => hnf.symm) hkc hks (fun _ => hnf) (fun _ h => by cases h) (fun r1 M1 hf => (hCt r1 M1 hf).1) ?_
  intro v M1 hf hI
  cases v with
  | none => exact V_none
  | some v =>
    cases v <;> first | exact kk _ M1 hf (hI rfl) | exact V_none
theorem V_callSv {S' : vS} {d' mc' ms' idx np kc' ks' : Nat} {av stk st0 : List Value} {f : Option (vR × vM)} {K : vM → Option (vR × vM)} (hdg : decode S.2.1 pc = .ok (.invokestatic idx, 3)) (hlk : vLkS S.1.cls idx S' np) (hh' : S'.2.2.2.2 = []) (hCt : Ct l D dA S' false n d' mc' ms' n av M f) (hnp : av.length = np) (hstk : av.reverse ++ st0 = stk) (hd' : d' + 1 ≤ d) (hmx : S'.2.2.1 ≤ 45) (hcat : (st0.map fun v => v.category).sum ≤ 8) (hh : S.2.2.2.2 = [] ∨ ∀ k M1, f ≠ some (.inl k, M1)) (hal : al = false) (hnf : nf = n) (hkc : mc' + kc' ≤ kc) (hks : ms' + ks' ≤ ks)
    (kk : ∀ M1, f = rV M1 → v_WT M1.2.2 → V l D dA S al nf d kc' ks' (pc + 3) lv (st0) n M1 (K M1)) : V l D dA S al nf d kc ks pc lv stk n M (bv f K) := by
  subst hal
  refine V_callG (al' := false) (nf' := n) (mc' := mc') (ms' := ms') (st0 := st0) (fun C Wd hl hf h1 h2 => ⟨_, v_runS C Wd hl hlk hh' hCt hf hnp hstk hd' hmx hcat hdg h1 h2⟩) hh (Or.inl ⟨rfl, rfl⟩) (fun _ => hnf.symm) hkc hks (fun _ => hnf) (fun _ h => by cases h) (fun r1 M1 hf => (hCt r1 M1 hf).1) ?_
  intro v M1 hf hI
  cases v with
  | none => exact kk M1 hf (hI rfl)
  | some v => exact V_none
theorem V_callIv {S' : vS} {d' mc' ms' idx np kc' ks' : Nat} {av stk st0 : List Value} {f : Option (vR × vM)} {c : Nat} {K : vM → Option (vR × vM)} (hdg : decode S.2.1 pc = .ok (.invokespecial idx, 3)) (hlk : vLkI S.1.cls idx S' np) (hh' : S'.2.2.2.2 = []) (hCt : Ct l D dA S' false n d' mc' ms' n (.ref c :: av) M f) (hnp : av.length = np) (hstk : av.reverse ++ .ref c :: st0 = stk) (hd' : d' + 1 ≤ d) (hmx : S'.2.2.1 ≤ 45) (hcat : (st0.map fun v => v.category).sum ≤ 8) (hh : S.2.2.2.2 = [] ∨ ∀ k M1, f ≠ some (.inl k, M1)) (hal : al = false) (hnf : nf = n) (hkc : mc' + kc' ≤ kc) (hks : ms' + ks' ≤ ks)
    (kk : ∀ M1, f = rV M1 → v_WT M1.2.2 → V l D dA S al nf d kc' ks' (pc + 3) lv (st0) n M1 (K M1)) : V l D dA S al nf d kc ks pc lv stk n M (bv f K) := by
  subst hal
  refine V_callG (al' := false) (nf' := n) (mc' := mc') (ms' := ms') (st0 := st0) (fun C Wd hl hf h1 h2 => ⟨_, v_runI C Wd hl hlk hh' hCt hf hnp hstk hd' hmx hcat hdg h1 h2⟩) hh (Or.inl ⟨rfl, rfl⟩) (fun _ => hnf.symm) hkc hks (fun _ => hnf) (fun _ h => by cases h) (fun r1 M1 hf => (hCt r1 M1 hf).1) ?_
  intro v M1 hf hI
  cases v with
  | none => exact kk M1 hf (hI rfl)
  | some v => exact V_none
end V9
