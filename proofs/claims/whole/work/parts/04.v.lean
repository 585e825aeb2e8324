/-! V: a judgement over the machine that hides the frame, the tables and the addresses. A cell is a number (03.lay), a memory M holds what the cells hold; 'V pc lv st n M o': from pc with the locals lv and the stack st over the first n cells that hold M the method comes to the end that o tells, if o tells one. -/
abbrev vM : Type := (Nat → Nat → Int32) × ((Nat → Nat → Int64) × (Nat → Nat → Nat))
/-- a method: its name, its bytes, locals, answer, handlers -/
abbrev vS : Type := MethodName × (ByteArray × (Nat × (Option FieldType × List (Nat × Nat × Nat × Nat))))
/-- how it ends: thrown (1 NoSuchElementException, 2 IllegalArgumentException), or returned -/
abbrev vR : Type := Nat ⊕ Option Value
def v_exn (k : Nat) : String := if k = 1 then "java/util/NoSuchElementException" else "java/lang/IllegalArgumentException"
def vcv (ad : Nat → Nat) (v : Value) : Value := match v with
  | .ref k => .ref (ad k)
  | v => v
theorem vcv_cat (ad : Nat → Nat) (v : Value) : (vcv ad v).category = v.category := by cases v <;> rfl
def vcl (ad : Nat → Nat) (q : Nat × Value) : Nat × Value := (q.1, vcv ad q.2)
def v_rf (ad : Nat → Nat) (k : Nat) : Option Nat := if k = 0 then none else some (ad (k - 1))
def v_fv (ad : Nat → Nat) (M : vM) (c cls j : Nat) : Value := if v_FK cls j = 2 then va_rf (v_rf ad (M.2.2 c j)) else .int (M.1 c j)
def v_N (cls : Nat) : Nat := (v_FKL.getD cls []).length
def v_ar (ad : Nat → Nat) (M : vM) (c t len : Nat) : vp_A := (len, if t = 1 then .inr (.inl (M.2.1 c)) else if 4 ≤ t then .inr (.inr (.inr (.inr (fun j => v_rf ad (M.2.2 c j))))) else .inl (M.1 c))
def v_ce (dA : Nat → ClassId) (ad : Nat → Nat) (M : vM) (c : Nat) : va_E :=
  if (v_LAY c).1 = 0 then .inr ((v_LAY c).2.1, (List.range (v_N (v_LAY c).2.1)).map (v_fv ad M c (v_LAY c).2.1)) else .inl (dA (v_LAY c).2.1, v_ar ad M c (v_LAY c).2.1 (v_LAY c).2.2)
def v_wl (dA : Nat → ClassId) (ad : Nat → Nat) (n : Nat) (M : vM) : va_W := (List.range n).map (fun c => (ad c, v_ce dA ad M c))
def v_ty (t : Nat) : FieldType := match t with
  | 0 => .int
  | 1 => .long
  | 2 => .byte
  | 3 => .boolean
  | 4 => .object "NeverTwice$Plan"
  | 5 => .object "NeverTwice$Work"
  | _ => .object "java/lang/String"
def v_tys (dA : Nat → ClassId) : List (ClassId × FieldType) := (List.range 7).map (fun t => (dA t, v_ty t))
theorem v_tys_get {dA : Nat → ClassId} {t : Nat} (h : t < 7) : (v_tys dA)[t]? = some (dA t, v_ty t) := by simp [v_tys, List.getElem?_map, List.getElem?_range h]
theorem v_wl_get {dA : Nat → ClassId} {ad : Nat → Nat} {n : Nat} {M : vM} {c : Nat} (h : c < n) : (v_wl dA ad n M)[c]? = some (ad c, v_ce dA ad M c) := by simp [v_wl, List.getElem?_map, List.getElem?_range h]
theorem v_wl_set {dA : Nat → ClassId} {ad : Nat → Nat} {n : Nat} {M M' : vM} {c : Nat} {e : va_E} (he : e = v_ce dA ad M' c) (ho : ∀ i, i ≠ c → v_ce dA ad M' i = v_ce dA ad M i) : (v_wl dA ad n M).set c (ad c, e) = v_wl dA ad n M' := by
  apply List.ext_getElem?
  intro i
  rw [List.getElem?_set]
  by_cases hi : i < n
  · rw [v_wl_get hi]
    by_cases hc : c = i
    · subst hc
      have hl : c < (v_wl dA ad n M).length := by simp [v_wl, hi]
      rw [v_wl_get hi]
      simp [hl, he]
    · rw [if_neg hc, v_wl_get hi, ho i (fun h => hc h.symm)]
  · have h1 : (v_wl dA ad n M)[i]? = none := by simp [v_wl]; omega
    have h2 : (v_wl dA ad n M')[i]? = none := by simp [v_wl]; omega
    rw [h2]
    by_cases hc : c = i
    · subst hc
      have hl : ¬ c < (v_wl dA ad n M).length := by simp [v_wl]; omega
      simp [hl]
    · rw [if_neg hc, h1]
def v_G : List Cond := lw_tbl.filter goodWord
def v_nwK : Cond → Bool
  | .fieldLinkNest _ _ _ _ _ _ => true
  | .methodLinkNest _ _ _ _ => true
  | .castable _ _ => true
  | .declares _ => true
  | _ => false
def v_NW : List Cond := lw_tbl.filter v_nwK
/-- what lies about (the law's script too: where, how long, what, by numbers that D has to spare): the words that aren't good ones, the string constants, the statics that a throw reads -/
def v_SC (D : va_G) (A : Nat → Prop) (U : State) (H : Heap) : Prop := va_X (D.2 100 0) (D.2 100 1) (fun j => nI (D.2 101 j)) U H ∧ D.2 100 0 < H.size ∧ ¬ A (D.2 100 0)
def v_GE (D : va_G) (ad : Nat → Nat) (A : Nat → Prop) (U : State) (H : Heap) : Prop :=
  (∀ w ∈ v_NW, va_Nw w U) ∧ (∀ q ∈ v_STR, vk_R q.1 q.2.1 q.2.2.1 (ad (1000 + q.2.2.2)) U) ∧ vk_S v_nS v_lenS v_bytS (fun i => ad (1000 + i)) (fun i => ad (2000 + i)) A U H ∧
  vx_Zq Bundle.tN "UNASSIGNED_STACK" Bundle.steD A U H ∧ vx_Zq Bundle.tN "SUPPRESSED_SENTINEL" Bundle.listD A U H ∧ va_Z "java/lang/String" "COMPACT_STRINGS" "Z" (.int 1) A U H ∧
  (va_Z "jdk/internal/util/Preconditions" "SIOOBE_FORMATTER" "Ljava/util/function/BiFunction;" .null A U H ∨ va_Z "jdk/internal/util/Preconditions" "SIOOBE_FORMATTER" "Ljava/util/function/BiFunction;" (.ref (ad 5000)) A U H) ∧
  va_AO "NeverTwice$Plan" U ∧ va_AO "NeverTwice$Work" U ∧ va_AO "java/lang/String" U ∧ va_Nc "java/lang/IllegalArgumentException" "java/util/NoSuchElementException" U ∧ v_SC D A U H ∧ ad 6000 = D.2 100 0
theorem v_GE.go {D : va_G} {ad : Nat → Nat} {A B : Nat → Prop} {s U : State} {H : Heap} (h : v_GE D ad A s s.heap) (hk : ∀ a : Nat, a < s.heap.size → ¬ A a → H[a]? = s.heap[a]?) (hU : U.heap = H) (hW : s.WarmedH U.vm) (hAB : ∀ q, B q → A q) : v_GE D ad B U U.heap := by
  obtain ⟨h1, h2, h3, h4, h5, h6, h7, h8, h9', h10, h11, ⟨h12, h13, h14⟩, h17⟩ := h
  have hm : s.vm.Alike U.vm := hW.alike
  rw [hU]
  refine ⟨fun w hw => ?_, fun q hq => vk_R.warm hW (h2 q hq), ((h3.moved hm).kept hk).narrow hAB, ((h4.moved hm).kept hk).narrow hAB, ((h5.moved hm).kept hk).narrow hAB, ?_, ?_, va_AO.moved hm h8, va_AO.moved hm h9', va_AO.moved hm h10, va_Nc.moved hm h11, ⟨(h12.moved hm).kept (hk _ h13 h14), ?_, fun h => h14 (hAB _ h)⟩, h17⟩
  · have h9 := h1 w hw
    have hk9 : v_nwK w = true := (List.mem_filter.mp hw).2
    cases w <;> first | exact va_Nw.warmF hW h9 | exact va_Nw.warmM hW h9 | exact va_Nw.warmC hW h9 | exact va_Nw.warmD hW h9 | exact absurd hk9 (by decide) | (simp [v_nwK] at hk9)
  · exact ((h6.moved hm).kept hk).narrow hAB
  · exact h7.elim (fun q => Or.inl (((q.moved hm).kept hk).narrow hAB)) (fun q => Or.inr (((q.moved hm).kept hk).narrow hAB))
  · have h15 := hk _ h13 h14
    obtain ⟨scr, h16, -⟩ := h12
    rw [h16] at h15
    exact (Array.getElem?_eq_some_iff.mp h15).1
def v_Wd (D : va_G) (dA : Nat → ClassId) (ad : Nat → Nat) (n : Nat) (M : vM) (A : Nat → Prop) (s : State) (H : Heap) (locs : List Loc) : Prop :=
  va_P D vwCl (v_wl dA ad n M) H ∧ va_K D vwCl (v_tys dA) s ∧ va_D A (v_wl dA ad n M) ∧ va_S A s.heap H locs ∧ (∀ q, s.heap.size ≤ q → A q) ∧ v_GE D ad A s s.heap
def v_FA (ad : Nat → Nat) (n sz : Nat) : Nat → Prop := fun q => (∃ i, i < n ∧ q = ad i) ∨ sz ≤ q
def v_Pc (D : va_G) (dA : Nat → ClassId) (ad : Nat → Nat) (n : Nat) (M : vM) (sz : Nat) (av : List Value) : Array Value → State → Prop :=
  va_Pc (av.map (vcv ad)) (fun U => U.heap.size = sz ∧ va_P D vwCl (v_wl dA ad n M) U.heap ∧ va_K D vwCl (v_tys dA) U ∧ va_D (fun _ => True) (v_wl dA ad n M) ∧ v_GE D ad (v_FA ad n sz) U U.heap)
def v_B (D : va_G) (dA : Nat → ClassId) (ad : Nat → Nat) (n : Nat) (M : vM) (A : Nat → Prop) (t : State) : Prop := va_P D vwCl (v_wl dA ad n M) t.heap ∧ va_D A (v_wl dA ad n M)
def v_ex (al : Bool) (ad ad' : Nat → Nat) (n : Nat) : Prop := (∀ i, i < n → ad' i = ad i) ∧ (∀ i, 1000 ≤ i → ad' i = ad i) ∧ (al = false → ad' = ad)
def v_Qc (D : va_G) (dA : Nat → ClassId) (al : Bool) (nf : Nat) (ad : Nat → Nat) (n sz : Nat) (r : vR) (M' : vM) : Array Value → State → Outcome → State → Prop := fun _ st oc t =>
  ∃ ad', v_ex al ad ad' n ∧ (∃ v, r = .inr v ∧ oc = .returned (v.map (vcv ad'))) ∧ v_B D dA ad' nf M' (v_FA ad n sz) t ∧ va_F (v_FA ad n sz) st t
def v_XC (D : va_G) (dA : Nat → ClassId) (al : Bool) (nf : Nat) (ad : Nat → Nat) (n sz : Nat) (r : vR) (M' : vM) : String → State → State → Prop := fun E st t =>
  ∃ ad', v_ex al ad ad' n ∧ (∃ k, r = .inl k ∧ E = v_exn k) ∧ v_B D dA ad' nf M' (v_FA ad n sz) t ∧ va_F (v_FA ad n sz) st t
def v_rm (d mc ms : Nat) : Room := { frames := d, cells := mc, slots := ms, locals := 64 * d }
def v_code (S : vS) : Cond := if S.2.2.2.2 = [] then Cond.code S.1 S.2.1 S.2.2.1 S.2.2.2.1 else Cond.codeWith S.1 S.2.1 S.2.2.1 S.2.2.2.1 S.2.2.2.2
def v_ws (S : vS) : List Cond := v_code S :: v_G
/-- memory not yet taken is empty, and no reference goes beyond -/
def v_Zr (n : Nat) (M : vM) : Prop := (∀ c j, n ≤ c → M.1 c j = 0 ∧ M.2.1 c j = 0 ∧ M.2.2 c j = 0) ∧ ∀ c j, M.2.2 c j ≤ n ∨ 1001 ≤ M.2.2 c j
def vI (al : Bool) (M : vM) : Prop := al = false → v_WT M.2.2
def v_okR (t : Option FieldType) (v : Option Value) : Prop := (t = none ∧ v = none) ∨ (t = some .int ∧ ∃ x, v = some (.int x)) ∨ (t = some .boolean ∧ ∃ x, v = some (.int x)) ∨ (t = some .long ∧ ∃ x, v = some (.long x)) ∨ (∃ q, t = some (.object q) ∧ ∃ x, v = some (.ref x)) ∨ (t = some .byte ∧ ∃ x, v = some (.int x)) ∨ (t = some .char ∧ ∃ x, v = some (.int x))
def vOk (S : vS) (r : vR) : Prop := ∀ v, r = .inr v → v_okR S.2.2.2.1 v
/-- the contract of a method -/
def Ct (l : Launch) (D : va_G) (dA : Nat → ClassId) (S : vS) (al : Bool) (nf d mc ms : Nat) (n : Nat) (av : List Value) (M : vM) (o : Option (vR × vM)) : Prop :=
  ∀ (r : vR) (M' : vM), o = some (r, M') → vI al M' ∧ ∀ (ad : Nat → Nat) (sz : Nat), vx_Met l S.1 (v_ws S) (v_rm d mc ms) (v_Pc D dA ad n M sz av) (v_Qc D dA al nf ad n sz r M') (v_XC D dA al nf ad n sz r M') mc ms (v_FA ad n sz)
def vCx (S : vS) (d : Nat) (R : Room) (p : Program) (s : State) (m : MethodId) (args : Array Value) (meth : Method) (c : Code) : Prop :=
  p.tables.exec = Jvm.exec ∧ c.code = S.2.1 ∧ c.maxLocals = S.2.2.1 ∧ meth.sig.returnType = S.2.2.2.1 ∧ s.vm.findClass S.1.cls = some m.cls ∧ (∀ w ∈ v_G, w.before args s = true) ∧ meth.locks = false ∧ c.exceptionTable.toList = tableOf S.2.2.2.2 ∧ meth.name = S.1.name ∧ d ≤ R.frames ∧ 64 * d ≤ R.locals
def v_rins (t : Option FieldType) : Instr := match t with
  | none => .return_
  | some .int => .ireturn
  | some .boolean => .ireturn
  | some .byte => .ireturn
  | some .char => .ireturn
  | some .long => .lreturn
  | _ => .areturn
def vRt (D : va_G) (dA : Nat → ClassId) (S : vS) (al : Bool) (nf : Nat) (ad : Nat → Nat) (n : Nat) (r : vR) (M' : vM) (p : Program) (l : Launch) (e : Env) (R : Room) (s : State) (m : MethodId) (args : Array Value) (below : List Frame) (meth : Method) (c : Code) (A : Nat → Prop) (Q : State → Prop) : Prop :=
  ∀ ad', v_ex al ad ad' n →
    (∀ v, r = .inr v → ∀ (H : Heap) (locs : List Loc) (pc : Nat) (ls : Array Slot), v_Wd D dA ad' nf M' A s H locs → decode S.2.1 pc = .ok (v_rins S.2.2.2.1, 1) → (∀ ty x, S.2.2.2.1 = some ty → v = some (.int x) → narrow ty (.int x) = .int x) →
      W p l e R s m args below meth c H locs R.cells R.slots Q (F0 m pc ls ((v.map (vcv ad')).toList))) ∧
    (∀ k, r = .inl k → ∃ (Qc : Array Value → State → Outcome → State → Prop) (XC : String → State → State → Prop) (mc ms : Nat) (free : Addr → Prop), Q = vx_MQ below Qc XC args s mc ms free ∧ R.cells ≤ mc ∧ R.slots ≤ ms ∧ (∀ q, A q → free q) ∧ ∀ t : State, s.vm.Alike t.vm → v_B D dA ad' nf M' A t → va_F A s t → XC (v_exn k) s t)
def V (l : Launch) (D : va_G) (dA : Nat → ClassId) (S : vS) (al : Bool) (nf d kc ks : Nat) (pc : Nat) (lv : List (Nat × Value)) (st : List Value) (n : Nat) (M : vM) (o : Option (vR × vM)) : Prop :=
  ∀ (r : vR) (M' : vM), o = some (r, M') → (vI al M' ∧ vOk S r) ∧ ∀ (ad : Nat → Nat) (p : Program) (e : Env) (R : Room) (s : State) (m : MethodId) (args : Array Value) (below : List Frame) (meth : Method) (c : Code) (H : Heap) (locs : List Loc) (cells slots : Nat) (Q : State → Prop) (A : Nat → Prop) (ls : Array Slot),
    vCx S d R p s m args meth c → v_Wd D dA ad n M A s H locs → (al = true → v_Zr n M) → cells + kc ≤ R.cells → slots + ks ≤ R.slots → lv_has ls S.2.2.1 (lv.map (vcl ad)) → vRt D dA S al nf ad n r M' p l e R s m args below meth c A Q →
    W p l e R s m args below meth c H locs cells slots Q (F0 m pc ls (st.map (vcv ad)))
section V1
variable {l : Launch} {D : va_G} {dA : Nat → ClassId} {S : vS} {al : Bool} {nf d kc ks pc pc' : Nat} {lv lv' : List (Nat × Value)} {st st' : List Value} {n : Nat} {M : vM} {o : Option (vR × vM)}
theorem V_none : V l D dA S al nf d kc ks pc lv st n M none := fun r M' h => nomatch h
theorem V_step (h : ∀ {p : Program} {e : Env} {R : Room} {s : State} {m : MethodId} {args : Array Value} {below : List Frame} {meth : Method} {c : Code} {H : Heap} {locs : List Loc} {cells slots : Nat} {Q : State → Prop} {ls : Array Slot} {ad : Nat → Nat},
      p.tables.exec = Jvm.exec → c.code = S.2.1 → lv_has ls S.2.2.1 (lv.map (vcl ad)) → W p l e R s m args below meth c H locs cells slots Q (F0 m pc' ls (st'.map (vcv ad))) → W p l e R s m args below meth c H locs cells slots Q (F0 m pc ls (st.map (vcv ad))))
    (k : V l D dA S al nf d kc ks pc' lv st' n M o) : V l D dA S al nf d kc ks pc lv st n M o := by
  intro r M' ho
  refine ⟨(k r M' ho).1, ?_⟩
  intro ad p e R s m args below meth c H locs cells slots Q A ls C Wd Zr h3 h4 hl Rt
  exact h C.1 C.2.1 hl ((k r M' ho).2 ad p e R s m args below meth c H locs cells slots Q A ls C Wd Zr h3 h4 hl Rt)
theorem V_stepL (h : ∀ {p : Program} {e : Env} {R : Room} {s : State} {m : MethodId} {args : Array Value} {below : List Frame} {meth : Method} {c : Code} {H : Heap} {locs : List Loc} {cells slots : Nat} {Q : State → Prop} {ls : Array Slot} {ad : Nat → Nat},
      p.tables.exec = Jvm.exec → c.code = S.2.1 → lv_has ls S.2.2.1 (lv.map (vcl ad)) → (∀ ls', lv_has ls' S.2.2.1 (lv'.map (vcl ad)) → W p l e R s m args below meth c H locs cells slots Q (F0 m pc' ls' (st'.map (vcv ad)))) → W p l e R s m args below meth c H locs cells slots Q (F0 m pc ls (st.map (vcv ad))))
    (k : V l D dA S al nf d kc ks pc' lv' st' n M o) : V l D dA S al nf d kc ks pc lv st n M o := by
  intro r M' ho
  refine ⟨(k r M' ho).1, ?_⟩
  intro ad p e R s m args below meth c H locs cells slots Q A ls C Wd Zr h3 h4 hl Rt
  exact h C.1 C.2.1 hl (fun ls' hl' => (k r M' ho).2 ad p e R s m args below meth c H locs cells slots Q A ls' C Wd Zr h3 h4 hl' Rt)
/-- fewer locals, in another order -/
theorem V_sub (ks9 : List Nat) (hl9 : ks9.filterMap (fun k => lv[k]?) = lv') (k : V l D dA S al nf d kc ks pc lv' st n M o) : V l D dA S al nf d kc ks pc lv st n M o := by
  refine V_stepL (fun _ _ hl kk => kk _ (lv_sub hl ks9 ?_)) k
  subst hl9
  unfold lv_pick
  rw [List.map_filterMap]
  congr 1
  funext i
  simp [List.getElem?_map]
theorem v_lvget {ad : Nat → Nat} {k i : Nat} {v : Value} (h : lv[k]? = some (i, v)) : (lv.map (vcl ad))[k]? = some (i, vcv ad v) := by simp [List.getElem?_map, h, vcl]
theorem V_iload_n {f : Fin 4} {i k : Nat} {x : Int32} (hd : decode S.2.1 pc = .ok (.iload_n f, 1)) (hi : (f : Nat) = i) (hk : lv[k]? = some (i, .int x)) (kk : V l D dA S al nf d kc ks (pc + 1) lv (.int x :: st) n M o) : V l D dA S al nf d kc ks pc lv st n M o :=
  V_step (fun hx hb hl w => lv_iload_n hx hb hd hi (lv_at hl k (v_lvget hk)) w) kk
theorem V_iload {i k : Nat} {x : Int32} (hd : decode S.2.1 pc = .ok (.iload i, 2)) (hk : lv[k]? = some (i, .int x)) (kk : V l D dA S al nf d kc ks (pc + 2) lv (.int x :: st) n M o) : V l D dA S al nf d kc ks pc lv st n M o :=
  V_step (fun hx hb hl w => lv_iload hx hb hd (lv_at hl k (v_lvget hk)) w) kk
theorem V_lload_n {f : Fin 4} {i k : Nat} {x : Int64} (hd : decode S.2.1 pc = .ok (.lload_n f, 1)) (hi : (f : Nat) = i) (hk : lv[k]? = some (i, .long x)) (kk : V l D dA S al nf d kc ks (pc + 1) lv (.long x :: st) n M o) : V l D dA S al nf d kc ks pc lv st n M o :=
  V_step (fun hx hb hl w => lv_lload_n hx hb hd hi (lv_at hl k (v_lvget hk)) w) kk
theorem V_lload {i k : Nat} {x : Int64} (hd : decode S.2.1 pc = .ok (.lload i, 2)) (hk : lv[k]? = some (i, .long x)) (kk : V l D dA S al nf d kc ks (pc + 2) lv (.long x :: st) n M o) : V l D dA S al nf d kc ks pc lv st n M o :=
  V_step (fun hx hb hl w => lv_lload hx hb hd (lv_at hl k (v_lvget hk)) w) kk
theorem V_aload_n {f : Fin 4} {i k : Nat} {x : Nat} (hd : decode S.2.1 pc = .ok (.aload_n f, 1)) (hi : (f : Nat) = i) (hk : lv[k]? = some (i, .ref x)) (kk : V l D dA S al nf d kc ks (pc + 1) lv (.ref x :: st) n M o) : V l D dA S al nf d kc ks pc lv st n M o :=
  V_step (fun hx hb hl w => lv_aload_n hx hb hd hi (lv_at hl k (v_lvget hk)) w) kk
theorem V_aload {i k : Nat} {x : Nat} (hd : decode S.2.1 pc = .ok (.aload i, 2)) (hk : lv[k]? = some (i, .ref x)) (kk : V l D dA S al nf d kc ks (pc + 2) lv (.ref x :: st) n M o) : V l D dA S al nf d kc ks pc lv st n M o :=
  V_step (fun hx hb hl w => lv_aload hx hb hd (lv_at hl k (v_lvget hk)) w) kk
theorem v_stf {ad : Nat → Nat} {i : Nat} {v : Value} (h : (i, v) :: lv.filter (fun q => !(q.1 == i) && !(q.1 + 1 == i && q.2.category == 2)) = lv') : (i, vcv ad v) :: (lv.map (vcl ad)).filter (fun q => !(q.1 == i) && !(q.1 + 1 == i && q.2.category == 2)) = lv'.map (vcl ad) := by
  subst h
  rw [List.map_cons, List.filter_map]
  congr 3
  funext q
  simp [vcl, vcv_cat]
theorem v_stf2 {ad : Nat → Nat} {i : Nat} {v : Value} (h : (i, v) :: lv.filter (fun q => !(q.1 == i) && (!(q.1 == i + 1) && !(q.1 + 1 == i && q.2.category == 2))) = lv') : (i, vcv ad v) :: (lv.map (vcl ad)).filter (fun q => !(q.1 == i) && (!(q.1 == i + 1) && !(q.1 + 1 == i && q.2.category == 2))) = lv'.map (vcl ad) := by
  subst h
  rw [List.map_cons, List.filter_map]
  congr 3
  funext q
  simp [vcl, vcv_cat]
theorem V_istore_n {f : Fin 4} {i : Nat} {x : Int32} (hd : decode S.2.1 pc = .ok (.istore_n f, 1)) (hi : (f : Nat) = i) (hn : i < S.2.2.1) (hl9 : (i, Value.int x) :: lv.filter (fun q => !(q.1 == i) && !(q.1 + 1 == i && q.2.category == 2)) = lv') (kk : V l D dA S al nf d kc ks (pc + 1) lv' st n M o) : V l D dA S al nf d kc ks pc lv (.int x :: st) n M o :=
  V_stepL (fun hx hb hl w => lv_istore_n hx hb hd hi hl hn (v_stf hl9) w) kk
theorem V_istore {i : Nat} {x : Int32} (hd : decode S.2.1 pc = .ok (.istore i, 2)) (hn : i < S.2.2.1) (hl9 : (i, Value.int x) :: lv.filter (fun q => !(q.1 == i) && !(q.1 + 1 == i && q.2.category == 2)) = lv') (kk : V l D dA S al nf d kc ks (pc + 2) lv' st n M o) : V l D dA S al nf d kc ks pc lv (.int x :: st) n M o :=
  V_stepL (fun hx hb hl w => lv_istore hx hb hd hl hn (v_stf hl9) w) kk
theorem V_lstore_n {f : Fin 4} {i : Nat} {x : Int64} (hd : decode S.2.1 pc = .ok (.lstore_n f, 1)) (hi : (f : Nat) = i) (hn : i + 1 < S.2.2.1) (hl9 : (i, Value.long x) :: lv.filter (fun q => !(q.1 == i) && (!(q.1 == i + 1) && !(q.1 + 1 == i && q.2.category == 2))) = lv') (kk : V l D dA S al nf d kc ks (pc + 1) lv' st n M o) : V l D dA S al nf d kc ks pc lv (.long x :: st) n M o :=
  V_stepL (fun hx hb hl w => lv_lstore_n hx hb hd hi hl hn (v_stf2 hl9) w) kk
theorem V_lstore {i : Nat} {x : Int64} (hd : decode S.2.1 pc = .ok (.lstore i, 2)) (hn : i + 1 < S.2.2.1) (hl9 : (i, Value.long x) :: lv.filter (fun q => !(q.1 == i) && (!(q.1 == i + 1) && !(q.1 + 1 == i && q.2.category == 2))) = lv') (kk : V l D dA S al nf d kc ks (pc + 2) lv' st n M o) : V l D dA S al nf d kc ks pc lv (.long x :: st) n M o :=
  V_stepL (fun hx hb hl w => lv_lstore hx hb hd hl hn (v_stf2 hl9) w) kk
theorem V_astore_n {f : Fin 4} {i : Nat} {x : Nat} (hd : decode S.2.1 pc = .ok (.astore_n f, 1)) (hi : (f : Nat) = i) (hn : i < S.2.2.1) (hl9 : (i, Value.ref x) :: lv.filter (fun q => !(q.1 == i) && !(q.1 + 1 == i && q.2.category == 2)) = lv') (kk : V l D dA S al nf d kc ks (pc + 1) lv' st n M o) : V l D dA S al nf d kc ks pc lv (.ref x :: st) n M o :=
  V_stepL (fun {_} {_} {_} {_} {_} {_} {_} {_} {_} {_} {_} {_} {_} {_} {_} {ad} hx hb hl w => lv_astore_n hx hb hd hi hl hn (v_stf (ad := ad) hl9) w) kk
theorem V_astore {i : Nat} {x : Nat} (hd : decode S.2.1 pc = .ok (.astore i, 2)) (hn : i < S.2.2.1) (hl9 : (i, Value.ref x) :: lv.filter (fun q => !(q.1 == i) && !(q.1 + 1 == i && q.2.category == 2)) = lv') (kk : V l D dA S al nf d kc ks (pc + 2) lv' st n M o) : V l D dA S al nf d kc ks pc lv (.ref x :: st) n M o :=
  V_stepL (fun {_} {_} {_} {_} {_} {_} {_} {_} {_} {_} {_} {_} {_} {_} {_} {ad} hx hb hl w => lv_astore hx hb hd hl hn (v_stf (ad := ad) hl9) w) kk
theorem V_iinc {i k : Nat} {z : Int} {x v : Int32} (hd : decode S.2.1 pc = .ok (.iinc i z, 3)) (hk : lv[k]? = some (i, .int x)) (hv : x + Int32.ofInt z = v) (hn : i < S.2.2.1) (hl9 : (i, Value.int v) :: lv.filter (fun q => !(q.1 == i) && !(q.1 + 1 == i && q.2.category == 2)) = lv') (kk : V l D dA S al nf d kc ks (pc + 3) lv' st n M o) : V l D dA S al nf d kc ks pc lv st n M o :=
  V_stepL (fun hx hb hl w => lv_iinc hx hb hd hl (v_lvget hk) hv hn (v_stf hl9) w) kk
end V1
