/-! the law's own methods: what a called one throws is caught -/
def vH (f : Option (vR × vM)) (K : Option Value → vM → Option (vR × vM)) (KT : Nat → vM → Option (vR × vM)) : Option (vR × vM) := match f with
  | none => none
  | some (.inl k, M1) => KT k M1
  | some (.inr v, M1) => K v M1
section V32
variable {l : Launch} {D : va_G} {dA : Nat → ClassId} {S : vS} {al : Bool} {nf d kc ks pc pc' : Nat} {lv lv' : List (Nat × Value)} {st st' : List Value} {n : Nat} {M : vM} {o : Option (vR × vM)}
/-- the store of what was caught; nothing of the locals is wanted then -/
def vSto (S : vS) (lv : List (Nat × Value)) (hpc pc2 : Nat) : Prop :=
  ∀ {l : Launch} {p : Program} {e : Env} {R : Room} {s : State} {m : MethodId} {args : Array Value} {below : List Frame} {meth : Method} {c : Code} {H : Heap} {locs : List Loc} {cells slots : Nat} {Q : State → Prop} {ls : Array Slot} {ad : Nat → Nat} {q : Nat},
    p.tables.exec = Jvm.exec → c.code = S.2.1 → lv_has ls S.2.2.1 (lv.map (vcl ad)) → (∀ ls', lv_has ls' S.2.2.1 [] → W p l e R s m args below meth c H locs cells slots Q (F0 m pc2 ls' [])) → W p l e R s m args below meth c H locs cells slots Q (F0 m hpc ls [.ref q])
theorem vSto_n {f : Fin 4} {i hpc : Nat} (hd : decode S.2.1 hpc = .ok (.astore_n f, 1)) (hi : (f : Nat) = i) (hn : i < S.2.2.1) : vSto S lv hpc (hpc + 1) := by
  intro l p e R s m args below meth c H locs cells slots Q ls ad q hx hb hl w
  exact lv_astore_n hx hb hd hi hl hn rfl (fun ls' hl' => w ls' ⟨hl'.1, hl'.2.1, fun q hq => by cases hq⟩)
theorem vSto_w {i hpc : Nat} (hd : decode S.2.1 hpc = .ok (.astore i, 2)) (hn : i < S.2.2.1) : vSto S lv hpc (hpc + 2) := by
  intro l p e R s m args below meth c H locs cells slots Q ls ad q hx hb hl w
  exact lv_astore hx hb hd hl hn rfl (fun ls' hl' => w ls' ⟨hl'.1, hl'.2.1, fun q hq => by cases hq⟩)
/-- a call in a method with handlers: what the callee throws is caught where the method says -/
def vHan (l : Launch) (D : va_G) (dA : Nat → ClassId) (S : vS) (n d kc ks pc : Nat) (lv : List (Nat × Value)) (M : vM) (k : Nat) (o : Option (vR × vM)) : Prop :=
  o = none ∨ ∃ (pre : List ExceptionTableEntry) (x : ExceptionTableEntry) (suf : List ExceptionTableEntry) (pc2 : Nat),
    tableOf S.2.2.2.2 = pre ++ x :: suf ∧ (∀ z ∈ pre, z.catchType ≠ 0 ∧ v_exn k = "java/lang/IllegalArgumentException" ∧ Cond.classLink S.1.cls z.catchType "java/util/NoSuchElementException" ∈ v_G) ∧ covers x pc = true ∧ x.catchType ≠ 0 ∧ Cond.classLink S.1.cls x.catchType (v_exn k) ∈ v_G ∧ Cond.castable (v_exn k) (v_exn k) ∈ v_NW ∧
    vSto S lv x.handlerPc pc2 ∧ V l D dA S false n d kc ks pc2 [] [] n M o
theorem V_callH {mc' ms' kc' ks' : Nat} {stk st0 : List Value} {f : Option (vR × vM)} {K : Option Value → vM → Option (vR × vM)} {KT : Nat → vM → Option (vR × vM)}
    (hrun : ∀ {r1 : vR} {M1 : vM} {p : Program} {e : Env} {R : Room} {s : State} {m : MethodId} {args : Array Value} {below : List Frame} {meth : Method} {cd : Code} {H : Heap} {locs : List Loc} {cells slots : Nat} {A : Nat → Prop} {ls : Array Slot} {ad : Nat → Nat},
      vCx S d R p s m args meth cd → v_Wd D dA ad n M A s H locs → lv_has ls S.2.2.1 (lv.map (vcl ad)) → f = some (r1, M1) → cells + mc' ≤ R.cells → slots + ms' ≤ R.slots → ∃ aa : Array Value, vx_Run p l e R s m args below meth cd H locs cells slots mc' ms' (F0 m pc ls (stk.map (vcv ad))) (st0.map (vcv ad)) (v_Qc D dA false n ad n H.size r1 M1 aa) (v_XC D dA false n ad n H.size r1 M1) (v_FA ad n H.size))
    (hkc : mc' + kc' ≤ kc) (hks : ms' + ks' ≤ ks) (hIc : ∀ r1 M1, f = some (r1, M1) → vI false M1)
    (kk : ∀ v M1, f = some (.inr v, M1) → v_WT M1.2.2 → V l D dA S false n d kc' ks' (pc + 3) lv (v.toList ++ st0) n M1 (K v M1))
    (kt : ∀ k M1, f = some (.inl k, M1) → v_WT M1.2.2 → vHan l D dA S n d kc' ks' pc lv M1 k (KT k M1)) : V l D dA S false n d kc ks pc lv stk n M (vH f K KT) := by
  intro r M' ho
  cases hf : f with
  | none => rw [hf] at ho; cases ho
  | some q =>
    obtain ⟨r1, M1⟩ := q
    have hI1 := hIc r1 M1 hf
    cases r1 with
    | inr v' =>
      rw [hf] at ho
      have kk2 := kk v' M1 hf (hI1 rfl) r M' ho
      refine ⟨kk2.1, ?_⟩
      intro ad p e R s m args below meth cd H locs cells slots Q A ls C Wd Zr h3 h4 hl Rt
      obtain ⟨aa, hr⟩ := hrun (p := p) (e := e) (R := R) (s := s) (below := below) (cells := cells) (slots := slots) C Wd hl hf (by omega) (by omega)
      intro T hT X
      obtain ⟨hP, hK, hD, hS, hA, hG⟩ := id Wd
      rcases hr T hT X with ⟨v, st₀, t, T', L, h0, X', hL, e1, e2, ⟨ad', hex, ⟨v9, hr', hv'⟩, hB, hF⟩, hst⟩ | ⟨q9, st₀, t, T', L, E, ce, h0, X', hL, e1, e2, ⟨ad', hex, ⟨k, hr', hE⟩, hB, hF⟩, hce, hcv, hcl, hst⟩
      · cases hr'
        cases hv'
        obtain ⟨k1, k2, k3⟩ := vx_keep (H := H) h0 e1 hS (fun q _ h => v_FA_A Wd q h) (v_FA_A Wd) hL hF
        have hadd := hex.2.2 rfl
        subst hadd
        have hWd : v_Wd D dA ad' n M1 A s T'.heap (locs ++ L) := ⟨by rw [e1]; exact hB.1, hK, hB.2.weaken (fun _ q _ h => v_FA_A Wd q.1 h), k3, hA, hG⟩
        have hgo := kk2.2 ad' p e R s m args below meth cd T'.heap (locs ++ L) (cells + mc') (slots + ms') Q A ls C hWd (fun h => by cases h) (by omega) (by omega) hl Rt
        have e3 : ((v'.toList ++ st0).map (vcv ad')) = (v'.map (vcv ad')).toList ++ st0.map (vcv ad') := by
          rw [List.map_append]
          cases v' <;> rfl
        rw [e3] at hgo
        obtain ⟨t2, a1, b1⟩ := hgo T' rfl X'
        exact ⟨t2, hst t2 a1, b1⟩
      · cases hr'
    | inl k' =>
      rw [hf] at ho
      rcases kt k' M1 hf (hI1 rfl) with h0 | ⟨pre, x, suf, pc2, t1, t2, t3, t4, t5, t6, t7, t8⟩
      · have ho2 : KT k' M1 = some (r, M') := ho
        rw [h0] at ho2
        cases ho2
      have kt2 := t8 r M' ho
      refine ⟨kt2.1, ?_⟩
      intro ad p e R s m args below meth cd H locs cells slots Q A ls C Wd Zr h3 h4 hl Rt
      obtain ⟨aa, hr⟩ := hrun (p := p) (e := e) (R := R) (s := s) (below := below) (cells := cells) (slots := slots) C Wd hl hf (by omega) (by omega)
      intro T hT X
      obtain ⟨hP, hK, hD, hS, hA, hG⟩ := id Wd
      rcases hr T hT X with ⟨v, st₀, t, T', L, h0, X', hL, e1, e2, ⟨ad', hex, ⟨v9, hr', hv'⟩, hB, hF⟩, hst⟩ | ⟨q9, st₀, t, T', L, E, ce, h0, X', hL, e1, e2, ⟨ad', hex, ⟨k, hr', hE⟩, hB, hF⟩, hce, hcv, hcl, hst⟩
      · cases hr'
      · cases hr'
        subst hE
        obtain ⟨k1, k2, k3⟩ := vx_keep (H := H) h0 e1 hS (fun q _ h => v_FA_A Wd q h) (v_FA_A Wd) hL hF
        have hadd := hex.2.2 rfl
        subst hadd
        have hWd : v_Wd D dA ad' n M1 A s T'.heap (locs ++ L) := ⟨by rw [e1]; exact hB.1, hK, hB.2.weaken (fun _ q _ h => v_FA_A Wd q.1 h), k3, hA, hG⟩
        obtain ⟨hx, hb, hml, hret, hown, hts, hlocks, htab, hnm, hfr, hlo⟩ := id C
        have hw : vx_W p l e R s m args below meth cd T'.heap (locs ++ L) (cells + mc') (slots + ms') Q (F0 m pc ls (st0.map (vcv ad'))) q9 := by
          refine vx_catch (ce := ce) hown pre x suf (htab.trans t1) (fun z hz => Or.inr ⟨(t2 z hz).1, _, hts _ (t2 z hz).2.2, ?_⟩) t3 t4 (hts _ t5) (v_nwU (fun _ => hG.1 _ t6) rfl) (by rw [e1]; exact hce) hcv hcl ?_
          · rw [(t2 z hz).2.1]
            exact hG.2.2.2.2.2.2.2.2.2.2.1
          · exact t7 hx hb hl (fun ls' hl' => kt2.2 ad' p e R s m args below meth cd T'.heap (locs ++ L) (cells + mc') (slots + ms') Q A ls' C hWd (fun h => by cases h) (by omega) (by omega) hl' Rt)
        obtain ⟨t3, b1, b2⟩ := hw T' rfl X'
        exact ⟨t3, hst.trans b1, b2⟩
theorem vHan_no {k : Nat} : vHan l D dA S n d kc ks pc lv M k none := Or.inl rfl
/-- one handler -/
theorem vHan_1 {k a b h idx pc2 : Nat} (hh : S.2.2.2.2 = [(a, b, h, idx)]) (hc : a ≤ pc ∧ pc < b) (h0 : idx ≠ 0) (hg : Cond.classLink S.1.cls idx (v_exn k) ∈ v_G) (hca : Cond.castable (v_exn k) (v_exn k) ∈ v_NW) (hs : vSto S lv h pc2) (kk : V l D dA S false n d kc ks pc2 [] [] n M o) : vHan l D dA S n d kc ks pc lv M k o := by
  refine Or.inr ⟨[], ⟨a, b, h, idx⟩, [], pc2, ?_, (fun z hz => (by cases hz)), ?_, h0, hg, hca, hs, kk⟩
  · rw [hh]
    rfl
  · simp [covers, hc.1, hc.2]
/-- the first of two -/
theorem vHan_21 {k a b h idx pc2 : Nat} {q2 : Nat × Nat × Nat × Nat} (hh : S.2.2.2.2 = [(a, b, h, idx), q2]) (hc : a ≤ pc ∧ pc < b) (h0 : idx ≠ 0) (hg : Cond.classLink S.1.cls idx (v_exn k) ∈ v_G) (hca : Cond.castable (v_exn k) (v_exn k) ∈ v_NW) (hs : vSto S lv h pc2) (kk : V l D dA S false n d kc ks pc2 [] [] n M o) : vHan l D dA S n d kc ks pc lv M k o := by
  refine Or.inr ⟨[], ⟨a, b, h, idx⟩, [⟨q2.1, q2.2.1, q2.2.2.1, q2.2.2.2⟩], pc2, ?_, (fun z hz => (by cases hz)), ?_, h0, hg, hca, hs, kk⟩
  · rw [hh]
    rfl
  · simp [covers, hc.1, hc.2]
/-- the second of two: the first is for what can't be found -/
theorem vHan_22 {k a b h idx pc2 a1 b1 h1 idx1 : Nat} (hh : S.2.2.2.2 = [(a1, b1, h1, idx1), (a, b, h, idx)]) (hc : a ≤ pc ∧ pc < b) (h0 : idx ≠ 0) (h01 : idx1 ≠ 0) (hk : v_exn k = "java/lang/IllegalArgumentException") (hg1 : Cond.classLink S.1.cls idx1 "java/util/NoSuchElementException" ∈ v_G) (hg : Cond.classLink S.1.cls idx (v_exn k) ∈ v_G) (hca : Cond.castable (v_exn k) (v_exn k) ∈ v_NW) (hs : vSto S lv h pc2) (kk : V l D dA S false n d kc ks pc2 [] [] n M o) : vHan l D dA S n d kc ks pc lv M k o := by
  refine Or.inr ⟨[⟨a1, b1, h1, idx1⟩], ⟨a, b, h, idx⟩, [], pc2, ?_, fun z hz => ?_, ?_, h0, hg, hca, hs, kk⟩
  · rw [hh]
    rfl
  · cases List.mem_singleton.mp hz
    exact ⟨h01, hk, hg1⟩
  · simp [covers, hc.1, hc.2]
theorem V_callHV {S' : vS} {d' mc' ms' idx np kc' ks' c cls : Nat} {av stk st0 : List Value} {f : Option (vR × vM)} {q : vw_C} {K : Option Value → vM → Option (vR × vM)} {KT : Nat → vM → Option (vR × vM)} (hdg : decode S.2.1 pc = .ok (.invokevirtual idx, 3)) (hlk : vLkV S.1.cls idx S' np) (hh' : S'.2.2.2.2 = []) (hc : c < n) (hL : v_LAY c = (0, cls, 0)) (hq : vwCl[cls]? = some q) (hq1 : q.1 = S'.1.cls) (hCt : Ct l D dA S' false n d' mc' ms' n (.ref c :: av) M f) (hnp : av.length = np) (hstk : av.reverse ++ .ref c :: st0 = stk) (hd' : d' + 1 ≤ d) (hmx : S'.2.2.1 ≤ 45) (hcat : (st0.map fun v => v.category).sum ≤ 8) (hkc : mc' + kc' ≤ kc) (hks : ms' + ks' ≤ ks)
    (kk : ∀ v M1, f = some (.inr v, M1) → v_WT M1.2.2 → V l D dA S false n d kc' ks' (pc + 3) lv (v.toList ++ st0) n M1 (K v M1))
    (kt : ∀ k M1, f = some (.inl k, M1) → v_WT M1.2.2 → vHan l D dA S n d kc' ks' pc lv M1 k (KT k M1)) : V l D dA S false n d kc ks pc lv stk n M (vH f K KT) :=
  V_callH (mc' := mc') (ms' := ms') (st0 := st0) (fun C Wd hl hf h1 h2 => ⟨_, v_runV C Wd hl hlk hh' hCt hf hc hL hq hq1 hnp hstk hd' hmx hcat hdg h1 h2⟩) hkc hks (fun r1 M1 hf => (hCt r1 M1 hf).1) kk kt
theorem V_lastT {c len j : Nat} {i : Int32} {x : Int64} (hd : decode S.2.1 pc = .ok (.lastore, 1)) (hL : v_LAY c = (1, 1, len)) (hc : c < n) (hin : v_in i len = true) (hj : i.toNatClampNeg = j)
    (kk : V l D dA S al nf d kc ks (pc + 1) lv st n (v_sl M c j x) o) : V l D dA S al nf d kc ks pc lv (.long x :: .int i :: .ref c :: st) n M o := by
  subst hj
  have h := V_last (x := x) hd hL hc (fun _ => kk)
  rw [if_pos hin] at h
  exact h
theorem V_laldT {c len j : Nat} {i : Int32} (hd : decode S.2.1 pc = .ok (.laload, 1)) (hL : v_LAY c = (1, 1, len)) (hc : c < n) (hin : v_in i len = true) (hj : i.toNatClampNeg = j)
    (kk : V l D dA S al nf d kc ks (pc + 1) lv (.long (M.2.1 c j) :: st) n M o) : V l D dA S al nf d kc ks pc lv (.int i :: .ref c :: st) n M o := by
  subst hj
  have h := V_lald hd hL hc (fun _ => kk)
  rw [if_pos hin] at h
  exact h
/-- a contract out of a walk of the body, with handlers -/
theorem Ct_ofH {mc ms : Nat} {av : List Value} (hy : plainName S.1.cls = true) (hh : S.2.2.2.2 ≠ []) (hlen : (lg_sl av).length ≤ S.2.2.1) (hlv : lv_args 0 av = lv)
    (hV : V l D dA S false n d mc ms 0 lv [] n M o) : Ct l D dA S false n d mc ms n av M o := by
  intro r M' ho
  refine ⟨(hV r M' ho).1.1, ?_⟩
  intro ad sz
  have hws : v_ws S = Cond.codeWith S.1 S.2.1 S.2.2.1 S.2.2.2.1 S.2.2.2.2 :: v_G := by simp [v_ws, v_code, hh]
  refine vx_ofWH (cc := S.2.1) (maxL := S.2.2.1) (ret := S.2.2.2.1) (hh := S.2.2.2.2) hy (ws' := v_G) hws ?_
  intro p e s m args below meth c s₁ B hml hv
  obtain ⟨hargs, hsz, hP, hK, hD0, hGE⟩ := hv
  subst hargs
  subst hsz
  have ht : c.exceptionTable.toList = tableOf S.2.2.2.2 := vx_table (x := S.1) B (atoms_spec (ws := v_ws S) B.pre _ (by rw [hws]; exact List.mem_cons_self))
  have C : vCx S d (headSpec (v_ws S) (v_rm d mc ms)).room p s m (av.map (vcv ad)).toArray meth c := v_ctx (l := l) (dd := d) rfl B hml ht
  have hD : va_D (v_FA ad n s.heap.size) (v_wl dA ad n M) := by
    refine ⟨hD0.1, fun k q hk => ?_⟩
    have hkn : k < n := by
      have := (List.getElem?_eq_some_iff.mp hk).1
      simpa [v_wl] using this
    rw [v_wl_get hkn] at hk
    cases hk
    exact Or.inl ⟨k, hkn, rfl⟩
  rw [lg_entry_eq]
  have hl := v_entry (ad := ad) (av := av) (nL := S.2.2.1) (lv := lv) (by rw [v_sl_len]; exact hlen) hlv (v_args_map av 0)
  refine (hV r M' ho).2 ad p e _ s m _ below meth c s.heap [] 0 0 _ (v_FA ad n s.heap.size) _ C ⟨hP, hK, hD, va_S.rf, fun q h => Or.inr h, hGE⟩ (fun h => by cases h) ?_ ?_ hl (v_rt_met C rfl rfl ((hV r M' ho).1.2))
  · show 0 + mc ≤ mc
    omega
  · show 0 + ms ≤ ms
    omega
section
variable {p : Program} {e : Env} {R : Room} {s : State} {m : MethodId} {args : Array Value} {below : List Frame} {meth : Method} {cd : Code} {H : Heap} {locs : List Loc} {cells slots : Nat} {Q : State → Prop} {A : Nat → Prop} {ls : Array Slot} {ad : Nat → Nat}
theorem v_runSX {S' : vS} {d' mc' ms' idx np : Nat} {av stk st0 : List Value} {f : Option (vR × vM)} {r1 : vR} {M1 : vM} (C : vCx S d R p s m args meth cd) (Wd : v_Wd D dA ad n M A s H locs) (hl : lv_has ls S.2.2.1 (lv.map (vcl ad))) (hlk : vLkS S.1.cls idx S' np) (hl1 : Cond.methodLink S.1.cls idx S'.1 ∈ v_G) (hh' : S'.2.2.2.2 ≠ []) (hCt : Ct l D dA S' false n d' mc' ms' n av M f) (hf : f = some (r1, M1))
    (hnp : av.length = np) (hstk : av.reverse ++ st0 = stk) (hd' : d' + 1 ≤ d) (hmx : S'.2.2.1 ≤ 45) (hcat : (st0.map fun v => v.category).sum ≤ 8) (hdg : decode S.2.1 pc = .ok (.invokestatic idx, 3)) (hkc : cells + mc' ≤ R.cells) (hks : slots + ms' ≤ R.slots) :
    vx_Run p l e R s m args below meth cd H locs cells slots mc' ms' (F0 m pc ls (stk.map (vcv ad))) (st0.map (vcv ad)) (v_Qc D dA false n ad n H.size r1 M1 (av.map (vcv ad)).toArray) (v_XC D dA false n ad n H.size r1 M1) (v_FA ad n H.size) := by
  obtain ⟨hx, hb, hml, hret, hown, hts, hlocks, htab, hnm, hfr, hlo⟩ := id C
  obtain ⟨⟨-, g2, g3, g4, g5⟩, g6⟩ := hlk
  have hM := (hCt r1 M1 hf).2 ad H.size
  have hcode : v_code S' = Cond.codeWith S'.1 S'.2.1 S'.2.2.1 S'.2.2.2.1 S'.2.2.2.2 := by simp [v_code, hh']
  have hcode2 : Cond.codeWith S'.1 S'.2.1 S'.2.2.1 S'.2.2.2.1 S'.2.2.2.2 ∈ v_G := by rw [← hcode]; exact g3
  have hcw : Cond.codeWith S'.1 S'.2.1 S'.2.2.1 S'.2.2.2.1 S'.2.2.2.2 ∈ v_ws S' := List.mem_cons_of_mem _ hcode2
  have hstack : (F0 m pc ls (stk.map (vcv ad))).stack = (av.map (vcv ad)).reverse ++ st0.map (vcv ad) := by
    subst hstk
    simp
  have hpre : PreS s H (v_Pc D dA ad n M H.size av) (av.map (vcv ad)) := ⟨v_Pc_blind, fun U hU hW => v_pre Wd U hU hW⟩
  have hmax : 8 + (S'.2.2.1 + 11) + (v_rm d' mc' ms').locals ≤ R.locals := by
    show 8 + (S'.2.2.1 + 11) + 64 * d' ≤ R.locals
    omega
  exact vx_runSX (Ts := v_G) (hh := S'.2.2.2.2) ⟨hx, hb, hml, hown, hts⟩ hM (n := np) ⟨⟨rfl, rfl, Nat.le_trans hd' hfr, hmax, v_pay hts g3, hcw⟩, hts _ hcode2, hts _ g2, g4, v_lenOf g5, hts _ hl1, hts _ g6⟩ hpre rfl (by simp [hnp]) hl.1 hstack (lv_room (v_catsum hcat)) hdg ⟨hkc, hks⟩
end
theorem V_callSXi {S' : vS} {d' mc' ms' idx np kc' ks' : Nat} {av stk st0 : List Value} {f : Option (vR × vM)} {K : Int32 → vM → Option (vR × vM)} (hdg : decode S.2.1 pc = .ok (.invokestatic idx, 3)) (hlk : vLkS S.1.cls idx S' np) (hl1 : Cond.methodLink S.1.cls idx S'.1 ∈ v_G) (hh' : S'.2.2.2.2 ≠ []) (hCt : Ct l D dA S' false n d' mc' ms' n av M f) (hnp : av.length = np) (hstk : av.reverse ++ st0 = stk) (hd' : d' + 1 ≤ d) (hmx : S'.2.2.1 ≤ 45) (hcat : (st0.map fun v => v.category).sum ≤ 8) (hh : S.2.2.2.2 = []) (hal : al = false) (hnf : nf = n) (hkc : mc' + kc' ≤ kc) (hks : ms' + ks' ≤ ks)
    (kk : ∀ x M1, f = rI x M1 → v_WT M1.2.2 → V l D dA S al nf d kc' ks' (pc + 3) lv (.int x :: st0) n M1 (K x M1)) : V l D dA S al nf d kc ks pc lv stk n M (bi f K) := by
  subst hal
  refine V_callG (al' := false) (nf' := n) (mc' := mc') (ms' := ms') (st0 := st0) (fun C Wd hl hf h1 h2 => ⟨_, v_runSX C Wd hl hlk hl1 hh' hCt hf hnp hstk hd' hmx hcat hdg h1 h2⟩) (Or.inl hh) (Or.inl ⟨rfl, rfl⟩) (fun _ => hnf.symm) hkc hks (fun _ => hnf) (fun _ h => by cases h) (fun r1 M1 hf => (hCt r1 M1 hf).1) ?_
  intro v M1 hf hI
  cases v with
  | none => exact V_none
  | some v =>
    cases v <;> first | exact kk _ M1 hf (hI rfl) | exact V_none
/-- the script: how long, and what stands there -/
theorem V_slen {L : Nat} (hd : decode S.2.1 pc = .ok (.arraylength, 1)) (hL : D.2 100 1 = L) (kk : V l D dA S al nf d kc ks (pc + 1) lv (.int (nI L) :: st) n M o) : V l D dA S al nf d kc ks pc lv (.ref 6000 :: st) n M o := by
  intro r M' ho
  refine ⟨(kk r M' ho).1, ?_⟩
  intro ad p e R s m args below meth cd H locs cells slots Q A ls C Wd Zr h3 h4 hl Rt
  obtain ⟨⟨q1, q2, q3⟩, q4⟩ := Wd.2.2.2.2.2.2.2.2.2.2.2.2.2.2.2.2
  have h9 := va_slen (rest := st.map (vcv ad)) C.1 C.2.1 q1 q2 q3 Wd.2.2.2.1 hd (by rw [hL]; exact (kk r M' ho).2 ad p e R s m args below meth cd H locs cells slots Q A ls C Wd Zr h3 h4 hl Rt)
  rw [← q4] at h9
  exact h9
theorem V_sald {L j : Nat} {i x : Int32} (hd : decode S.2.1 pc = .ok (.iaload, 1)) (hL : D.2 100 1 = L) (hx : nI (D.2 101 j) = x) (hin : v_in i L = true) (hj : i.toNatClampNeg = j) (kk : V l D dA S al nf d kc ks (pc + 1) lv (.int x :: st) n M o) : V l D dA S al nf d kc ks pc lv (.int i :: .ref 6000 :: st) n M o := by
  intro r M' ho
  refine ⟨(kk r M' ho).1, ?_⟩
  intro ad p e R s m args below meth cd H locs cells slots Q A ls C Wd Zr h3 h4 hl Rt
  obtain ⟨⟨q1, q2, q3⟩, q4⟩ := Wd.2.2.2.2.2.2.2.2.2.2.2.2.2.2.2.2
  subst hL
  subst hj
  subst hx
  have h9 := va_sld (rest := st.map (vcv ad)) C.1 C.2.1 q1 q2 q3 Wd.2.2.2.1 (v_in_vp hin) hd ((kk r M' ho).2 ad p e R s m args below meth cd H locs cells slots Q A ls C Wd Zr h3 h4 hl Rt)
  rw [← q4] at h9
  exact h9
/-- an argument out of the script -/
theorem V_sarg {L k j p0 p4 : Nat} {z : Int} {x : Int32} (hL : D.2 100 1 = L) (hx : nI (D.2 101 (k + j)) = x) (hk : k + j < L) (hL9 : L < 2 ^ 31) (hz : Int32.ofInt z = nI j) (h0 : lv[p0]? = some (0, .ref 6000)) (h4 : lv[p4]? = some (4, .int (nI k)))
    (d0 : decode S.2.1 pc = .ok (.aload_n 0, 1)) (d1 : decode S.2.1 (pc + 1) = .ok (.iload 4, 2)) (d3 : decode S.2.1 (pc + 3) = .ok (.iconst z, 1)) (d4 : decode S.2.1 (pc + 4) = .ok (.iadd, 1)) (d5 : decode S.2.1 (pc + 5) = .ok (.iaload, 1))
    (kk : V l D dA S al nf d kc ks (pc + 6) lv (.int x :: st) n M o) : V l D dA S al nf d kc ks pc lv st n M o := by
  refine V_aload_n (k := p0) d0 rfl h0 ?_
  refine V_iload (k := p4) d1 h4 ?_
  refine V_iconst (v := nI j) d3 hz ?_
  refine V_iadd d4 ?_
  rw [nI_add]
  exact V_sald d5 hL hx (v_in_nI hk hL9) (nI_clamp (by omega)) kk
theorem V_finL (kk : V l D dA S false nf d kc ks pc lv st n M o) : V l D dA S true nf d kc ks pc lv st n M o := by
  intro r M' ho
  refine ⟨⟨fun h => (by cases h), (kk r M' ho).1.2⟩, ?_⟩
  intro ad p e R s m args below meth cd H locs cells slots Q A ls C Wd Zr h3 h4 hl Rt
  exact (kk r M' ho).2 ad p e R s m args below meth cd H locs cells slots Q A ls C Wd (fun h => by cases h) h3 h4 hl (fun ad' h => Rt ad' ⟨h.1, h.2.1, fun h => by cases h⟩)
end V32
