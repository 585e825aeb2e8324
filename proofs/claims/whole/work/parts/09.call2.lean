/-- what a call from the class own by the entry idx needs of the tables -/
def vLk (own : String) (idx : Nat) (S' : vS) (np : Nat) : Prop :=
  (Cond.methodLink own idx S'.1 ∈ v_G ∨ ∃ h, Cond.methodLinkNest own idx S'.1 h ∈ v_NW) ∧ Cond.initialized S'.1.cls ∈ v_G ∧ v_code S' ∈ v_G ∧ (S'.1.cls ≠ "java/lang/invoke/MethodHandle" ∧ S'.1.cls ≠ "java/lang/invoke/VarHandle") ∧ (parseMethodDescriptor S'.1.desc).map (fun d => d.parameters.length) = some np
def vLkV (own : String) (idx : Nat) (S' : vS) (np : Nat) : Prop := vLk own idx S' np ∧ Cond.instanceMethod S'.1 ∈ v_G ∧ Cond.selects S'.1.cls S'.1 S'.1 ∈ v_G
def vLkS (own : String) (idx : Nat) (S' : vS) (np : Nat) : Prop := vLk own idx S' np ∧ Cond.static S'.1 ∈ v_G
def vLkI (own : String) (idx : Nat) (S' : vS) (np : Nat) : Prop := vLk own idx S' np ∧ Cond.instanceMethod S'.1 ∈ v_G ∧ S'.1.name = "<init>" ∧ S'.2.2.2.1 = none
theorem v_lenOf {y : MethodName} {np : Nat} (h2 : (parseMethodDescriptor y.desc).map (fun d => d.parameters.length) = some np) : ∀ sig, parseMethodDescriptor y.desc = some sig → np = sig.parameters.length := fun sig h => by
  rw [h] at h2
  exact (Option.some.inj h2).symm
theorem v_GE.ad {D : va_G} {ad ad' : Nat → Nat} {A : Nat → Prop} {U : State} {H : Heap} (h : v_GE D ad A U H) (ha : ∀ i, 1000 ≤ i → ad' i = ad i) : v_GE D ad' A U H := by
  obtain ⟨h1, h2, h3, h4, h5, h6, h7, h8, h9, h10, h11, h12, h13⟩ := h
  refine ⟨h1, fun q hq => by rw [ha _ (by omega)]; exact h2 q hq, ?_, h4, h5, h6, by rw [ha 5000 (by omega)]; exact h7, h8, h9, h10, h11, h12, by rw [ha 6000 (by omega)]; exact h13⟩
  have e : (fun i => ad' (1000 + i)) = fun i => ad (1000 + i) := by
    funext i
    exact ha _ (by omega)
  have e2 : (fun i => ad' (2000 + i)) = fun i => ad (2000 + i) := by
    funext i
    exact ha _ (by omega)
  rw [e, e2]
  exact h3
theorem v_Pc_blind {D : va_G} {dA : Nat → ClassId} {ad : Nat → Nat} {n : Nat} {M : vM} {sz : Nat} {av : List Value} : FrameBlind (v_Pc D dA ad n M sz av) := by
  intro a U g mk q
  obtain ⟨q0, q1, q2, q3, q4, q5⟩ := q
  refine ⟨q0, q1, q2, va_K.moved (u := U) (U := U.calling g mk a) (Vm.Alike.refl U.vm) q3, q4, ?_⟩
  exact v_GE.go (s := U) (U := U.calling g mk a) q5 (fun _ _ _ => rfl) rfl (State.WarmedH.refl U) (fun _ h => h)
section V6
variable {l : Launch} {D : va_G} {dA : Nat → ClassId} {S : vS} {al : Bool} {nf d kc ks pc pc' : Nat} {lv lv' : List (Nat × Value)} {st st' : List Value} {n : Nat} {M : vM} {o : Option (vR × vM)}
variable {p : Program} {e : Env} {R : Room} {s : State} {m : MethodId} {args : Array Value} {below : List Frame} {meth : Method} {cd : Code} {H : Heap} {locs : List Loc} {cells slots : Nat} {Q : State → Prop} {A : Nat → Prop} {ls : Array Slot} {ad : Nat → Nat}
theorem v_pay (hts : ∀ w ∈ v_G, w.before args s = true) {S' : vS} (hc : v_code S' ∈ v_G) : ∀ w ∈ v_ws S', ∀ (a' : Array Value) (U : State), s.WarmedH U.vm → w.before a' U = true := by
  intro w hw a' U hW
  have hw2 : w ∈ v_G := by
    rcases List.mem_cons.mp hw with h | h
    · rw [h]; exact hc
    · exact h
  exact word_at hW (good_of_word (List.mem_filter.mp hw2).2) (hts w hw2)
theorem v_FA_A (Wd : v_Wd D dA ad n M A s H locs) : ∀ q, v_FA ad n H.size q → A q := by
  intro q h
  rcases h with ⟨i, hi, rfl⟩ | h
  · exact Wd.2.2.1.2 i _ (v_wl_get hi)
  · exact Wd.2.2.2.2.1 q (Nat.le_trans Wd.2.2.2.1.1 h)
theorem v_pre (Wd : v_Wd D dA ad n M A s H locs) {av : List Value} : ∀ U : State, U.heap = H → s.WarmedH U.vm → v_Pc D dA ad n M H.size av (av.map (vcv ad)).toArray U := by
  intro U hU hW
  obtain ⟨hP, hK, hD, hS, hA, hG⟩ := id Wd
  refine ⟨rfl, by rw [hU], by rw [hU]; exact hP, va_K.moved hW.alike hK, hD.weaken (fun _ _ _ _ => trivial), ?_⟩
  exact hG.go hS.2.1 hU hW (v_FA_A Wd)
theorem v_catsum {st : List Value} (h : (st.map fun v => v.category).sum ≤ 8) : ((st.map (vcv ad)).map fun v => v.category).sum ≤ 8 := by
  rw [List.map_map]
  have : ((fun v => v.category) ∘ vcv ad) = fun v => v.category := by
    funext v
    exact vcv_cat ad v
  rw [this]
  exact h
theorem v_recv (Wd : v_Wd D dA ad n M A s H locs) {c cls : Nat} {q : vw_C} (hc : c < n) (hL : v_LAY c = (0, cls, 0)) (hq : vwCl[cls]? = some q) : ∃ cell : Cell, H[ad c]? = some cell ∧ cell.vm.isStatics = false ∧ s.vm.findClass q.1 = some cell.cls := by
  have he := v_wl_get (dA := dA) (ad := ad) (M := M) hc
  rw [v_obj hL] at he
  exact va_recv Wd.2.1 Wd.1 hq he
variable {S' : vS} {al' : Bool} {nf' d' mc' ms' idx np : Nat} {av stk st0 : List Value} {f : Option (vR × vM)} {r1 : vR} {M1 : vM}
theorem v_runV {c cls : Nat} {q : vw_C} (C : vCx S d R p s m args meth cd) (Wd : v_Wd D dA ad n M A s H locs) (hl : lv_has ls S.2.2.1 (lv.map (vcl ad))) (hlk : vLkV S.1.cls idx S' np) (hh' : S'.2.2.2.2 = []) (hCt : Ct l D dA S' al' nf' d' mc' ms' n (.ref c :: av) M f) (hf : f = some (r1, M1))
    (hc : c < n) (hL : v_LAY c = (0, cls, 0)) (hq : vwCl[cls]? = some q) (hq1 : q.1 = S'.1.cls) (hnp : av.length = np) (hstk : av.reverse ++ .ref c :: st0 = stk) (hd' : d' + 1 ≤ d) (hmx : S'.2.2.1 ≤ 45) (hcat : (st0.map fun v => v.category).sum ≤ 8) (hdg : decode S.2.1 pc = .ok (.invokevirtual idx, 3)) (hkc : cells + mc' ≤ R.cells) (hks : slots + ms' ≤ R.slots) :
    vx_Run p l e R s m args below meth cd H locs cells slots mc' ms' (F0 m pc ls (stk.map (vcv ad))) (st0.map (vcv ad)) (v_Qc D dA al' nf' ad n H.size r1 M1 ((Value.ref c :: av).map (vcv ad)).toArray) (v_XC D dA al' nf' ad n H.size r1 M1) (v_FA ad n H.size) := by
  obtain ⟨hx, hb, hml, hret, hown, hts, hlocks, htab, hnm, hfr, hlo⟩ := id C
  obtain ⟨⟨g1, g2, g3, g4, g5⟩, g6, g7⟩ := hlk
  have hM := (hCt r1 M1 hf).2 ad H.size
  have hcode : v_code S' = Cond.code S'.1 S'.2.1 S'.2.2.1 S'.2.2.2.1 := by simp [v_code, hh']
  have hcode2 : Cond.code S'.1 S'.2.1 S'.2.2.1 S'.2.2.2.1 ∈ v_G := by rw [← hcode]; exact g3
  have hcw : Cond.code S'.1 S'.2.1 S'.2.2.1 S'.2.2.2.1 ∈ v_ws S' := List.mem_cons_of_mem _ hcode2
  have hstack : (F0 m pc ls (stk.map (vcv ad))).stack = (av.map (vcv ad)).reverse ++ .ref (ad c) :: st0.map (vcv ad) := by
    subst hstk
    simp [vcv]
  have hpre : PreV s H S'.1.cls (ad c) (v_Pc D dA ad n M H.size (.ref c :: av)) (av.map (vcv ad)) := ⟨v_Pc_blind, by rw [← hq1]; exact v_recv Wd hc hL hq, fun U hU hW => v_pre Wd U hU hW⟩
  have hmax : 8 + (S'.2.2.1 + 11) + (v_rm d' mc' ms').locals ≤ R.locals := by
    show 8 + (S'.2.2.1 + 11) + 64 * d' ≤ R.locals
    omega
  rcases g1 with g1 | ⟨h, g1⟩
  · exact vx_runV (Ts := v_G) ⟨hx, hb, hml, hown, hts⟩ hM (n := np) (C := S'.1.cls) ⟨⟨rfl, rfl, Nat.le_trans hd' hfr, hmax, v_pay hts g3, hcw, hts _ hcode2, hts _ g2, g4, v_lenOf g5, hts _ g1⟩, hts _ g6, hts _ g7⟩ hpre rfl (by simp [hnp]) hl.1 hstack (lv_room (v_catsum hcat)) hdg ⟨hkc, hks⟩
  · exact vx_runVN (Ts := v_G) (host := h) ⟨hx, hb, hml, hown, hts⟩ hM (n := np) (C := S'.1.cls) ⟨⟨⟨rfl, rfl, Nat.le_trans hd' hfr, hmax, v_pay hts g3, hcw⟩, hts _ hcode2, hts _ g2, g4, v_lenOf g5, v_nwU (fun _ => (Wd.2.2.2.2.2).1 _ g1) rfl⟩, hts _ g6, hts _ g7⟩ hpre rfl (by simp [hnp]) hl.1 hstack (lv_room (v_catsum hcat)) hdg ⟨hkc, hks⟩
theorem v_runS (C : vCx S d R p s m args meth cd) (Wd : v_Wd D dA ad n M A s H locs) (hl : lv_has ls S.2.2.1 (lv.map (vcl ad))) (hlk : vLkS S.1.cls idx S' np) (hh' : S'.2.2.2.2 = []) (hCt : Ct l D dA S' al' nf' d' mc' ms' n av M f) (hf : f = some (r1, M1))
    (hnp : av.length = np) (hstk : av.reverse ++ st0 = stk) (hd' : d' + 1 ≤ d) (hmx : S'.2.2.1 ≤ 45) (hcat : (st0.map fun v => v.category).sum ≤ 8) (hdg : decode S.2.1 pc = .ok (.invokestatic idx, 3)) (hkc : cells + mc' ≤ R.cells) (hks : slots + ms' ≤ R.slots) :
    vx_Run p l e R s m args below meth cd H locs cells slots mc' ms' (F0 m pc ls (stk.map (vcv ad))) (st0.map (vcv ad)) (v_Qc D dA al' nf' ad n H.size r1 M1 (av.map (vcv ad)).toArray) (v_XC D dA al' nf' ad n H.size r1 M1) (v_FA ad n H.size) := by
  obtain ⟨hx, hb, hml, hret, hown, hts, hlocks, htab, hnm, hfr, hlo⟩ := id C
  obtain ⟨⟨g1, g2, g3, g4, g5⟩, g6⟩ := hlk
  have hM := (hCt r1 M1 hf).2 ad H.size
  have hcode : v_code S' = Cond.code S'.1 S'.2.1 S'.2.2.1 S'.2.2.2.1 := by simp [v_code, hh']
  have hcode2 : Cond.code S'.1 S'.2.1 S'.2.2.1 S'.2.2.2.1 ∈ v_G := by rw [← hcode]; exact g3
  have hcw : Cond.code S'.1 S'.2.1 S'.2.2.1 S'.2.2.2.1 ∈ v_ws S' := List.mem_cons_of_mem _ hcode2
  have hstack : (F0 m pc ls (stk.map (vcv ad))).stack = (av.map (vcv ad)).reverse ++ st0.map (vcv ad) := by
    subst hstk
    simp
  have hpre : PreS s H (v_Pc D dA ad n M H.size av) (av.map (vcv ad)) := ⟨v_Pc_blind, fun U hU hW => v_pre Wd U hU hW⟩
  have hmax : 8 + (S'.2.2.1 + 11) + (v_rm d' mc' ms').locals ≤ R.locals := by
    show 8 + (S'.2.2.1 + 11) + 64 * d' ≤ R.locals
    omega
  rcases g1 with g1 | ⟨h, g1⟩
  · exact vx_runS (Ts := v_G) ⟨hx, hb, hml, hown, hts⟩ hM (n := np) ⟨⟨rfl, rfl, Nat.le_trans hd' hfr, hmax, v_pay hts g3, hcw, hts _ hcode2, hts _ g2, g4, v_lenOf g5, hts _ g1⟩, hts _ g6⟩ hpre rfl (by simp [hnp]) hl.1 hstack (lv_room (v_catsum hcat)) hdg ⟨hkc, hks⟩
  · exact vx_runSN (Ts := v_G) (host := h) ⟨hx, hb, hml, hown, hts⟩ hM (n := np) ⟨⟨⟨rfl, rfl, Nat.le_trans hd' hfr, hmax, v_pay hts g3, hcw⟩, hts _ hcode2, hts _ g2, g4, v_lenOf g5, v_nwU (fun _ => (Wd.2.2.2.2.2).1 _ g1) rfl⟩, hts _ g6, trivial⟩ hpre rfl (by simp [hnp]) hl.1 hstack (lv_room (v_catsum hcat)) hdg ⟨hkc, hks⟩
theorem v_runI {c : Nat} (C : vCx S d R p s m args meth cd) (Wd : v_Wd D dA ad n M A s H locs) (hl : lv_has ls S.2.2.1 (lv.map (vcl ad))) (hlk : vLkI S.1.cls idx S' np) (hh' : S'.2.2.2.2 = []) (hCt : Ct l D dA S' al' nf' d' mc' ms' n (.ref c :: av) M f) (hf : f = some (r1, M1))
    (hnp : av.length = np) (hstk : av.reverse ++ .ref c :: st0 = stk) (hd' : d' + 1 ≤ d) (hmx : S'.2.2.1 ≤ 45) (hcat : (st0.map fun v => v.category).sum ≤ 8) (hdg : decode S.2.1 pc = .ok (.invokespecial idx, 3)) (hkc : cells + mc' ≤ R.cells) (hks : slots + ms' ≤ R.slots) :
    vx_Run p l e R s m args below meth cd H locs cells slots mc' ms' (F0 m pc ls (stk.map (vcv ad))) (st0.map (vcv ad)) (v_Qc D dA al' nf' ad n H.size r1 M1 ((Value.ref c :: av).map (vcv ad)).toArray) (v_XC D dA al' nf' ad n H.size r1 M1) (v_FA ad n H.size) := by
  obtain ⟨hx, hb, hml, hret, hown, hts, hlocks, htab, hnm, hfr, hlo⟩ := id C
  obtain ⟨⟨g1, g2, g3, g4, g5⟩, g6, g7, g8⟩ := hlk
  have hM := (hCt r1 M1 hf).2 ad H.size
  have hcode : v_code S' = Cond.code S'.1 S'.2.1 S'.2.2.1 none := by simp [v_code, hh', g8]
  have hcode2 : Cond.code S'.1 S'.2.1 S'.2.2.1 none ∈ v_G := by rw [← hcode]; exact g3
  have hcw : Cond.code S'.1 S'.2.1 S'.2.2.1 none ∈ v_ws S' := List.mem_cons_of_mem _ hcode2
  have hstack : (F0 m pc ls (stk.map (vcv ad))).stack = (av.map (vcv ad)).reverse ++ .ref (ad c) :: st0.map (vcv ad) := by
    subst hstk
    simp [vcv]
  have hpre : PreS s H (v_Pc D dA ad n M H.size (.ref c :: av)) (.ref (ad c) :: av.map (vcv ad)) := ⟨v_Pc_blind, fun U hU hW => v_pre Wd U hU hW⟩
  have hmax : 8 + (S'.2.2.1 + 11) + (v_rm d' mc' ms').locals ≤ R.locals := by
    show 8 + (S'.2.2.1 + 11) + 64 * d' ≤ R.locals
    omega
  rcases g1 with g1 | ⟨h, g1⟩
  · exact vx_runI (Ts := v_G) ⟨hx, hb, hml, hown, hts⟩ hM (n := np) ⟨⟨rfl, rfl, Nat.le_trans hd' hfr, hmax, v_pay hts g3, hcw, hts _ hcode2, hts _ g2, g4, v_lenOf g5, hts _ g1⟩, g7, hts _ g6⟩ hpre rfl (by simp [hnp]) hl.1 hstack (lv_room (v_catsum hcat)) hdg ⟨hkc, hks⟩
  · exact vx_runIN (Ts := v_G) (host := h) ⟨hx, hb, hml, hown, hts⟩ hM (n := np) ⟨⟨⟨rfl, rfl, Nat.le_trans hd' hfr, hmax, v_pay hts g3, hcw⟩, hts _ hcode2, hts _ g2, g4, v_lenOf g5, v_nwU (fun _ => (Wd.2.2.2.2.2).1 _ g1) rfl⟩, g7, hts _ g6⟩ hpre rfl (by simp [hnp]) hl.1 hstack (lv_room (v_catsum hcat)) hdg ⟨hkc, hks⟩
end V6
