section V17
variable {l : Launch} {D : va_G} {dA : Nat → ClassId} {S : vS} {al : Bool} {nf d kc ks pc pc' : Nat} {lv lv' : List (Nat × Value)} {st st' : List Value} {n : Nat} {M : vM} {o : Option (vR × vM)}
theorem V_objInit {idx c : Nat} (hd : decode S.2.1 pc = .ok (.invokespecial idx, 3)) (h1 : Cond.methodLink S.1.cls idx objectInit ∈ v_G) (h2 : Cond.instanceMethod objectInit ∈ v_G) (h3 : Cond.code objectInit ⟨#[0xb1]⟩ 1 none ∈ v_G) (hdd : 1 ≤ d) (hcat : (st.map fun v => v.category).sum ≤ 8) (kk : V l D dA S al nf d kc ks (pc + 3) lv st n M o) : V l D dA S al nf d kc ks pc lv (.ref c :: st) n M o := by
  refine V_step2 (fun {p e R s m args below meth cd H locs cells slots Q A ls ad} C Wd hl hc hs w => ?_) kk
  obtain ⟨hx, hb, hml, hret, hown, hts, hlocks, htab, hnm, hfr, hlo⟩ := id C
  have hcat9 := v_catsum (ad := ad) hcat
  refine W.objInit hx hb hown (hts _ h1) (hts _ h2) (hts _ h3) rfl (hl.1.trans hml.symm) rfl hd (by omega) ?_ w
  show 2 * 0 + ((st.map (vcv ad)).map fun v => v.category).sum + 12 ≤ R.locals
  omega
/-- a constructor that makes cells -/
theorem V_callIA {S' : vS} {d' mc' ms' idx np kc' ks' nf' c : Nat} {av stk st0 : List Value} {M1 : vM} (hdg : decode S.2.1 pc = .ok (.invokespecial idx, 3)) (hlk : vLkI S.1.cls idx S' np) (hh' : S'.2.2.2.2 = []) (hCt : Ct l D dA S' true nf' d' mc' ms' n (.ref c :: av) M (rV M1)) (hnp : av.length = np) (hstk : av.reverse ++ .ref c :: st0 = stk) (hd' : d' + 1 ≤ d) (hmx : S'.2.2.1 ≤ 45) (hcat : (st0.map fun v => v.category).sum ≤ 8) (hh : S.2.2.2.2 = []) (hn : n ≤ nf') (hZ : v_Zr nf' M1) (hst : st0.all (v_cl n) = true) (hlv : lv.all (fun q => v_cl n q.2) = true) (hkc : mc' + kc' ≤ kc) (hks : ms' + ks' ≤ ks)
    (kk : V l D dA S true nf d kc' ks' (pc + 3) lv st0 nf' M1 o) : V l D dA S true nf d kc ks pc lv stk n M o := by
  have e0 : vG (rV M1) (fun v _ => match v with
    | none => o
    | _ => none) = o := rfl
  rw [← e0]
  refine V_callG (al' := true) (nf' := nf') (mc' := mc') (ms' := ms') (kc' := kc') (ks' := ks') (st0 := st0) (fun C Wd hl hf h1 h2 => ⟨_, v_runI C Wd hl hlk hh' hCt hf hnp hstk hd' hmx hcat hdg h1 h2⟩) (Or.inl hh) (Or.inr ⟨rfl, rfl, hn, ?_, ?_, hst, hlv⟩) (fun h => by cases h) hkc hks ?_ (fun h => by cases h) (fun r1 M2 hf h => by cases h) ?_
  · intro k M2 h
    cases h
  · intro v M2 h _
    cases h
    exact hZ
  · rintro ⟨k, M2, h⟩
    cases h
  · intro v M2 h hI
    cases h
    exact kk
theorem V_anew {idx t len : Nat} {x : Int32} {C : String} (hd : decode S.2.1 pc = .ok (.anewarray idx, 3)) (hn : n < 1000) (hL : v_LAY n = (1, t, len)) (ht : 4 ≤ t ∧ t < 7) (hC : v_ty t = .object C) (hx0 : x = nI len) (hlen : len < 2 ^ 26)
    (h1 : Cond.classLink S.1.cls idx C ∈ v_G) (hAO : ∀ {ad : Nat → Nat} {A : Nat → Prop} {U : State} {H : Heap}, v_GE D ad A U H → va_AO C U) (hkc : 1 ≤ kc) (hks : len ≤ ks) (hst : st.all (v_cl n) = true) (hlv : lv.all (fun q => v_cl n q.2) = true)
    (kk : V l D dA S true nf d (kc - 1) (ks - len) (pc + 3) lv (.ref n :: st) (n + 1) M o) : V l D dA S true nf d kc ks pc lv (.int x :: st) n M o := by
  subst hx0
  intro r M' ho
  refine ⟨(kk r M' ho).1, ?_⟩
  intro ad p e R s m args below meth cd H locs cells slots Q A ls Cx Wd Zr h3' h4 hl Rt
  obtain ⟨hx, hb, hml, hret, hown, hts, hlocks, htab, hnm, hfr, hlo⟩ := id Cx
  have hZ := Zr rfl
  have hz := fun j => hZ.1 n j (Nat.le_refl _)
  refine va_newq (C := C) (N' := len) hx hb hown (hts _ h1) (hAO Wd.2.2.2.2.2) Wd.2.1 Wd.1 Wd.2.2.1 Wd.2.2.2.1 Wd.2.2.2.2.1 (nI_pos (by omega)) (nI_clamp (by omega)) (by omega) (by omega) (by omega) hd (fun q cA H1 k1 p1 d1 s1 => ?_)
  have hcA : cA = dA t := by
    have h5 := (k1.2 7 (cA, .object C) (by simp [v_tys])).2
    have h6 := (Wd.2.1.2 t (dA t, v_ty t) (v_tys_get ht.2)).2
    rw [hC] at h6
    obtain ⟨kA, comp, a1, a2, a3, a4⟩ := h5
    obtain ⟨kB, comp2, b1, b2, b3, b4⟩ := h6
    rw [a4] at b4
    exact Option.some.inj b4
  subst hcA
  have hgo := (kk r M' ho).2 (va_up ad n q) p e R s m args below meth cd H1 locs (cells + 1) (slots + len) Q A ls Cx (v_Wd_up hn hZ Wd (by
    rw [v_arr hL, v_arr4 ht.1]
    congr 7
    funext j
    rw [(hz j).2.2]
    rfl) p1 d1 s1) (fun _ => v_Zr_up hZ) (by omega) (by omega) (by rw [v_cl_lv hlv v_up_lt.1 (v_up_lt.2 hn)]; exact hl) (v_Rt_up hn Rt)
  have e2 : (Value.ref n :: st).map (vcv (va_up ad n q)) = .ref q :: st.map (vcv ad) := by
    rw [List.map_cons, v_cl_st hst v_up_lt.1 (v_up_lt.2 hn)]
    simp [vcv, va_up_self]
  rw [e2] at hgo
  exact hgo
end V17
