section V11
variable {l : Launch} {D : va_G} {dA : Nat → ClassId} {S : vS} {al : Bool} {nf d kc ks pc pc' : Nat} {lv lv' : List (Nat × Value)} {st st' : List Value} {n : Nat} {M : vM} {o : Option (vR × vM)}
theorem v_up_lt {ad : Nat → Nat} {n q : Nat} : (∀ i, i < n → va_up ad n q i = ad i) ∧ (n < 1000 → ∀ i, 1000 ≤ i → va_up ad n q i = ad i) :=
  ⟨fun i hi => va_up_ne _ _ (by omega), fun hn i hi => va_up_ne _ _ (by omega)⟩
theorem v_ce_up {dA : Nat → ClassId} {ad : Nat → Nat} {n q : Nat} (hn : n < 1000) (hZ : v_Zr n M) (i : Nat) : v_ce dA (va_up ad n q) M i = v_ce dA ad M i := by
  have hr : ∀ j, v_rf (va_up ad n q) (M.2.2 i j) = v_rf ad (M.2.2 i j) := by
    intro j
    unfold v_rf
    by_cases h0 : M.2.2 i j = 0
    · simp [h0]
    · rw [if_neg h0, if_neg h0, va_up_ne]
      have := hZ.2 i j
      omega
  have e : v_fv (va_up ad n q) M i (v_LAY i).2.1 = v_fv ad M i (v_LAY i).2.1 := by
    funext j
    simp only [v_fv, hr]
  simp only [v_ce, v_ar, e, hr]
theorem v_wl_up {dA : Nat → ClassId} {ad : Nat → Nat} {n q : Nat} (hn : n < 1000) (hZ : v_Zr n M) : v_wl dA (va_up ad n q) (n + 1) M = v_wl dA ad n M ++ [(q, v_ce dA ad M n)] := by
  unfold v_wl
  rw [List.range_succ, List.map_append]
  congr 1
  · refine List.map_congr_left (fun i hi => ?_)
    rw [v_ce_up hn hZ, va_up_ne]
    have := List.mem_range.mp hi
    omega
  · simp [v_ce_up hn hZ, va_up_self]
theorem v_Zr_up {n : Nat} (hZ : v_Zr n M) : v_Zr (n + 1) M := ⟨fun c j h => hZ.1 c j (by omega), fun c j => by
  have := hZ.2 c j
  omega⟩
theorem v_Wd_up {A : Nat → Prop} {s : State} {H H1 : Heap} {locs : List Loc} {ad : Nat → Nat} {q : Nat} {e : va_E} (hn : n < 1000) (hZ : v_Zr n M) (Wd : v_Wd D dA ad n M A s H locs) (he : e = v_ce dA ad M n) (p1 : va_P D vwCl (v_wl dA ad n M ++ [(q, e)]) H1) (d1 : va_D A (v_wl dA ad n M ++ [(q, e)])) (s1 : va_S A s.heap H1 locs) : v_Wd D dA (va_up ad n q) (n + 1) M A s H1 locs := by
  subst he
  rw [← v_wl_up hn hZ] at p1 d1
  exact ⟨p1, Wd.2.1, d1, s1, Wd.2.2.2.2.1, Wd.2.2.2.2.2.ad (v_up_lt.2 hn)⟩
theorem v_Rt_up {r : vR} {M' : vM} {p : Program} {e : Env} {R : Room} {s : State} {m : MethodId} {args : Array Value} {below : List Frame} {meth : Method} {c : Code} {A : Nat → Prop} {Q : State → Prop} {ad : Nat → Nat} {q : Nat} (hn : n < 1000) (Rt : vRt D dA S true nf ad n r M' p l e R s m args below meth c A Q) : vRt D dA S true nf (va_up ad n q) (n + 1) r M' p l e R s m args below meth c A Q := by
  intro ad' hex
  exact Rt ad' ⟨fun i hi => (hex.1 i (by omega)).trans (v_up_lt.1 i hi), fun i hi => (hex.2.1 i hi).trans (v_up_lt.2 hn i hi), fun h => (by cases h)⟩
theorem V_new {idx cls : Nat} {C : String} {T : u_T} {ty0 : Nat → FieldType} (hd : decode S.2.1 pc = .ok (.new idx, 3)) (hn : n < 1000) (hL : v_LAY n = (0, cls, 0)) (hq : vwCl[cls]? = some (C, T, v_N cls)) (hin : ∀ w ∈ u_ws C T (v_N cls), w ∈ v_G) (hty : ∀ k, k < v_N cls → parseFieldDescriptor (T k).2.2.1 = some (ty0 k)) (hdf : ∀ k, k < v_N cls → defaultValue (ty0 k) = if v_FK cls k = 2 then .null else .int 0)
    (h1 : Cond.classLink S.1.cls idx C ∈ v_G) (h2 : Cond.instantiable C (v_N cls) ∈ v_G) (h3 : Cond.initialized C ∈ v_G) (hkc : 1 ≤ kc) (hks : v_N cls ≤ ks) (hst : st.all (v_cl n) = true) (hlv : lv.all (fun q => v_cl n q.2) = true)
    (kk : V l D dA S true nf d (kc - 1) (ks - v_N cls) (pc + 3) lv (.ref n :: st) (n + 1) M o) : V l D dA S true nf d kc ks pc lv st n M o := by
  intro r M' ho
  refine ⟨(kk r M' ho).1, ?_⟩
  intro ad p e R s m args below meth cd H locs cells slots Q A ls Cx Wd Zr h3' h4 hl Rt
  obtain ⟨hx, hb, hml, hret, hown, hts, hlocks, htab, hnm, hfr, hlo⟩ := id Cx
  have hZ := Zr rfl
  refine va_new (ci := cls) (fs := (List.range (v_N cls)).map (v_fv ad M n cls)) (C := C) (T := T) (N := v_N cls) (Ts := v_G) hx hb hts hin ty0 hty hown (hts _ h1) (hts _ h2) (hts _ h3) Wd.2.1 Wd.1 Wd.2.2.1 Wd.2.2.2.1 Wd.2.2.2.2.1 hq ?_ (by omega) (by omega) hd (fun q H1 p1 d1 s1 => ?_)
  · intro j hj
    rw [hdf j hj]
    have hz := hZ.1 n j (Nat.le_refl _)
    have e9 : vp_V ((List.range (v_N cls)).map (v_fv ad M n cls)) j = v_fv ad M n cls j := by
      unfold vp_V
      rw [List.getD_eq_getElem?_getD, v_fget hj]
      rfl
    rw [e9]
    unfold v_fv
    by_cases h : v_FK cls j = 2
    · rw [if_pos h, if_pos h, hz.2.2]; rfl
    · rw [if_neg h, if_neg h, hz.1]
  · have hgo := (kk r M' ho).2 (va_up ad n q) p e R s m args below meth cd H1 locs (cells + 1) (slots + v_N cls) Q A ls Cx (v_Wd_up hn hZ Wd (by rw [v_obj hL]) p1 d1 s1) (fun _ => v_Zr_up hZ) (by omega) (by omega) (by rw [v_cl_lv hlv v_up_lt.1 (v_up_lt.2 hn)]; exact hl) (v_Rt_up hn Rt)
    have e2 : (Value.ref n :: st).map (vcv (va_up ad n q)) = .ref q :: st.map (vcv ad) := by
      rw [List.map_cons, v_cl_st hst v_up_lt.1 (v_up_lt.2 hn)]
      simp [vcv, va_up_self]
    rw [e2] at hgo
    exact hgo
theorem V_newa {at9 : ArrayType} {t len : Nat} {x : Int32} (hd : decode S.2.1 pc = .ok (.newarray at9, 2)) (hn : n < 1000) (hL : v_LAY n = (1, t, len)) (ht : t < 4) (hat : newarray.typeOf at9 = v_ty t) (hx0 : x = nI len) (hlen : len < 2 ^ 26)
    (h1 : Cond.arrayClass (newarray.typeOf at9) ∈ v_G) (hkc : 1 ≤ kc) (hks : len ≤ ks) (hst : st.all (v_cl n) = true) (hlv : lv.all (fun q => v_cl n q.2) = true)
    (kk : V l D dA S true nf d (kc - 1) (ks - len) (pc + 2) lv (.ref n :: st) (n + 1) M o) : V l D dA S true nf d kc ks pc lv (.int x :: st) n M o := by
  subst hx0
  intro r M' ho
  refine ⟨(kk r M' ho).1, ?_⟩
  intro ad p e R s m args below meth cd H locs cells slots Q A ls Cx Wd Zr h3' h4 hl Rt
  obtain ⟨hx, hb, hml, hret, hown, hts, hlocks, htab, hnm, hfr, hlo⟩ := id Cx
  have hZ := Zr rfl
  have hz := fun j => hZ.1 n j (Nat.le_refl _)
  refine va_newa (ty := v_ty t) (a0 := v_ar ad M n t len) (N' := len) hx hb (hts _ h1) hat Wd.2.1 Wd.1 Wd.2.2.1 Wd.2.2.2.1 Wd.2.2.2.2.1 ?_ (nI_pos (by omega)) (nI_clamp (by omega)) ?_ (by omega) (by omega) hd (fun q cA H1 k1 p1 d1 s1 => ?_)
  · intro cA
    have e1 : M.1 n = fun _ => 0 := by
      funext j
      exact (hz j).1
    have e2 : M.2.1 n = fun _ => 0 := by
      funext j
      exact (hz j).2.1
    match t, ht with
    | 0, _ => rw [v_ari (by decide) (by decide), e1]; rfl
    | 1, _ => rw [v_arl, e2]; rfl
    | 2, _ => rw [v_ari (by decide) (by decide), e1]; rfl
    | 3, _ => rw [v_ari (by decide) (by decide), e1]; rfl
  · have : componentBytes (v_ty t) ≤ 8 := by
      match t, ht with
      | 0, _ => decide
      | 1, _ => decide
      | 2, _ => decide
      | 3, _ => decide
    have h9 : len * componentBytes (v_ty t) ≤ len * 8 := Nat.mul_le_mul_left _ this
    omega
  · have hcA : cA = dA t := by
      have h5 := (k1.2 7 (cA, v_ty t) (by simp [v_tys])).2
      have h6 := (Wd.2.1.2 t (dA t, v_ty t) (v_tys_get (by omega))).2
      have e5 : s.vm.findClass ("[" ++ (v_ty t).toString) = some cA := by
        match t, ht, h5 with
        | 0, _, h5 => exact h5
        | 1, _, h5 => exact h5
        | 2, _, h5 => exact h5
        | 3, _, h5 => exact h5
      have e6 : s.vm.findClass ("[" ++ (v_ty t).toString) = some (dA t) := by
        match t, ht, h6 with
        | 0, _, h6 => exact h6
        | 1, _, h6 => exact h6
        | 2, _, h6 => exact h6
        | 3, _, h6 => exact h6
      rw [e5] at e6
      exact Option.some.inj e6
    subst hcA
    have hgo := (kk r M' ho).2 (va_up ad n q) p e R s m args below meth cd H1 locs (cells + 1) (slots + len) Q A ls Cx (v_Wd_up hn hZ Wd (by rw [v_arr hL]) p1 d1 s1) (fun _ => v_Zr_up hZ) (by omega) (by omega) (by rw [v_cl_lv hlv v_up_lt.1 (v_up_lt.2 hn)]; exact hl) (v_Rt_up hn Rt)
    have e2 : (Value.ref n :: st).map (vcv (va_up ad n q)) = .ref q :: st.map (vcv ad) := by
      rw [List.map_cons, v_cl_st hst v_up_lt.1 (v_up_lt.2 hn)]
      simp [vcv, va_up_self]
    rw [e2] at hgo
    exact hgo
end V11
