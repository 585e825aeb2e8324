section V4
variable {l : Launch} {D : va_G} {dA : Nat → ClassId} {S : vS} {al : Bool} {nf d kc ks pc pc' : Nat} {lv lv' : List (Nat × Value)} {st st' : List Value} {n : Nat} {M : vM} {o : Option (vR × vM)}
theorem v_ari {ad : Nat → Nat} {c t len : Nat} (ht : t ≠ 1) (h4 : ¬ 4 ≤ t) : v_ar ad M c t len = (len, .inl (M.1 c)) := by simp [v_ar, ht, h4]
theorem v_arl {ad : Nat → Nat} {c len : Nat} : v_ar ad M c 1 len = (len, .inr (.inl (M.2.1 c))) := by simp [v_ar]
theorem v_arr4 {ad : Nat → Nat} {c t len : Nat} (h4 : 4 ≤ t) : v_ar ad M c t len = (len, .inr (.inr (.inr (.inr (fun j => v_rf ad (M.2.2 c j)))))) := by
  have h1 : t ≠ 1 := by omega
  simp [v_ar, h1, h4]
theorem V_iald {c len : Nat} {i : Int32} (hd : decode S.2.1 pc = .ok (.iaload, 1)) (hL : v_LAY c = (1, 0, len)) (hc : c < n)
    (kk : v_in i len = true → V l D dA S al nf d kc ks (pc + 1) lv (.int (M.1 c i.toNatClampNeg) :: st) n M o) : V l D dA S al nf d kc ks pc lv (.int i :: .ref c :: st) n M (if v_in i len = true then o else none) := by
  intro r M' ho
  by_cases h : v_in i len = true
  · rw [if_pos h] at ho
    refine ⟨(kk h r M' ho).1, ?_⟩
    intro ad p e R s m args below meth cd H locs cells slots Q A ls C Wd Zr h3 h4 hl Rt
    have he := v_wl_get (dA := dA) (ad := ad) (M := M) hc
    rw [v_arr hL, v_ari (by decide) (by decide)] at he
    exact va_iald C.1 C.2.1 Wd.2.1 Wd.1 c 0 he (v_tys_get (by decide)) (v_in_vp h) hd ((kk h r M' ho).2 ad p e R s m args below meth cd H locs cells slots Q A ls C Wd Zr h3 h4 hl Rt)
  · rw [if_neg h] at ho
    cases ho
theorem V_bald {c len : Nat} {i : Int32} (hd : decode S.2.1 pc = .ok (.baload, 1)) (hL : v_LAY c = (1, 2, len)) (hc : c < n)
    (kk : v_in i len = true → V l D dA S al nf d kc ks (pc + 1) lv (.int (M.1 c i.toNatClampNeg) :: st) n M o) : V l D dA S al nf d kc ks pc lv (.int i :: .ref c :: st) n M (if v_in i len = true then o else none) := by
  intro r M' ho
  by_cases h : v_in i len = true
  · rw [if_pos h] at ho
    refine ⟨(kk h r M' ho).1, ?_⟩
    intro ad p e R s m args below meth cd H locs cells slots Q A ls C Wd Zr h3 h4 hl Rt
    have he := v_wl_get (dA := dA) (ad := ad) (M := M) hc
    rw [v_arr hL, v_ari (by decide) (by decide)] at he
    exact va_bald C.1 C.2.1 Wd.2.1 Wd.1 c 2 he (v_tys_get (by decide)) (v_in_vp h) hd ((kk h r M' ho).2 ad p e R s m args below meth cd H locs cells slots Q A ls C Wd Zr h3 h4 hl Rt)
  · rw [if_neg h] at ho
    cases ho
theorem V_zald {c len : Nat} {i : Int32} (hd : decode S.2.1 pc = .ok (.baload, 1)) (hL : v_LAY c = (1, 3, len)) (hc : c < n)
    (kk : v_in i len = true → V l D dA S al nf d kc ks (pc + 1) lv (.int (M.1 c i.toNatClampNeg) :: st) n M o) : V l D dA S al nf d kc ks pc lv (.int i :: .ref c :: st) n M (if v_in i len = true then o else none) := by
  intro r M' ho
  by_cases h : v_in i len = true
  · rw [if_pos h] at ho
    refine ⟨(kk h r M' ho).1, ?_⟩
    intro ad p e R s m args below meth cd H locs cells slots Q A ls C Wd Zr h3 h4 hl Rt
    have he := v_wl_get (dA := dA) (ad := ad) (M := M) hc
    rw [v_arr hL, v_ari (by decide) (by decide)] at he
    exact va_zald C.1 C.2.1 Wd.2.1 Wd.1 c 3 he (v_tys_get (by decide)) (v_in_vp h) hd ((kk h r M' ho).2 ad p e R s m args below meth cd H locs cells slots Q A ls C Wd Zr h3 h4 hl Rt)
  · rw [if_neg h] at ho
    cases ho
theorem V_lald {c len : Nat} {i : Int32} (hd : decode S.2.1 pc = .ok (.laload, 1)) (hL : v_LAY c = (1, 1, len)) (hc : c < n)
    (kk : v_in i len = true → V l D dA S al nf d kc ks (pc + 1) lv (.long (M.2.1 c i.toNatClampNeg) :: st) n M o) : V l D dA S al nf d kc ks pc lv (.int i :: .ref c :: st) n M (if v_in i len = true then o else none) := by
  intro r M' ho
  by_cases h : v_in i len = true
  · rw [if_pos h] at ho
    refine ⟨(kk h r M' ho).1, ?_⟩
    intro ad p e R s m args below meth cd H locs cells slots Q A ls C Wd Zr h3 h4 hl Rt
    have he := v_wl_get (dA := dA) (ad := ad) (M := M) hc
    rw [v_arr hL, v_arl] at he
    exact va_lald C.1 C.2.1 Wd.2.1 Wd.1 c 1 he (v_tys_get (by decide)) (v_in_vp h) hd ((kk h r M' ho).2 ad p e R s m args below meth cd H locs cells slots Q A ls C Wd Zr h3 h4 hl Rt)
  · rw [if_neg h] at ho
    cases ho
theorem V_aald {c t len k : Nat} {i : Int32} {T : String} (hd : decode S.2.1 pc = .ok (.aaload, 1)) (hL : v_LAY c = (1, t, len)) (hc : c < n) (ht : 4 ≤ t ∧ t < 7) (hT : v_ty t = .object T) (hr : v_in i len = true → M.2.2 c i.toNatClampNeg = k + 1)
    (kk : v_in i len = true → V l D dA S al nf d kc ks (pc + 1) lv (.ref k :: st) n M o) : V l D dA S al nf d kc ks pc lv (.int i :: .ref c :: st) n M (if v_in i len = true then o else none) := by
  intro r M' ho
  by_cases h : v_in i len = true
  · rw [if_pos h] at ho
    refine ⟨(kk h r M' ho).1, ?_⟩
    intro ad p e R s m args below meth cd H locs cells slots Q A ls C Wd Zr h3 h4 hl Rt
    have he := v_wl_get (dA := dA) (ad := ad) (M := M) hc
    rw [v_arr hL, v_arr4 ht.1] at he
    have hty := v_tys_get (dA := dA) ht.2
    rw [hT] at hty
    have k1 := (kk h r M' ho).2 ad p e R s m args below meth cd H locs cells slots Q A ls C Wd Zr h3 h4 hl Rt
    have e9 : va_rf (v_rf ad (M.2.2 c i.toNatClampNeg)) = .ref (ad k) := by rw [hr h]; rfl
    refine va_aldq C.1 C.2.1 Wd.2.1 Wd.1 c t he hty (v_in_vp h) hd ?_
    show W p l e R s m args below meth cd H locs cells slots Q (F0 m (pc + 1) ls (va_rf (v_rf ad (M.2.2 c i.toNatClampNeg)) :: st.map (vcv ad)))
    rw [e9]
    exact k1
  · rw [if_neg h] at ho
    cases ho
theorem V_alen {c t len : Nat} (hd : decode S.2.1 pc = .ok (.arraylength, 1)) (hL : v_LAY c = (1, t, len)) (hc : c < n) (ht : t < 7)
    (kk : V l D dA S al nf d kc ks (pc + 1) lv (.int (nI len) :: st) n M o) : V l D dA S al nf d kc ks pc lv (.ref c :: st) n M o := by
  intro r M' ho
  refine ⟨(kk r M' ho).1, ?_⟩
  intro ad p e R s m args below meth cd H locs cells slots Q A ls C Wd Zr h3 h4 hl Rt
  have he := v_wl_get (dA := dA) (ad := ad) (M := M) hc
  rw [v_arr hL] at he
  exact va_alen C.1 C.2.1 Wd.2.1 Wd.1 c t he (v_tys_get ht) rfl hd ((kk r M' ho).2 ad p e R s m args below meth cd H locs cells slots Q A ls C Wd Zr h3 h4 hl Rt)
theorem v_upd {c j : Nat} {x : Int32} : upd (M.1 c) j x = (v_si M c j x).1 c := by
  funext q
  simp [upd, v_si]
theorem v_updL {c j : Nat} {x : Int64} : vp_updL (M.2.1 c) j x = (v_sl M c j x).2.1 c := by
  funext q
  simp [vp_updL, v_sl]
theorem v_upr {ad : Nat → Nat} {c j k : Nat} : va_up (fun j => v_rf ad (M.2.2 c j)) j (some (ad k)) = fun i => v_rf ad ((v_sr M c j (k + 1)).2.2 c i) := by
  funext q
  by_cases hq : q = j <;> simp [va_up, v_sr, v_rf, hq]
theorem V_iast {c len : Nat} {i x : Int32} (hd : decode S.2.1 pc = .ok (.iastore, 1)) (hL : v_LAY c = (1, 0, len)) (hc : c < n)
    (kk : v_in i len = true → V l D dA S al nf d kc ks (pc + 1) lv st n (v_si M c i.toNatClampNeg x) o) : V l D dA S al nf d kc ks pc lv (.int x :: .int i :: .ref c :: st) n M (if v_in i len = true then o else none) := by
  intro r M' ho
  by_cases h : v_in i len = true
  · rw [if_pos h] at ho
    refine ⟨(kk h r M' ho).1, ?_⟩
    intro ad p e R s m args below meth cd H locs cells slots Q A ls C Wd Zr h3 h4 hl Rt
    have he := v_wl_get (dA := dA) (ad := ad) (M := M) hc
    rw [v_arr hL, v_ari (by decide) (by decide)] at he
    refine va_iast C.1 C.2.1 Wd.2.1 Wd.1 Wd.2.2.1 Wd.2.2.2.1 c 0 he (v_tys_get (by decide)) (v_in_vp h) hd (fun H1 locs1 p1 d1 s1 => ?_)
    rw [v_wl_set (M' := v_si M c i.toNatClampNeg x) (by rw [v_arr hL, v_ari (by decide) (by decide), v_upd]) (fun i hi => v_ce_congr (v_si_o hi) rfl rfl)] at p1 d1
    exact (kk h r M' ho).2 ad p e R s m args below meth cd H1 locs1 cells slots Q A ls C ⟨p1, Wd.2.1, d1, s1, Wd.2.2.2.2.1, Wd.2.2.2.2.2⟩ (fun h => v_Zr_si (Zr h) hc) h3 h4 hl Rt
  · rw [if_neg h] at ho
    cases ho
theorem V_bast {c len : Nat} {i x : Int32} (hd : decode S.2.1 pc = .ok (.bastore, 1)) (hL : v_LAY c = (1, 2, len)) (hc : c < n)
    (kk : v_in i len = true → V l D dA S al nf d kc ks (pc + 1) lv st n (v_si M c i.toNatClampNeg (v_nb x)) o) : V l D dA S al nf d kc ks pc lv (.int x :: .int i :: .ref c :: st) n M (if v_in i len = true then o else none) := by
  intro r M' ho
  by_cases h : v_in i len = true
  · rw [if_pos h] at ho
    refine ⟨(kk h r M' ho).1, ?_⟩
    intro ad p e R s m args below meth cd H locs cells slots Q A ls C Wd Zr h3 h4 hl Rt
    have he := v_wl_get (dA := dA) (ad := ad) (M := M) hc
    rw [v_arr hL, v_ari (by decide) (by decide)] at he
    refine va_bast C.1 C.2.1 Wd.2.1 Wd.1 Wd.2.2.1 Wd.2.2.2.1 c 2 he (v_tys_get (by decide)) (v_in_vp h) hd (fun H1 locs1 p1 d1 s1 => ?_)
    rw [v_wl_set (M' := v_si M c i.toNatClampNeg (v_nb x)) (by rw [v_arr hL, v_ari (by decide) (by decide), v_upd]; rfl) (fun i hi => v_ce_congr (v_si_o hi) rfl rfl)] at p1 d1
    exact (kk h r M' ho).2 ad p e R s m args below meth cd H1 locs1 cells slots Q A ls C ⟨p1, Wd.2.1, d1, s1, Wd.2.2.2.2.1, Wd.2.2.2.2.2⟩ (fun h => v_Zr_si (Zr h) hc) h3 h4 hl Rt
  · rw [if_neg h] at ho
    cases ho
theorem V_zast {c len : Nat} {i x : Int32} (hd : decode S.2.1 pc = .ok (.bastore, 1)) (hL : v_LAY c = (1, 3, len)) (hc : c < n)
    (kk : v_in i len = true → V l D dA S al nf d kc ks (pc + 1) lv st n (v_si M c i.toNatClampNeg (v_nz x)) o) : V l D dA S al nf d kc ks pc lv (.int x :: .int i :: .ref c :: st) n M (if v_in i len = true then o else none) := by
  intro r M' ho
  by_cases h : v_in i len = true
  · rw [if_pos h] at ho
    refine ⟨(kk h r M' ho).1, ?_⟩
    intro ad p e R s m args below meth cd H locs cells slots Q A ls C Wd Zr h3 h4 hl Rt
    have he := v_wl_get (dA := dA) (ad := ad) (M := M) hc
    rw [v_arr hL, v_ari (by decide) (by decide)] at he
    refine va_zast C.1 C.2.1 Wd.2.1 Wd.1 Wd.2.2.1 Wd.2.2.2.1 c 3 he (v_tys_get (by decide)) (v_in_vp h) hd (fun H1 locs1 p1 d1 s1 => ?_)
    rw [v_wl_set (M' := v_si M c i.toNatClampNeg (v_nz x)) (by rw [v_arr hL, v_ari (by decide) (by decide), v_upd]; rfl) (fun i hi => v_ce_congr (v_si_o hi) rfl rfl)] at p1 d1
    exact (kk h r M' ho).2 ad p e R s m args below meth cd H1 locs1 cells slots Q A ls C ⟨p1, Wd.2.1, d1, s1, Wd.2.2.2.2.1, Wd.2.2.2.2.2⟩ (fun h => v_Zr_si (Zr h) hc) h3 h4 hl Rt
  · rw [if_neg h] at ho
    cases ho
theorem V_last {c len : Nat} {i : Int32} {x : Int64} (hd : decode S.2.1 pc = .ok (.lastore, 1)) (hL : v_LAY c = (1, 1, len)) (hc : c < n)
    (kk : v_in i len = true → V l D dA S al nf d kc ks (pc + 1) lv st n (v_sl M c i.toNatClampNeg x) o) : V l D dA S al nf d kc ks pc lv (.long x :: .int i :: .ref c :: st) n M (if v_in i len = true then o else none) := by
  intro r M' ho
  by_cases h : v_in i len = true
  · rw [if_pos h] at ho
    refine ⟨(kk h r M' ho).1, ?_⟩
    intro ad p e R s m args below meth cd H locs cells slots Q A ls C Wd Zr h3 h4 hl Rt
    have he := v_wl_get (dA := dA) (ad := ad) (M := M) hc
    rw [v_arr hL, v_arl] at he
    refine va_last C.1 C.2.1 Wd.2.1 Wd.1 Wd.2.2.1 Wd.2.2.2.1 c 1 he (v_tys_get (by decide)) (v_in_vp h) hd (fun H1 locs1 p1 d1 s1 => ?_)
    rw [v_wl_set (M := M) (M' := v_sl M c i.toNatClampNeg x) (by rw [v_arr hL, v_arl, v_updL]) (fun i hi => v_ce_congr rfl (v_sl_o hi) rfl)] at p1 d1
    exact (kk h r M' ho).2 ad p e R s m args below meth cd H1 locs1 cells slots Q A ls C ⟨p1, Wd.2.1, d1, s1, Wd.2.2.2.2.1, Wd.2.2.2.2.2⟩ (fun h => v_Zr_sl (Zr h) hc) h3 h4 hl Rt
  · rw [if_neg h] at ho
    cases ho
/-- an object into a row of its class's objects -/
theorem V_aast {c t len k cls : Nat} {i : Int32} {q : vw_C} (hd : decode S.2.1 pc = .ok (.aastore, 1)) (hL : v_LAY c = (1, t, len)) (hc : c < n) (ht : 4 ≤ t ∧ t < 7) (hT : v_ty t = .object q.1) (hk : k < n) (hLk : v_LAY k = (0, cls, 0)) (hq : vwCl[cls]? = some q)
    (kk : v_in i len = true → V l D dA S al nf d kc ks (pc + 1) lv st n (v_sr M c i.toNatClampNeg (k + 1)) o) : V l D dA S al nf d kc ks pc lv (.ref k :: .int i :: .ref c :: st) n M (if v_in i len = true then o else none) := by
  intro r M' ho
  by_cases h : v_in i len = true
  · rw [if_pos h] at ho
    refine ⟨(kk h r M' ho).1, ?_⟩
    intro ad p e R s m args below meth cd H locs cells slots Q A ls C Wd Zr h3 h4 hl Rt
    have he := v_wl_get (dA := dA) (ad := ad) (M := M) hc
    rw [v_arr hL, v_arr4 ht.1] at he
    have he2 := v_wl_get (dA := dA) (ad := ad) (M := M) hk
    rw [v_obj hLk] at he2
    have hty := v_tys_get (dA := dA) ht.2
    rw [hT] at hty
    refine va_astq C.1 C.2.1 Wd.2.1 Wd.1 Wd.2.2.1 Wd.2.2.2.1 c t k cls he hty he2 hq (v_in_vp h) hd (fun H1 locs1 p1 d1 s1 => ?_)
    rw [v_wl_set (M := M) (M' := v_sr M c i.toNatClampNeg (k + 1)) (by rw [v_arr hL, v_arr4 ht.1, v_upr]) (fun i hi => v_ce_congr rfl rfl (v_sr_o hi))] at p1 d1
    exact (kk h r M' ho).2 ad p e R s m args below meth cd H1 locs1 cells slots Q A ls C ⟨p1, Wd.2.1, d1, s1, Wd.2.2.2.2.1, Wd.2.2.2.2.2⟩ (fun h => v_Zr_sr (Zr h) hc (by omega)) h3 h4 hl Rt
  · rw [if_neg h] at ho
    cases ho
end V4
