
def vWi (f : Option (vR × vM)) (KT : Nat → vM → Option (vR × vM)) : Option (vR × vM) := vH f (fun v M1 => match v with
  | some (.int x) => rI 0 (v_sl M1 174 0 x.toInt64)
  | _ => none) KT
def vWz (f : Option (vR × vM)) (KT : Nat → vM → Option (vR × vM)) : Option (vR × vM) := vH f (fun v M1 => match v with
  | some (.int x) => if x = 0 then rI 0 (v_sl M1 174 0 0) else rI 0 (v_sl M1 174 0 1)
  | _ => none) KT
def kt1 (k0 : Nat) (k : Nat) (M1 : vM) : Option (vR × vM) := if k = k0 then rI 1 M1 else none
def kt2 (k : Nat) (M1 : vM) : Option (vR × vM) := if k = 1 then rI 1 M1 else if k = 2 then rI 2 M1 else none
theorem v_exn1 : v_exn 1 = "java/util/NoSuchElementException" := rfl
theorem v_exn2 : v_exn 2 = "java/lang/IllegalArgumentException" := by decide
theorem gcl1 : Cond.classLink "NeverTwiceLaw" 18 (v_exn 1) ∈ v_G := gw867
theorem gcl2 : Cond.classLink "NeverTwiceLaw" 13 (v_exn 2) ∈ v_G := by
  rw [v_exn2]
  exact gw555
theorem gcl1' : Cond.classLink "NeverTwiceLaw" 18 "java/util/NoSuchElementException" ∈ v_G := gw867
theorem gca1 : Cond.castable (v_exn 1) (v_exn 1) ∈ v_NW := List.mem_filter.mpr ⟨List.mem_of_getElem? (i := 878) (by decide +kernel), rfl⟩
theorem gca2 : Cond.castable (v_exn 2) (v_exn 2) ∈ v_NW := List.mem_filter.mpr ⟨List.mem_of_getElem? (i := 562) (by decide +kernel), rfl⟩
def fL_town (M : vM) (x1 : Int32) : Option (vR × vM) := vWi (fX10_town M x1) (kt1 2)
theorem cL_town_ok {l : Launch} {D : va_G} {dA : Nat → ClassId} (hT : l.stackTraces = false) (M : vM) (x1 : Int32) (hI : v_WT M.2.2) : Ct l D dA sL_town false 175 21 1 6 175 [.ref 0, .int x1, .ref 174] M (fL_town M x1) := by
  refine Ct_ofH (lv := [(0, .ref 0), (1, .int x1), (2, .ref 174)]) (by decide +kernel) (by decide) (Nat.le_of_ble_eq_true rfl) rfl ?_
  refine V_aload_n (k := 2) dL_town_0 rfl rfl ?_
  refine V_iconst (v := 0) dL_town_1 rfl ?_
  refine V_aload_n (k := 0) dL_town_2 rfl rfl ?_
  refine V_iload_n (k := 1) dL_town_3 rfl rfl ?_
  refine V_callHV (mc' := 1) (ms' := 6) (kc' := 0) (ks' := 0) (av := [.int x1]) (st0 := [.int 0, .ref 174]) (cls := 10) dL_town_4 lk_L_7 rfl (by decide) rfl rfl rfl (cX10_town_ok hT M x1 hI) rfl rfl (Nat.le_of_ble_eq_true rfl) (by decide) (by decide) (Nat.le_of_ble_eq_true rfl) (Nat.le_of_ble_eq_true rfl) (fun v M1 hf hI1 => ?_) (fun k M1 hf hI1 => ?_)
  · have X : ∀ x : Int32, V l D dA sL_town false 175 21 0 0 7 [(0, .ref 0), (1, .int x1), (2, .ref 174)] [.int x, .int 0, .ref 174] 175 M1 (rI 0 (v_sl M1 174 0 x.toInt64)) := by
      intro x
      refine V_i2l dL_town_7 ?_
      refine V_lastT (j := 0) dL_town_8 rfl (by decide) (by decide) (by decide) ?_
      refine V_goto (tgt := 15) dL_town_9 (by decide) ?_
      refine V_iconst (v := 0) dL_town_15 rfl ?_
      exact V_ret (fun _ => hI1) (Or.inr (Or.inl ⟨rfl, _, rfl⟩)) dL_town_16 (fun ty x h1 h2 => by cases h1; rfl) rfl
    cases v with
    | none => exact V_none
    | some v => cases v <;> first | exact X _ | exact V_none
  · by_cases hk : k = 2
    · subst hk
      rw [show kt1 2 2 M1 = rI 1 M1 from rfl]
      refine vHan_1 rfl (by decide) (by decide) gcl2 gca2 (vSto_n dL_town_12 rfl (by decide)) ?_
      refine V_iconst (v := 1) dL_town_13 rfl ?_
      exact V_ret (fun _ => hI1) (Or.inr (Or.inl ⟨rfl, _, rfl⟩)) dL_town_14 (fun ty x h1 h2 => by cases h1; rfl) rfl
    · rw [show kt1 2 k M1 = none from if_neg hk]
      exact vHan_no
def fL_count (M : vM) (x1 : Int32) : Option (vR × vM) := vWi (fX10_count M x1) (kt1 1)
theorem cL_count_ok {l : Launch} {D : va_G} {dA : Nat → ClassId} (hT : l.stackTraces = false) (M : vM) (x1 : Int32) (hI : v_WT M.2.2) : Ct l D dA sL_count false 175 7 1 6 175 [.ref 0, .int x1, .ref 174] M (fL_count M x1) := by
  refine Ct_ofH (lv := [(0, .ref 0), (1, .int x1), (2, .ref 174)]) (by decide +kernel) (by decide) (Nat.le_of_ble_eq_true rfl) rfl ?_
  refine V_aload_n (k := 2) dL_count_0 rfl rfl ?_
  refine V_iconst (v := 0) dL_count_1 rfl ?_
  refine V_aload_n (k := 0) dL_count_2 rfl rfl ?_
  refine V_iload_n (k := 1) dL_count_3 rfl rfl ?_
  refine V_callHV (mc' := 1) (ms' := 6) (kc' := 0) (ks' := 0) (av := [.int x1]) (st0 := [.int 0, .ref 174]) (cls := 10) dL_count_4 lk_L_15 rfl (by decide) rfl rfl rfl (cX10_count_ok hT M x1 hI) rfl rfl (Nat.le_of_ble_eq_true rfl) (by decide) (by decide) (Nat.le_of_ble_eq_true rfl) (Nat.le_of_ble_eq_true rfl) (fun v M1 hf hI1 => ?_) (fun k M1 hf hI1 => ?_)
  · have X : ∀ x : Int32, V l D dA sL_count false 175 7 0 0 7 [(0, .ref 0), (1, .int x1), (2, .ref 174)] [.int x, .int 0, .ref 174] 175 M1 (rI 0 (v_sl M1 174 0 x.toInt64)) := by
      intro x
      refine V_i2l dL_count_7 ?_
      refine V_lastT (j := 0) dL_count_8 rfl (by decide) (by decide) (by decide) ?_
      refine V_goto (tgt := 15) dL_count_9 (by decide) ?_
      refine V_iconst (v := 0) dL_count_15 rfl ?_
      exact V_ret (fun _ => hI1) (Or.inr (Or.inl ⟨rfl, _, rfl⟩)) dL_count_16 (fun ty x h1 h2 => by cases h1; rfl) rfl
    cases v with
    | none => exact V_none
    | some v => cases v <;> first | exact X _ | exact V_none
  · by_cases hk : k = 1
    · subst hk
      rw [show kt1 1 1 M1 = rI 1 M1 from rfl]
      refine vHan_1 rfl (by decide) (by decide) gcl1 gca1 (vSto_n dL_count_12 rfl (by decide)) ?_
      refine V_iconst (v := 1) dL_count_13 rfl ?_
      exact V_ret (fun _ => hI1) (Or.inr (Or.inl ⟨rfl, _, rfl⟩)) dL_count_14 (fun ty x h1 h2 => by cases h1; rfl) rfl
    · rw [show kt1 1 k M1 = none from if_neg hk]
      exact vHan_no
def fL_work (M : vM) (x1 : Int32) (x2 : Int32) : Option (vR × vM) := vWi (fX10_work M x1 x2) (kt1 1)
theorem cL_work_ok {l : Launch} {D : va_G} {dA : Nat → ClassId} (hT : l.stackTraces = false) (M : vM) (x1 : Int32) (x2 : Int32) (hI : v_WT M.2.2) : Ct l D dA sL_work false 175 8 2 12 175 [.ref 0, .int x1, .int x2, .ref 174] M (fL_work M x1 x2) := by
  refine Ct_ofH (lv := [(0, .ref 0), (1, .int x1), (2, .int x2), (3, .ref 174)]) (by decide +kernel) (by decide) (Nat.le_of_ble_eq_true rfl) rfl ?_
  refine V_aload_n (k := 3) dL_work_0 rfl rfl ?_
  refine V_iconst (v := 0) dL_work_1 rfl ?_
  refine V_aload_n (k := 0) dL_work_2 rfl rfl ?_
  refine V_iload_n (k := 1) dL_work_3 rfl rfl ?_
  refine V_iload_n (k := 2) dL_work_4 rfl rfl ?_
  refine V_callHV (mc' := 2) (ms' := 12) (kc' := 0) (ks' := 0) (av := [.int x1, .int x2]) (st0 := [.int 0, .ref 174]) (cls := 10) dL_work_5 lk_L_20 rfl (by decide) rfl rfl rfl (cX10_work_ok hT M x1 x2 hI) rfl rfl (Nat.le_of_ble_eq_true rfl) (by decide) (by decide) (Nat.le_of_ble_eq_true rfl) (Nat.le_of_ble_eq_true rfl) (fun v M1 hf hI1 => ?_) (fun k M1 hf hI1 => ?_)
  · have X : ∀ x : Int32, V l D dA sL_work false 175 8 0 0 8 [(0, .ref 0), (1, .int x1), (2, .int x2), (3, .ref 174)] [.int x, .int 0, .ref 174] 175 M1 (rI 0 (v_sl M1 174 0 x.toInt64)) := by
      intro x
      refine V_i2l dL_work_8 ?_
      refine V_lastT (j := 0) dL_work_9 rfl (by decide) (by decide) (by decide) ?_
      refine V_goto (tgt := 17) dL_work_10 (by decide) ?_
      refine V_iconst (v := 0) dL_work_17 rfl ?_
      exact V_ret (fun _ => hI1) (Or.inr (Or.inl ⟨rfl, _, rfl⟩)) dL_work_18 (fun ty x h1 h2 => by cases h1; rfl) rfl
    cases v with
    | none => exact V_none
    | some v => cases v <;> first | exact X _ | exact V_none
  · by_cases hk : k = 1
    · subst hk
      rw [show kt1 1 1 M1 = rI 1 M1 from rfl]
      refine vHan_1 rfl (by decide) (by decide) gcl1 gca1 (vSto_w dL_work_13 (by decide)) ?_
      refine V_iconst (v := 1) dL_work_15 rfl ?_
      exact V_ret (fun _ => hI1) (Or.inr (Or.inl ⟨rfl, _, rfl⟩)) dL_work_16 (fun ty x h1 h2 => by cases h1; rfl) rfl
    · rw [show kt1 1 k M1 = none from if_neg hk]
      exact vHan_no
def fL_way (M : vM) (x1 : Int32) (x2 : Int32) (x3 : Int32) : Option (vR × vM) := vWi (fX10_way M x1 x2 x3) (kt1 1)
theorem cL_way_ok {l : Launch} {D : va_G} {dA : Nat → ClassId} (hT : l.stackTraces = false) (M : vM) (x1 : Int32) (x2 : Int32) (x3 : Int32) (hI : v_WT M.2.2) : Ct l D dA sL_way false 175 8 3 18 175 [.ref 0, .int x1, .int x2, .int x3, .ref 174] M (fL_way M x1 x2 x3) := by
  refine Ct_ofH (lv := [(0, .ref 0), (1, .int x1), (2, .int x2), (3, .int x3), (4, .ref 174)]) (by decide +kernel) (by decide) (Nat.le_of_ble_eq_true rfl) rfl ?_
  refine V_aload (k := 4) dL_way_0 rfl ?_
  refine V_iconst (v := 0) dL_way_2 rfl ?_
  refine V_aload_n (k := 0) dL_way_3 rfl rfl ?_
  refine V_iload_n (k := 1) dL_way_4 rfl rfl ?_
  refine V_iload_n (k := 2) dL_way_5 rfl rfl ?_
  refine V_iload_n (k := 3) dL_way_6 rfl rfl ?_
  refine V_callHV (mc' := 3) (ms' := 18) (kc' := 0) (ks' := 0) (av := [.int x1, .int x2, .int x3]) (st0 := [.int 0, .ref 174]) (cls := 10) dL_way_7 lk_L_24 rfl (by decide) rfl rfl rfl (cX10_way_ok hT M x1 x2 x3 hI) rfl rfl (Nat.le_of_ble_eq_true rfl) (by decide) (by decide) (Nat.le_of_ble_eq_true rfl) (Nat.le_of_ble_eq_true rfl) (fun v M1 hf hI1 => ?_) (fun k M1 hf hI1 => ?_)
  · have X : ∀ x : Int32, V l D dA sL_way false 175 8 0 0 10 [(0, .ref 0), (1, .int x1), (2, .int x2), (3, .int x3), (4, .ref 174)] [.int x, .int 0, .ref 174] 175 M1 (rI 0 (v_sl M1 174 0 x.toInt64)) := by
      intro x
      refine V_i2l dL_way_10 ?_
      refine V_lastT (j := 0) dL_way_11 rfl (by decide) (by decide) (by decide) ?_
      refine V_goto (tgt := 19) dL_way_12 (by decide) ?_
      refine V_iconst (v := 0) dL_way_19 rfl ?_
      exact V_ret (fun _ => hI1) (Or.inr (Or.inl ⟨rfl, _, rfl⟩)) dL_way_20 (fun ty x h1 h2 => by cases h1; rfl) rfl
    cases v with
    | none => exact V_none
    | some v => cases v <;> first | exact X _ | exact V_none
  · by_cases hk : k = 1
    · subst hk
      rw [show kt1 1 1 M1 = rI 1 M1 from rfl]
      refine vHan_1 rfl (by decide) (by decide) gcl1 gca1 (vSto_w dL_way_15 (by decide)) ?_
      refine V_iconst (v := 1) dL_way_17 rfl ?_
      exact V_ret (fun _ => hI1) (Or.inr (Or.inl ⟨rfl, _, rfl⟩)) dL_way_18 (fun ty x h1 h2 => by cases h1; rfl) rfl
    · rw [show kt1 1 k M1 = none from if_neg hk]
      exact vHan_no
def fL_find (M : vM) (x1 : Int32) (x2 : Int32) : Option (vR × vM) := vWi (fX10_find M x1 x2) (kt1 1)
theorem cL_find_ok {l : Launch} {D : va_G} {dA : Nat → ClassId} (hT : l.stackTraces = false) (M : vM) (x1 : Int32) (x2 : Int32) (hI : v_WT M.2.2) : Ct l D dA sL_find false 175 8 1 6 175 [.ref 0, .int x1, .int x2, .ref 174] M (fL_find M x1 x2) := by
  refine Ct_ofH (lv := [(0, .ref 0), (1, .int x1), (2, .int x2), (3, .ref 174)]) (by decide +kernel) (by decide) (Nat.le_of_ble_eq_true rfl) rfl ?_
  refine V_aload_n (k := 3) dL_find_0 rfl rfl ?_
  refine V_iconst (v := 0) dL_find_1 rfl ?_
  refine V_aload_n (k := 0) dL_find_2 rfl rfl ?_
  refine V_iload_n (k := 1) dL_find_3 rfl rfl ?_
  refine V_iload_n (k := 2) dL_find_4 rfl rfl ?_
  refine V_callHV (mc' := 1) (ms' := 6) (kc' := 0) (ks' := 0) (av := [.int x1, .int x2]) (st0 := [.int 0, .ref 174]) (cls := 10) dL_find_5 lk_L_28 rfl (by decide) rfl rfl rfl (cX10_find_ok hT M x1 x2 hI) rfl rfl (Nat.le_of_ble_eq_true rfl) (by decide) (by decide) (Nat.le_of_ble_eq_true rfl) (Nat.le_of_ble_eq_true rfl) (fun v M1 hf hI1 => ?_) (fun k M1 hf hI1 => ?_)
  · have X : ∀ x : Int32, V l D dA sL_find false 175 8 0 0 8 [(0, .ref 0), (1, .int x1), (2, .int x2), (3, .ref 174)] [.int x, .int 0, .ref 174] 175 M1 (rI 0 (v_sl M1 174 0 x.toInt64)) := by
      intro x
      refine V_i2l dL_find_8 ?_
      refine V_lastT (j := 0) dL_find_9 rfl (by decide) (by decide) (by decide) ?_
      refine V_goto (tgt := 17) dL_find_10 (by decide) ?_
      refine V_iconst (v := 0) dL_find_17 rfl ?_
      exact V_ret (fun _ => hI1) (Or.inr (Or.inl ⟨rfl, _, rfl⟩)) dL_find_18 (fun ty x h1 h2 => by cases h1; rfl) rfl
    cases v with
    | none => exact V_none
    | some v => cases v <;> first | exact X _ | exact V_none
  · by_cases hk : k = 1
    · subst hk
      rw [show kt1 1 1 M1 = rI 1 M1 from rfl]
      refine vHan_1 rfl (by decide) (by decide) gcl1 gca1 (vSto_w dL_find_13 (by decide)) ?_
      refine V_iconst (v := 1) dL_find_15 rfl ?_
      exact V_ret (fun _ => hI1) (Or.inr (Or.inl ⟨rfl, _, rfl⟩)) dL_find_16 (fun ty x h1 h2 => by cases h1; rfl) rfl
    · rw [show kt1 1 k M1 = none from if_neg hk]
      exact vHan_no
def fL_same (M : vM) (x1 : Int32) (x2 : Int32) (x3 : Int32) (x4 : Int32) : Option (vR × vM) := vWi (fX10_same M x1 x2 x3 x4) (kt1 1)
theorem cL_same_ok {l : Launch} {D : va_G} {dA : Nat → ClassId} (hT : l.stackTraces = false) (M : vM) (x1 : Int32) (x2 : Int32) (x3 : Int32) (x4 : Int32) (hI : v_WT M.2.2) : Ct l D dA sL_same false 175 8 4 24 175 [.ref 0, .int x1, .int x2, .int x3, .int x4, .ref 174] M (fL_same M x1 x2 x3 x4) := by
  refine Ct_ofH (lv := [(0, .ref 0), (1, .int x1), (2, .int x2), (3, .int x3), (4, .int x4), (5, .ref 174)]) (by decide +kernel) (by decide) (Nat.le_of_ble_eq_true rfl) rfl ?_
  refine V_aload (k := 5) dL_same_0 rfl ?_
  refine V_iconst (v := 0) dL_same_2 rfl ?_
  refine V_aload_n (k := 0) dL_same_3 rfl rfl ?_
  refine V_iload_n (k := 1) dL_same_4 rfl rfl ?_
  refine V_iload_n (k := 2) dL_same_5 rfl rfl ?_
  refine V_iload_n (k := 3) dL_same_6 rfl rfl ?_
  refine V_iload (k := 4) dL_same_7 rfl ?_
  refine V_callHV (mc' := 4) (ms' := 24) (kc' := 0) (ks' := 0) (av := [.int x1, .int x2, .int x3, .int x4]) (st0 := [.int 0, .ref 174]) (cls := 10) dL_same_9 lk_L_31 rfl (by decide) rfl rfl rfl (cX10_same_ok hT M x1 x2 x3 x4 hI) rfl rfl (Nat.le_of_ble_eq_true rfl) (by decide) (by decide) (Nat.le_of_ble_eq_true rfl) (Nat.le_of_ble_eq_true rfl) (fun v M1 hf hI1 => ?_) (fun k M1 hf hI1 => ?_)
  · have X : ∀ x : Int32, V l D dA sL_same false 175 8 0 0 12 [(0, .ref 0), (1, .int x1), (2, .int x2), (3, .int x3), (4, .int x4), (5, .ref 174)] [.int x, .int 0, .ref 174] 175 M1 (rI 0 (v_sl M1 174 0 x.toInt64)) := by
      intro x
      refine V_i2l dL_same_12 ?_
      refine V_lastT (j := 0) dL_same_13 rfl (by decide) (by decide) (by decide) ?_
      refine V_goto (tgt := 21) dL_same_14 (by decide) ?_
      refine V_iconst (v := 0) dL_same_21 rfl ?_
      exact V_ret (fun _ => hI1) (Or.inr (Or.inl ⟨rfl, _, rfl⟩)) dL_same_22 (fun ty x h1 h2 => by cases h1; rfl) rfl
    cases v with
    | none => exact V_none
    | some v => cases v <;> first | exact X _ | exact V_none
  · by_cases hk : k = 1
    · subst hk
      rw [show kt1 1 1 M1 = rI 1 M1 from rfl]
      refine vHan_1 rfl (by decide) (by decide) gcl1 gca1 (vSto_w dL_same_17 (by decide)) ?_
      refine V_iconst (v := 1) dL_same_19 rfl ?_
      exact V_ret (fun _ => hI1) (Or.inr (Or.inl ⟨rfl, _, rfl⟩)) dL_same_20 (fun ty x h1 h2 => by cases h1; rfl) rfl
    · rw [show kt1 1 k M1 = none from if_neg hk]
      exact vHan_no
def fL_done (M : vM) (x1 : Int32) (x2 : Int32) : Option (vR × vM) := vWz (fX10_done M x1 x2) (kt1 1)
theorem cL_done_ok {l : Launch} {D : va_G} {dA : Nat → ClassId} (hT : l.stackTraces = false) (M : vM) (x1 : Int32) (x2 : Int32) (hI : v_WT M.2.2) : Ct l D dA sL_done false 175 8 2 12 175 [.ref 0, .int x1, .int x2, .ref 174] M (fL_done M x1 x2) := by
  refine Ct_ofH (lv := [(0, .ref 0), (1, .int x1), (2, .int x2), (3, .ref 174)]) (by decide +kernel) (by decide) (Nat.le_of_ble_eq_true rfl) rfl ?_
  refine V_aload_n (k := 3) dL_done_0 rfl rfl ?_
  refine V_iconst (v := 0) dL_done_1 rfl ?_
  refine V_aload_n (k := 0) dL_done_2 rfl rfl ?_
  refine V_iload_n (k := 1) dL_done_3 rfl rfl ?_
  refine V_iload_n (k := 2) dL_done_4 rfl rfl ?_
  refine V_callHV (mc' := 2) (ms' := 12) (kc' := 0) (ks' := 0) (av := [.int x1, .int x2]) (st0 := [.int 0, .ref 174]) (cls := 10) dL_done_5 lk_L_35 rfl (by decide) rfl rfl rfl (cX10_done_ok hT M x1 x2 hI) rfl rfl (Nat.le_of_ble_eq_true rfl) (by decide) (by decide) (Nat.le_of_ble_eq_true rfl) (Nat.le_of_ble_eq_true rfl) (fun v M1 hf hI1 => ?_) (fun k M1 hf hI1 => ?_)
  · have X : ∀ x : Int32, V l D dA sL_done false 175 8 0 0 8 [(0, .ref 0), (1, .int x1), (2, .int x2), (3, .ref 174)] [.int x, .int 0, .ref 174] 175 M1 (if x = 0 then rI 0 (v_sl M1 174 0 0) else rI 0 (v_sl M1 174 0 1)) := by
      intro x
      refine V_ifeq (tgt := 15) dL_done_8 (by decide) (fun h => ?_) (fun h => ?_)
      · refine V_lconst (v := 0) dL_done_15 rfl ?_
        refine V_lastT (j := 0) dL_done_16 rfl (by decide) (by decide) (by decide) ?_
        refine V_goto (tgt := 24) dL_done_17 (by decide) ?_
        refine V_iconst (v := 0) dL_done_24 rfl ?_
        exact V_ret (fun _ => hI1) (Or.inr (Or.inl ⟨rfl, _, rfl⟩)) dL_done_25 (fun ty x h1 h2 => by cases h1; rfl) rfl
      · refine V_lconst (v := 1) dL_done_11 rfl ?_
        refine V_goto (tgt := 16) dL_done_12 (by decide) ?_
        refine V_lastT (j := 0) dL_done_16 rfl (by decide) (by decide) (by decide) ?_
        refine V_goto (tgt := 24) dL_done_17 (by decide) ?_
        refine V_iconst (v := 0) dL_done_24 rfl ?_
        exact V_ret (fun _ => hI1) (Or.inr (Or.inl ⟨rfl, _, rfl⟩)) dL_done_25 (fun ty x h1 h2 => by cases h1; rfl) rfl
    cases v with
    | none => exact V_none
    | some v => cases v <;> first | exact X _ | exact V_none
  · by_cases hk : k = 1
    · subst hk
      rw [show kt1 1 1 M1 = rI 1 M1 from rfl]
      refine vHan_1 rfl (by decide) (by decide) gcl1 gca1 (vSto_w dL_done_20 (by decide)) ?_
      refine V_iconst (v := 1) dL_done_22 rfl ?_
      exact V_ret (fun _ => hI1) (Or.inr (Or.inl ⟨rfl, _, rfl⟩)) dL_done_23 (fun ty x h1 h2 => by cases h1; rfl) rfl
    · rw [show kt1 1 k M1 = none from if_neg hk]
      exact vHan_no
def fL_book (M : vM) (x1 : Int32) (x2 : Int32) : Option (vR × vM) := vWi (fX10_book M x1 x2) (kt1 1)
theorem cL_book_ok {l : Launch} {D : va_G} {dA : Nat → ClassId} (hT : l.stackTraces = false) (M : vM) (x1 : Int32) (x2 : Int32) (hI : v_WT M.2.2) : Ct l D dA sL_book false 175 8 2 12 175 [.ref 0, .int x1, .int x2, .ref 174] M (fL_book M x1 x2) := by
  refine Ct_ofH (lv := [(0, .ref 0), (1, .int x1), (2, .int x2), (3, .ref 174)]) (by decide +kernel) (by decide) (Nat.le_of_ble_eq_true rfl) rfl ?_
  refine V_aload_n (k := 3) dL_book_0 rfl rfl ?_
  refine V_iconst (v := 0) dL_book_1 rfl ?_
  refine V_aload_n (k := 0) dL_book_2 rfl rfl ?_
  refine V_iload_n (k := 1) dL_book_3 rfl rfl ?_
  refine V_iload_n (k := 2) dL_book_4 rfl rfl ?_
  refine V_callHV (mc' := 2) (ms' := 12) (kc' := 0) (ks' := 0) (av := [.int x1, .int x2]) (st0 := [.int 0, .ref 174]) (cls := 10) dL_book_5 lk_L_39 rfl (by decide) rfl rfl rfl (cX10_book_ok hT M x1 x2 hI) rfl rfl (Nat.le_of_ble_eq_true rfl) (by decide) (by decide) (Nat.le_of_ble_eq_true rfl) (Nat.le_of_ble_eq_true rfl) (fun v M1 hf hI1 => ?_) (fun k M1 hf hI1 => ?_)
  · have X : ∀ x : Int32, V l D dA sL_book false 175 8 0 0 8 [(0, .ref 0), (1, .int x1), (2, .int x2), (3, .ref 174)] [.int x, .int 0, .ref 174] 175 M1 (rI 0 (v_sl M1 174 0 x.toInt64)) := by
      intro x
      refine V_i2l dL_book_8 ?_
      refine V_lastT (j := 0) dL_book_9 rfl (by decide) (by decide) (by decide) ?_
      refine V_goto (tgt := 17) dL_book_10 (by decide) ?_
      refine V_iconst (v := 0) dL_book_17 rfl ?_
      exact V_ret (fun _ => hI1) (Or.inr (Or.inl ⟨rfl, _, rfl⟩)) dL_book_18 (fun ty x h1 h2 => by cases h1; rfl) rfl
    cases v with
    | none => exact V_none
    | some v => cases v <;> first | exact X _ | exact V_none
  · by_cases hk : k = 1
    · subst hk
      rw [show kt1 1 1 M1 = rI 1 M1 from rfl]
      refine vHan_1 rfl (by decide) (by decide) gcl1 gca1 (vSto_w dL_book_13 (by decide)) ?_
      refine V_iconst (v := 1) dL_book_15 rfl ?_
      exact V_ret (fun _ => hI1) (Or.inr (Or.inl ⟨rfl, _, rfl⟩)) dL_book_16 (fun ty x h1 h2 => by cases h1; rfl) rfl
    · rw [show kt1 1 k M1 = none from if_neg hk]
      exact vHan_no
def fL_left (M : vM) (x1 : Int32) (x2 : Int32) : Option (vR × vM) := vWi (fX10_left M x1 x2) (kt1 1)
theorem cL_left_ok {l : Launch} {D : va_G} {dA : Nat → ClassId} (hT : l.stackTraces = false) (M : vM) (x1 : Int32) (x2 : Int32) (hI : v_WT M.2.2) : Ct l D dA sL_left false 175 8 2 12 175 [.ref 0, .int x1, .int x2, .ref 174] M (fL_left M x1 x2) := by
  refine Ct_ofH (lv := [(0, .ref 0), (1, .int x1), (2, .int x2), (3, .ref 174)]) (by decide +kernel) (by decide) (Nat.le_of_ble_eq_true rfl) rfl ?_
  refine V_aload_n (k := 3) dL_left_0 rfl rfl ?_
  refine V_iconst (v := 0) dL_left_1 rfl ?_
  refine V_aload_n (k := 0) dL_left_2 rfl rfl ?_
  refine V_iload_n (k := 1) dL_left_3 rfl rfl ?_
  refine V_iload_n (k := 2) dL_left_4 rfl rfl ?_
  refine V_callHV (mc' := 2) (ms' := 12) (kc' := 0) (ks' := 0) (av := [.int x1, .int x2]) (st0 := [.int 0, .ref 174]) (cls := 10) dL_left_5 lk_L_42 rfl (by decide) rfl rfl rfl (cX10_left_ok hT M x1 x2 hI) rfl rfl (Nat.le_of_ble_eq_true rfl) (by decide) (by decide) (Nat.le_of_ble_eq_true rfl) (Nat.le_of_ble_eq_true rfl) (fun v M1 hf hI1 => ?_) (fun k M1 hf hI1 => ?_)
  · have X : ∀ x : Int32, V l D dA sL_left false 175 8 0 0 8 [(0, .ref 0), (1, .int x1), (2, .int x2), (3, .ref 174)] [.int x, .int 0, .ref 174] 175 M1 (rI 0 (v_sl M1 174 0 x.toInt64)) := by
      intro x
      refine V_i2l dL_left_8 ?_
      refine V_lastT (j := 0) dL_left_9 rfl (by decide) (by decide) (by decide) ?_
      refine V_goto (tgt := 17) dL_left_10 (by decide) ?_
      refine V_iconst (v := 0) dL_left_17 rfl ?_
      exact V_ret (fun _ => hI1) (Or.inr (Or.inl ⟨rfl, _, rfl⟩)) dL_left_18 (fun ty x h1 h2 => by cases h1; rfl) rfl
    cases v with
    | none => exact V_none
    | some v => cases v <;> first | exact X _ | exact V_none
  · by_cases hk : k = 1
    · subst hk
      rw [show kt1 1 1 M1 = rI 1 M1 from rfl]
      refine vHan_1 rfl (by decide) (by decide) gcl1 gca1 (vSto_w dL_left_13 (by decide)) ?_
      refine V_iconst (v := 1) dL_left_15 rfl ?_
      exact V_ret (fun _ => hI1) (Or.inr (Or.inl ⟨rfl, _, rfl⟩)) dL_left_16 (fun ty x h1 h2 => by cases h1; rfl) rfl
    · rw [show kt1 1 k M1 = none from if_neg hk]
      exact vHan_no
def fL_tell (M : vM) (x1 : Int32) (x2 : Int32) : Option (vR × vM) := vWi (fX10_tell M x1 x2) (kt1 1)
theorem cL_tell_ok {l : Launch} {D : va_G} {dA : Nat → ClassId} (hT : l.stackTraces = false) (M : vM) (x1 : Int32) (x2 : Int32) (hI : v_WT M.2.2) : Ct l D dA sL_tell false 175 8 1 6 175 [.ref 0, .int x1, .int x2, .ref 174] M (fL_tell M x1 x2) := by
  refine Ct_ofH (lv := [(0, .ref 0), (1, .int x1), (2, .int x2), (3, .ref 174)]) (by decide +kernel) (by decide) (Nat.le_of_ble_eq_true rfl) rfl ?_
  refine V_aload_n (k := 3) dL_tell_0 rfl rfl ?_
  refine V_iconst (v := 0) dL_tell_1 rfl ?_
  refine V_aload_n (k := 0) dL_tell_2 rfl rfl ?_
  refine V_iload_n (k := 1) dL_tell_3 rfl rfl ?_
  refine V_iload_n (k := 2) dL_tell_4 rfl rfl ?_
  refine V_callHV (mc' := 1) (ms' := 6) (kc' := 0) (ks' := 0) (av := [.int x1, .int x2]) (st0 := [.int 0, .ref 174]) (cls := 10) dL_tell_5 lk_L_45 rfl (by decide) rfl rfl rfl (cX10_tell_ok hT M x1 x2 hI) rfl rfl (Nat.le_of_ble_eq_true rfl) (by decide) (by decide) (Nat.le_of_ble_eq_true rfl) (Nat.le_of_ble_eq_true rfl) (fun v M1 hf hI1 => ?_) (fun k M1 hf hI1 => ?_)
  · have X : ∀ x : Int32, V l D dA sL_tell false 175 8 0 0 8 [(0, .ref 0), (1, .int x1), (2, .int x2), (3, .ref 174)] [.int x, .int 0, .ref 174] 175 M1 (rI 0 (v_sl M1 174 0 x.toInt64)) := by
      intro x
      refine V_i2l dL_tell_8 ?_
      refine V_lastT (j := 0) dL_tell_9 rfl (by decide) (by decide) (by decide) ?_
      refine V_goto (tgt := 17) dL_tell_10 (by decide) ?_
      refine V_iconst (v := 0) dL_tell_17 rfl ?_
      exact V_ret (fun _ => hI1) (Or.inr (Or.inl ⟨rfl, _, rfl⟩)) dL_tell_18 (fun ty x h1 h2 => by cases h1; rfl) rfl
    cases v with
    | none => exact V_none
    | some v => cases v <;> first | exact X _ | exact V_none
  · by_cases hk : k = 1
    · subst hk
      rw [show kt1 1 1 M1 = rI 1 M1 from rfl]
      refine vHan_1 rfl (by decide) (by decide) gcl1 gca1 (vSto_w dL_tell_13 (by decide)) ?_
      refine V_iconst (v := 1) dL_tell_15 rfl ?_
      exact V_ret (fun _ => hI1) (Or.inr (Or.inl ⟨rfl, _, rfl⟩)) dL_tell_16 (fun ty x h1 h2 => by cases h1; rfl) rfl
    · rw [show kt1 1 k M1 = none from if_neg hk]
      exact vHan_no
def fL_judge (M : vM) (x1 : Int32) (x2 : Int32) : Option (vR × vM) := vWi (fX10_judge M x1 x2) (kt1 1)
theorem cL_judge_ok {l : Launch} {D : va_G} {dA : Nat → ClassId} (hT : l.stackTraces = false) (M : vM) (x1 : Int32) (x2 : Int32) (hI : v_WT M.2.2) : Ct l D dA sL_judge false 175 8 2 12 175 [.ref 0, .int x1, .int x2, .ref 174] M (fL_judge M x1 x2) := by
  refine Ct_ofH (lv := [(0, .ref 0), (1, .int x1), (2, .int x2), (3, .ref 174)]) (by decide +kernel) (by decide) (Nat.le_of_ble_eq_true rfl) rfl ?_
  refine V_aload_n (k := 3) dL_judge_0 rfl rfl ?_
  refine V_iconst (v := 0) dL_judge_1 rfl ?_
  refine V_aload_n (k := 0) dL_judge_2 rfl rfl ?_
  refine V_iload_n (k := 1) dL_judge_3 rfl rfl ?_
  refine V_iload_n (k := 2) dL_judge_4 rfl rfl ?_
  refine V_callHV (mc' := 2) (ms' := 12) (kc' := 0) (ks' := 0) (av := [.int x1, .int x2]) (st0 := [.int 0, .ref 174]) (cls := 10) dL_judge_5 lk_L_48 rfl (by decide) rfl rfl rfl (cX10_judge_ok hT M x1 x2 hI) rfl rfl (Nat.le_of_ble_eq_true rfl) (by decide) (by decide) (Nat.le_of_ble_eq_true rfl) (Nat.le_of_ble_eq_true rfl) (fun v M1 hf hI1 => ?_) (fun k M1 hf hI1 => ?_)
  · have X : ∀ x : Int32, V l D dA sL_judge false 175 8 0 0 8 [(0, .ref 0), (1, .int x1), (2, .int x2), (3, .ref 174)] [.int x, .int 0, .ref 174] 175 M1 (rI 0 (v_sl M1 174 0 x.toInt64)) := by
      intro x
      refine V_i2l dL_judge_8 ?_
      refine V_lastT (j := 0) dL_judge_9 rfl (by decide) (by decide) (by decide) ?_
      refine V_goto (tgt := 17) dL_judge_10 (by decide) ?_
      refine V_iconst (v := 0) dL_judge_17 rfl ?_
      exact V_ret (fun _ => hI1) (Or.inr (Or.inl ⟨rfl, _, rfl⟩)) dL_judge_18 (fun ty x h1 h2 => by cases h1; rfl) rfl
    cases v with
    | none => exact V_none
    | some v => cases v <;> first | exact X _ | exact V_none
  · by_cases hk : k = 1
    · subst hk
      rw [show kt1 1 1 M1 = rI 1 M1 from rfl]
      refine vHan_1 rfl (by decide) (by decide) gcl1 gca1 (vSto_w dL_judge_13 (by decide)) ?_
      refine V_iconst (v := 1) dL_judge_15 rfl ?_
      exact V_ret (fun _ => hI1) (Or.inr (Or.inl ⟨rfl, _, rfl⟩)) dL_judge_16 (fun ty x h1 h2 => by cases h1; rfl) rfl
    · rw [show kt1 1 k M1 = none from if_neg hk]
      exact vHan_no
def fL_apart (M : vM) (x1 : Int32) (x2 : Int32) (x3 : Int32) : Option (vR × vM) := vWi (fX10_apart M x1 x2 x3) (kt2)
theorem cL_apart_ok {l : Launch} {D : va_G} {dA : Nat → ClassId} (hT : l.stackTraces = false) (M : vM) (x1 : Int32) (x2 : Int32) (x3 : Int32) (hI : v_WT M.2.2) : Ct l D dA sL_apart false 175 21 3 18 175 [.ref 0, .int x1, .int x2, .int x3, .ref 174] M (fL_apart M x1 x2 x3) := by
  refine Ct_ofH (lv := [(0, .ref 0), (1, .int x1), (2, .int x2), (3, .int x3), (4, .ref 174)]) (by decide +kernel) (by decide) (Nat.le_of_ble_eq_true rfl) rfl ?_
  refine V_aload (k := 4) dL_apart_0 rfl ?_
  refine V_iconst (v := 0) dL_apart_2 rfl ?_
  refine V_aload_n (k := 0) dL_apart_3 rfl rfl ?_
  refine V_iload_n (k := 1) dL_apart_4 rfl rfl ?_
  refine V_iload_n (k := 2) dL_apart_5 rfl rfl ?_
  refine V_iload_n (k := 3) dL_apart_6 rfl rfl ?_
  refine V_callHV (mc' := 3) (ms' := 18) (kc' := 0) (ks' := 0) (av := [.int x1, .int x2, .int x3]) (st0 := [.int 0, .ref 174]) (cls := 10) dL_apart_7 lk_L_51 rfl (by decide) rfl rfl rfl (cX10_apart_ok hT M x1 x2 x3 hI) rfl rfl (Nat.le_of_ble_eq_true rfl) (by decide) (by decide) (Nat.le_of_ble_eq_true rfl) (Nat.le_of_ble_eq_true rfl) (fun v M1 hf hI1 => ?_) (fun k M1 hf hI1 => ?_)
  · have X : ∀ x : Int32, V l D dA sL_apart false 175 21 0 0 10 [(0, .ref 0), (1, .int x1), (2, .int x2), (3, .int x3), (4, .ref 174)] [.int x, .int 0, .ref 174] 175 M1 (rI 0 (v_sl M1 174 0 x.toInt64)) := by
      intro x
      refine V_i2l dL_apart_10 ?_
      refine V_lastT (j := 0) dL_apart_11 rfl (by decide) (by decide) (by decide) ?_
      refine V_goto (tgt := 23) dL_apart_12 (by decide) ?_
      refine V_iconst (v := 0) dL_apart_23 rfl ?_
      exact V_ret (fun _ => hI1) (Or.inr (Or.inl ⟨rfl, _, rfl⟩)) dL_apart_24 (fun ty x h1 h2 => by cases h1; rfl) rfl
    cases v with
    | none => exact V_none
    | some v => cases v <;> first | exact X _ | exact V_none
  · by_cases hk : k = 1
    · subst hk
      rw [show kt2 1 M1 = rI 1 M1 from rfl]
      refine vHan_21 rfl (by decide) (by decide) gcl1 gca1 (vSto_w dL_apart_15 (by decide)) ?_
      refine V_iconst (v := 1) dL_apart_17 rfl ?_
      exact V_ret (fun _ => hI1) (Or.inr (Or.inl ⟨rfl, _, rfl⟩)) dL_apart_18 (fun ty x h1 h2 => by cases h1; rfl) rfl
    · by_cases hk2 : k = 2
      · subst hk2
        rw [show kt2 2 M1 = rI 2 M1 from rfl]
        refine vHan_22 rfl (by decide) (by decide) (by decide) v_exn2 gcl1' gcl2 gca2 (vSto_w dL_apart_19 (by decide)) ?_
        refine V_iconst (v := 2) dL_apart_21 rfl ?_
        exact V_ret (fun _ => hI1) (Or.inr (Or.inl ⟨rfl, _, rfl⟩)) dL_apart_22 (fun ty x h1 h2 => by cases h1; rfl) rfl
      · rw [show kt2 k M1 = none from (if_neg hk).trans (if_neg hk2)]
        exact vHan_no
def fL_years (M : vM) (x1 : Int32) (x2 : Int32) (x3 : Int32) : Option (vR × vM) := vWi (fX10_years M x1 x2 x3) (kt2)
theorem cL_years_ok {l : Launch} {D : va_G} {dA : Nat → ClassId} (hT : l.stackTraces = false) (M : vM) (x1 : Int32) (x2 : Int32) (x3 : Int32) (hI : v_WT M.2.2) : Ct l D dA sL_years false 175 8 3 18 175 [.ref 0, .int x1, .int x2, .int x3, .ref 174] M (fL_years M x1 x2 x3) := by
  refine Ct_ofH (lv := [(0, .ref 0), (1, .int x1), (2, .int x2), (3, .int x3), (4, .ref 174)]) (by decide +kernel) (by decide) (Nat.le_of_ble_eq_true rfl) rfl ?_
  refine V_aload (k := 4) dL_years_0 rfl ?_
  refine V_iconst (v := 0) dL_years_2 rfl ?_
  refine V_aload_n (k := 0) dL_years_3 rfl rfl ?_
  refine V_iload_n (k := 1) dL_years_4 rfl rfl ?_
  refine V_iload_n (k := 2) dL_years_5 rfl rfl ?_
  refine V_iload_n (k := 3) dL_years_6 rfl rfl ?_
  refine V_callHV (mc' := 3) (ms' := 18) (kc' := 0) (ks' := 0) (av := [.int x1, .int x2, .int x3]) (st0 := [.int 0, .ref 174]) (cls := 10) dL_years_7 lk_L_54 rfl (by decide) rfl rfl rfl (cX10_years_ok hT M x1 x2 x3 hI) rfl rfl (Nat.le_of_ble_eq_true rfl) (by decide) (by decide) (Nat.le_of_ble_eq_true rfl) (Nat.le_of_ble_eq_true rfl) (fun v M1 hf hI1 => ?_) (fun k M1 hf hI1 => ?_)
  · have X : ∀ x : Int32, V l D dA sL_years false 175 8 0 0 10 [(0, .ref 0), (1, .int x1), (2, .int x2), (3, .int x3), (4, .ref 174)] [.int x, .int 0, .ref 174] 175 M1 (rI 0 (v_sl M1 174 0 x.toInt64)) := by
      intro x
      refine V_i2l dL_years_10 ?_
      refine V_lastT (j := 0) dL_years_11 rfl (by decide) (by decide) (by decide) ?_
      refine V_goto (tgt := 23) dL_years_12 (by decide) ?_
      refine V_iconst (v := 0) dL_years_23 rfl ?_
      exact V_ret (fun _ => hI1) (Or.inr (Or.inl ⟨rfl, _, rfl⟩)) dL_years_24 (fun ty x h1 h2 => by cases h1; rfl) rfl
    cases v with
    | none => exact V_none
    | some v => cases v <;> first | exact X _ | exact V_none
  · by_cases hk : k = 1
    · subst hk
      rw [show kt2 1 M1 = rI 1 M1 from rfl]
      refine vHan_21 rfl (by decide) (by decide) gcl1 gca1 (vSto_w dL_years_15 (by decide)) ?_
      refine V_iconst (v := 1) dL_years_17 rfl ?_
      exact V_ret (fun _ => hI1) (Or.inr (Or.inl ⟨rfl, _, rfl⟩)) dL_years_18 (fun ty x h1 h2 => by cases h1; rfl) rfl
    · by_cases hk2 : k = 2
      · subst hk2
        rw [show kt2 2 M1 = rI 2 M1 from rfl]
        refine vHan_22 rfl (by decide) (by decide) (by decide) v_exn2 gcl1' gcl2 gca2 (vSto_w dL_years_19 (by decide)) ?_
        refine V_iconst (v := 2) dL_years_21 rfl ?_
        exact V_ret (fun _ => hI1) (Or.inr (Or.inl ⟨rfl, _, rfl⟩)) dL_years_22 (fun ty x h1 h2 => by cases h1; rfl) rfl
      · rw [show kt2 k M1 = none from (if_neg hk).trans (if_neg hk2)]
        exact vHan_no
def fL_lasts (M : vM) (x1 : Int32) (x2 : Int32) : Option (vR × vM) := vWi (fX10_lasts M x1 x2) (kt1 1)
theorem cL_lasts_ok {l : Launch} {D : va_G} {dA : Nat → ClassId} (hT : l.stackTraces = false) (M : vM) (x1 : Int32) (x2 : Int32) (hI : v_WT M.2.2) : Ct l D dA sL_lasts false 175 8 2 12 175 [.ref 0, .int x1, .int x2, .ref 174] M (fL_lasts M x1 x2) := by
  refine Ct_ofH (lv := [(0, .ref 0), (1, .int x1), (2, .int x2), (3, .ref 174)]) (by decide +kernel) (by decide) (Nat.le_of_ble_eq_true rfl) rfl ?_
  refine V_aload_n (k := 3) dL_lasts_0 rfl rfl ?_
  refine V_iconst (v := 0) dL_lasts_1 rfl ?_
  refine V_aload_n (k := 0) dL_lasts_2 rfl rfl ?_
  refine V_iload_n (k := 1) dL_lasts_3 rfl rfl ?_
  refine V_iload_n (k := 2) dL_lasts_4 rfl rfl ?_
  refine V_callHV (mc' := 2) (ms' := 12) (kc' := 0) (ks' := 0) (av := [.int x1, .int x2]) (st0 := [.int 0, .ref 174]) (cls := 10) dL_lasts_5 lk_L_57 rfl (by decide) rfl rfl rfl (cX10_lasts_ok hT M x1 x2 hI) rfl rfl (Nat.le_of_ble_eq_true rfl) (by decide) (by decide) (Nat.le_of_ble_eq_true rfl) (Nat.le_of_ble_eq_true rfl) (fun v M1 hf hI1 => ?_) (fun k M1 hf hI1 => ?_)
  · have X : ∀ x : Int32, V l D dA sL_lasts false 175 8 0 0 8 [(0, .ref 0), (1, .int x1), (2, .int x2), (3, .ref 174)] [.int x, .int 0, .ref 174] 175 M1 (rI 0 (v_sl M1 174 0 x.toInt64)) := by
      intro x
      refine V_i2l dL_lasts_8 ?_
      refine V_lastT (j := 0) dL_lasts_9 rfl (by decide) (by decide) (by decide) ?_
      refine V_goto (tgt := 17) dL_lasts_10 (by decide) ?_
      refine V_iconst (v := 0) dL_lasts_17 rfl ?_
      exact V_ret (fun _ => hI1) (Or.inr (Or.inl ⟨rfl, _, rfl⟩)) dL_lasts_18 (fun ty x h1 h2 => by cases h1; rfl) rfl
    cases v with
    | none => exact V_none
    | some v => cases v <;> first | exact X _ | exact V_none
  · by_cases hk : k = 1
    · subst hk
      rw [show kt1 1 1 M1 = rI 1 M1 from rfl]
      refine vHan_1 rfl (by decide) (by decide) gcl1 gca1 (vSto_w dL_lasts_13 (by decide)) ?_
      refine V_iconst (v := 1) dL_lasts_15 rfl ?_
      exact V_ret (fun _ => hI1) (Or.inr (Or.inl ⟨rfl, _, rfl⟩)) dL_lasts_16 (fun ty x h1 h2 => by cases h1; rfl) rfl
    · rw [show kt1 1 k M1 = none from if_neg hk]
      exact vHan_no
def fL_chance (M : vM) (x1 : Int32) (x2 : Int32) (x3 : Int32) : Option (vR × vM) := vWi (fX10_chance M x1 x2 x3) (kt2)
theorem cL_chance_ok {l : Launch} {D : va_G} {dA : Nat → ClassId} (hT : l.stackTraces = false) (M : vM) (x1 : Int32) (x2 : Int32) (x3 : Int32) (hI : v_WT M.2.2) : Ct l D dA sL_chance false 175 8 3 18 175 [.ref 0, .int x1, .int x2, .int x3, .ref 174] M (fL_chance M x1 x2 x3) := by
  refine Ct_ofH (lv := [(0, .ref 0), (1, .int x1), (2, .int x2), (3, .int x3), (4, .ref 174)]) (by decide +kernel) (by decide) (Nat.le_of_ble_eq_true rfl) rfl ?_
  refine V_aload (k := 4) dL_chance_0 rfl ?_
  refine V_iconst (v := 0) dL_chance_2 rfl ?_
  refine V_aload_n (k := 0) dL_chance_3 rfl rfl ?_
  refine V_iload_n (k := 1) dL_chance_4 rfl rfl ?_
  refine V_iload_n (k := 2) dL_chance_5 rfl rfl ?_
  refine V_iload_n (k := 3) dL_chance_6 rfl rfl ?_
  refine V_callHV (mc' := 3) (ms' := 18) (kc' := 0) (ks' := 0) (av := [.int x1, .int x2, .int x3]) (st0 := [.int 0, .ref 174]) (cls := 10) dL_chance_7 lk_L_60 rfl (by decide) rfl rfl rfl (cX10_chance_ok hT M x1 x2 x3 hI) rfl rfl (Nat.le_of_ble_eq_true rfl) (by decide) (by decide) (Nat.le_of_ble_eq_true rfl) (Nat.le_of_ble_eq_true rfl) (fun v M1 hf hI1 => ?_) (fun k M1 hf hI1 => ?_)
  · have X : ∀ x : Int32, V l D dA sL_chance false 175 8 0 0 10 [(0, .ref 0), (1, .int x1), (2, .int x2), (3, .int x3), (4, .ref 174)] [.int x, .int 0, .ref 174] 175 M1 (rI 0 (v_sl M1 174 0 x.toInt64)) := by
      intro x
      refine V_i2l dL_chance_10 ?_
      refine V_lastT (j := 0) dL_chance_11 rfl (by decide) (by decide) (by decide) ?_
      refine V_goto (tgt := 23) dL_chance_12 (by decide) ?_
      refine V_iconst (v := 0) dL_chance_23 rfl ?_
      exact V_ret (fun _ => hI1) (Or.inr (Or.inl ⟨rfl, _, rfl⟩)) dL_chance_24 (fun ty x h1 h2 => by cases h1; rfl) rfl
    cases v with
    | none => exact V_none
    | some v => cases v <;> first | exact X _ | exact V_none
  · by_cases hk : k = 1
    · subst hk
      rw [show kt2 1 M1 = rI 1 M1 from rfl]
      refine vHan_21 rfl (by decide) (by decide) gcl1 gca1 (vSto_w dL_chance_15 (by decide)) ?_
      refine V_iconst (v := 1) dL_chance_17 rfl ?_
      exact V_ret (fun _ => hI1) (Or.inr (Or.inl ⟨rfl, _, rfl⟩)) dL_chance_18 (fun ty x h1 h2 => by cases h1; rfl) rfl
    · by_cases hk2 : k = 2
      · subst hk2
        rw [show kt2 2 M1 = rI 2 M1 from rfl]
        refine vHan_22 rfl (by decide) (by decide) (by decide) v_exn2 gcl1' gcl2 gca2 (vSto_w dL_chance_19 (by decide)) ?_
        refine V_iconst (v := 2) dL_chance_21 rfl ?_
        exact V_ret (fun _ => hI1) (Or.inr (Or.inl ⟨rfl, _, rfl⟩)) dL_chance_22 (fun ty x h1 h2 => by cases h1; rfl) rfl
      · rw [show kt2 k M1 = none from (if_neg hk).trans (if_neg hk2)]
        exact vHan_no
def fL_joint (M : vM) (x1 : Int32) (x2 : Int32) (x3 : Int32) : Option (vR × vM) := vWi (fX10_joint M x1 x2 x3) (kt1 1)
theorem cL_joint_ok {l : Launch} {D : va_G} {dA : Nat → ClassId} (hT : l.stackTraces = false) (M : vM) (x1 : Int32) (x2 : Int32) (x3 : Int32) (hI : v_WT M.2.2) : Ct l D dA sL_joint false 175 8 4 24 175 [.ref 0, .int x1, .int x2, .int x3, .ref 174] M (fL_joint M x1 x2 x3) := by
  refine Ct_ofH (lv := [(0, .ref 0), (1, .int x1), (2, .int x2), (3, .int x3), (4, .ref 174)]) (by decide +kernel) (by decide) (Nat.le_of_ble_eq_true rfl) rfl ?_
  refine V_aload (k := 4) dL_joint_0 rfl ?_
  refine V_iconst (v := 0) dL_joint_2 rfl ?_
  refine V_aload_n (k := 0) dL_joint_3 rfl rfl ?_
  refine V_iload_n (k := 1) dL_joint_4 rfl rfl ?_
  refine V_iload_n (k := 2) dL_joint_5 rfl rfl ?_
  refine V_iload_n (k := 3) dL_joint_6 rfl rfl ?_
  refine V_callHV (mc' := 4) (ms' := 24) (kc' := 0) (ks' := 0) (av := [.int x1, .int x2, .int x3]) (st0 := [.int 0, .ref 174]) (cls := 10) dL_joint_7 lk_L_63 rfl (by decide) rfl rfl rfl (cX10_joint_ok hT M x1 x2 x3 hI) rfl rfl (Nat.le_of_ble_eq_true rfl) (by decide) (by decide) (Nat.le_of_ble_eq_true rfl) (Nat.le_of_ble_eq_true rfl) (fun v M1 hf hI1 => ?_) (fun k M1 hf hI1 => ?_)
  · have X : ∀ x : Int32, V l D dA sL_joint false 175 8 0 0 10 [(0, .ref 0), (1, .int x1), (2, .int x2), (3, .int x3), (4, .ref 174)] [.int x, .int 0, .ref 174] 175 M1 (rI 0 (v_sl M1 174 0 x.toInt64)) := by
      intro x
      refine V_i2l dL_joint_10 ?_
      refine V_lastT (j := 0) dL_joint_11 rfl (by decide) (by decide) (by decide) ?_
      refine V_goto (tgt := 19) dL_joint_12 (by decide) ?_
      refine V_iconst (v := 0) dL_joint_19 rfl ?_
      exact V_ret (fun _ => hI1) (Or.inr (Or.inl ⟨rfl, _, rfl⟩)) dL_joint_20 (fun ty x h1 h2 => by cases h1; rfl) rfl
    cases v with
    | none => exact V_none
    | some v => cases v <;> first | exact X _ | exact V_none
  · by_cases hk : k = 1
    · subst hk
      rw [show kt1 1 1 M1 = rI 1 M1 from rfl]
      refine vHan_1 rfl (by decide) (by decide) gcl1 gca1 (vSto_w dL_joint_15 (by decide)) ?_
      refine V_iconst (v := 1) dL_joint_17 rfl ?_
      exact V_ret (fun _ => hI1) (Or.inr (Or.inl ⟨rfl, _, rfl⟩)) dL_joint_18 (fun ty x h1 h2 => by cases h1; rfl) rfl
    · rw [show kt1 1 k M1 = none from if_neg hk]
      exact vHan_no
def fL_person (M : vM) (x1 : Int32) (x2 : Int32) : Option (vR × vM) := vWi (fX10_person M x1 x2) (kt1 1)
theorem cL_person_ok {l : Launch} {D : va_G} {dA : Nat → ClassId} (hT : l.stackTraces = false) (M : vM) (x1 : Int32) (x2 : Int32) (hI : v_WT M.2.2) : Ct l D dA sL_person false 175 8 1 6 175 [.ref 0, .int x1, .int x2, .ref 174] M (fL_person M x1 x2) := by
  refine Ct_ofH (lv := [(0, .ref 0), (1, .int x1), (2, .int x2), (3, .ref 174)]) (by decide +kernel) (by decide) (Nat.le_of_ble_eq_true rfl) rfl ?_
  refine V_aload_n (k := 3) dL_person_0 rfl rfl ?_
  refine V_iconst (v := 0) dL_person_1 rfl ?_
  refine V_aload_n (k := 0) dL_person_2 rfl rfl ?_
  refine V_iload_n (k := 1) dL_person_3 rfl rfl ?_
  refine V_iload_n (k := 2) dL_person_4 rfl rfl ?_
  refine V_callHV (mc' := 1) (ms' := 6) (kc' := 0) (ks' := 0) (av := [.int x1, .int x2]) (st0 := [.int 0, .ref 174]) (cls := 10) dL_person_5 lk_L_66 rfl (by decide) rfl rfl rfl (cX10_person_ok hT M x1 x2 hI) rfl rfl (Nat.le_of_ble_eq_true rfl) (by decide) (by decide) (Nat.le_of_ble_eq_true rfl) (Nat.le_of_ble_eq_true rfl) (fun v M1 hf hI1 => ?_) (fun k M1 hf hI1 => ?_)
  · have X : ∀ x : Int32, V l D dA sL_person false 175 8 0 0 8 [(0, .ref 0), (1, .int x1), (2, .int x2), (3, .ref 174)] [.int x, .int 0, .ref 174] 175 M1 (rI 0 (v_sl M1 174 0 x.toInt64)) := by
      intro x
      refine V_i2l dL_person_8 ?_
      refine V_lastT (j := 0) dL_person_9 rfl (by decide) (by decide) (by decide) ?_
      refine V_goto (tgt := 17) dL_person_10 (by decide) ?_
      refine V_iconst (v := 0) dL_person_17 rfl ?_
      exact V_ret (fun _ => hI1) (Or.inr (Or.inl ⟨rfl, _, rfl⟩)) dL_person_18 (fun ty x h1 h2 => by cases h1; rfl) rfl
    cases v with
    | none => exact V_none
    | some v => cases v <;> first | exact X _ | exact V_none
  · by_cases hk : k = 1
    · subst hk
      rw [show kt1 1 1 M1 = rI 1 M1 from rfl]
      refine vHan_1 rfl (by decide) (by decide) gcl1 gca1 (vSto_w dL_person_13 (by decide)) ?_
      refine V_iconst (v := 1) dL_person_15 rfl ?_
      exact V_ret (fun _ => hI1) (Or.inr (Or.inl ⟨rfl, _, rfl⟩)) dL_person_16 (fun ty x h1 h2 => by cases h1; rfl) rfl
    · rw [show kt1 1 k M1 = none from if_neg hk]
      exact vHan_no
def fL_given (M : vM) (x1 : Int32) (x2 : Int32) : Option (vR × vM) := vWi (fX10_given M x1 x2) (kt1 1)
theorem cL_given_ok {l : Launch} {D : va_G} {dA : Nat → ClassId} (hT : l.stackTraces = false) (M : vM) (x1 : Int32) (x2 : Int32) (hI : v_WT M.2.2) : Ct l D dA sL_given false 175 8 2 12 175 [.ref 0, .int x1, .int x2, .ref 174] M (fL_given M x1 x2) := by
  refine Ct_ofH (lv := [(0, .ref 0), (1, .int x1), (2, .int x2), (3, .ref 174)]) (by decide +kernel) (by decide) (Nat.le_of_ble_eq_true rfl) rfl ?_
  refine V_aload_n (k := 3) dL_given_0 rfl rfl ?_
  refine V_iconst (v := 0) dL_given_1 rfl ?_
  refine V_aload_n (k := 0) dL_given_2 rfl rfl ?_
  refine V_iload_n (k := 1) dL_given_3 rfl rfl ?_
  refine V_iload_n (k := 2) dL_given_4 rfl rfl ?_
  refine V_callHV (mc' := 2) (ms' := 12) (kc' := 0) (ks' := 0) (av := [.int x1, .int x2]) (st0 := [.int 0, .ref 174]) (cls := 10) dL_given_5 lk_L_69 rfl (by decide) rfl rfl rfl (cX10_given_ok hT M x1 x2 hI) rfl rfl (Nat.le_of_ble_eq_true rfl) (by decide) (by decide) (Nat.le_of_ble_eq_true rfl) (Nat.le_of_ble_eq_true rfl) (fun v M1 hf hI1 => ?_) (fun k M1 hf hI1 => ?_)
  · have X : ∀ x : Int32, V l D dA sL_given false 175 8 0 0 8 [(0, .ref 0), (1, .int x1), (2, .int x2), (3, .ref 174)] [.int x, .int 0, .ref 174] 175 M1 (rI 0 (v_sl M1 174 0 x.toInt64)) := by
      intro x
      refine V_i2l dL_given_8 ?_
      refine V_lastT (j := 0) dL_given_9 rfl (by decide) (by decide) (by decide) ?_
      refine V_goto (tgt := 17) dL_given_10 (by decide) ?_
      refine V_iconst (v := 0) dL_given_17 rfl ?_
      exact V_ret (fun _ => hI1) (Or.inr (Or.inl ⟨rfl, _, rfl⟩)) dL_given_18 (fun ty x h1 h2 => by cases h1; rfl) rfl
    cases v with
    | none => exact V_none
    | some v => cases v <;> first | exact X _ | exact V_none
  · by_cases hk : k = 1
    · subst hk
      rw [show kt1 1 1 M1 = rI 1 M1 from rfl]
      refine vHan_1 rfl (by decide) (by decide) gcl1 gca1 (vSto_w dL_given_13 (by decide)) ?_
      refine V_iconst (v := 1) dL_given_15 rfl ?_
      exact V_ret (fun _ => hI1) (Or.inr (Or.inl ⟨rfl, _, rfl⟩)) dL_given_16 (fun ty x h1 h2 => by cases h1; rfl) rfl
    · rw [show kt1 1 k M1 = none from if_neg hk]
      exact vHan_no
def fL_more (M : vM) (x1 : Int32) (x2 : Int32) : Option (vR × vM) := vWi (fX10_more M x1 x2) (kt1 1)
theorem cL_more_ok {l : Launch} {D : va_G} {dA : Nat → ClassId} (hT : l.stackTraces = false) (M : vM) (x1 : Int32) (x2 : Int32) (hI : v_WT M.2.2) : Ct l D dA sL_more false 175 8 3 18 175 [.ref 0, .int x1, .int x2, .ref 174] M (fL_more M x1 x2) := by
  refine Ct_ofH (lv := [(0, .ref 0), (1, .int x1), (2, .int x2), (3, .ref 174)]) (by decide +kernel) (by decide) (Nat.le_of_ble_eq_true rfl) rfl ?_
  refine V_aload_n (k := 3) dL_more_0 rfl rfl ?_
  refine V_iconst (v := 0) dL_more_1 rfl ?_
  refine V_aload_n (k := 0) dL_more_2 rfl rfl ?_
  refine V_iload_n (k := 1) dL_more_3 rfl rfl ?_
  refine V_iload_n (k := 2) dL_more_4 rfl rfl ?_
  refine V_callHV (mc' := 3) (ms' := 18) (kc' := 0) (ks' := 0) (av := [.int x1, .int x2]) (st0 := [.int 0, .ref 174]) (cls := 10) dL_more_5 lk_L_72 rfl (by decide) rfl rfl rfl (cX10_more_ok hT M x1 x2 hI) rfl rfl (Nat.le_of_ble_eq_true rfl) (by decide) (by decide) (Nat.le_of_ble_eq_true rfl) (Nat.le_of_ble_eq_true rfl) (fun v M1 hf hI1 => ?_) (fun k M1 hf hI1 => ?_)
  · have X : ∀ x : Int32, V l D dA sL_more false 175 8 0 0 8 [(0, .ref 0), (1, .int x1), (2, .int x2), (3, .ref 174)] [.int x, .int 0, .ref 174] 175 M1 (rI 0 (v_sl M1 174 0 x.toInt64)) := by
      intro x
      refine V_i2l dL_more_8 ?_
      refine V_lastT (j := 0) dL_more_9 rfl (by decide) (by decide) (by decide) ?_
      refine V_goto (tgt := 17) dL_more_10 (by decide) ?_
      refine V_iconst (v := 0) dL_more_17 rfl ?_
      exact V_ret (fun _ => hI1) (Or.inr (Or.inl ⟨rfl, _, rfl⟩)) dL_more_18 (fun ty x h1 h2 => by cases h1; rfl) rfl
    cases v with
    | none => exact V_none
    | some v => cases v <;> first | exact X _ | exact V_none
  · by_cases hk : k = 1
    · subst hk
      rw [show kt1 1 1 M1 = rI 1 M1 from rfl]
      refine vHan_1 rfl (by decide) (by decide) gcl1 gca1 (vSto_w dL_more_13 (by decide)) ?_
      refine V_iconst (v := 1) dL_more_15 rfl ?_
      exact V_ret (fun _ => hI1) (Or.inr (Or.inl ⟨rfl, _, rfl⟩)) dL_more_16 (fun ty x h1 h2 => by cases h1; rfl) rfl
    · rw [show kt1 1 k M1 = none from if_neg hk]
      exact vHan_no
def fL_court (M : vM) (x1 : Int32) (x2 : Int32) (x3 : Int32) : Option (vR × vM) := vWi (fX10_court M x1 x2 x3) (kt2)
theorem cL_court_ok {l : Launch} {D : va_G} {dA : Nat → ClassId} (hT : l.stackTraces = false) (M : vM) (x1 : Int32) (x2 : Int32) (x3 : Int32) (hI : v_WT M.2.2) : Ct l D dA sL_court false 175 8 3 18 175 [.ref 0, .int x1, .int x2, .int x3, .ref 174] M (fL_court M x1 x2 x3) := by
  refine Ct_ofH (lv := [(0, .ref 0), (1, .int x1), (2, .int x2), (3, .int x3), (4, .ref 174)]) (by decide +kernel) (by decide) (Nat.le_of_ble_eq_true rfl) rfl ?_
  refine V_aload (k := 4) dL_court_0 rfl ?_
  refine V_iconst (v := 0) dL_court_2 rfl ?_
  refine V_aload_n (k := 0) dL_court_3 rfl rfl ?_
  refine V_iload_n (k := 1) dL_court_4 rfl rfl ?_
  refine V_iload_n (k := 2) dL_court_5 rfl rfl ?_
  refine V_iload_n (k := 3) dL_court_6 rfl rfl ?_
  refine V_callHV (mc' := 3) (ms' := 18) (kc' := 0) (ks' := 0) (av := [.int x1, .int x2, .int x3]) (st0 := [.int 0, .ref 174]) (cls := 10) dL_court_7 lk_L_75 rfl (by decide) rfl rfl rfl (cX10_court_ok hT M x1 x2 x3 hI) rfl rfl (Nat.le_of_ble_eq_true rfl) (by decide) (by decide) (Nat.le_of_ble_eq_true rfl) (Nat.le_of_ble_eq_true rfl) (fun v M1 hf hI1 => ?_) (fun k M1 hf hI1 => ?_)
  · have X : ∀ x : Int32, V l D dA sL_court false 175 8 0 0 10 [(0, .ref 0), (1, .int x1), (2, .int x2), (3, .int x3), (4, .ref 174)] [.int x, .int 0, .ref 174] 175 M1 (rI 0 (v_sl M1 174 0 x.toInt64)) := by
      intro x
      refine V_i2l dL_court_10 ?_
      refine V_lastT (j := 0) dL_court_11 rfl (by decide) (by decide) (by decide) ?_
      refine V_goto (tgt := 23) dL_court_12 (by decide) ?_
      refine V_iconst (v := 0) dL_court_23 rfl ?_
      exact V_ret (fun _ => hI1) (Or.inr (Or.inl ⟨rfl, _, rfl⟩)) dL_court_24 (fun ty x h1 h2 => by cases h1; rfl) rfl
    cases v with
    | none => exact V_none
    | some v => cases v <;> first | exact X _ | exact V_none
  · by_cases hk : k = 1
    · subst hk
      rw [show kt2 1 M1 = rI 1 M1 from rfl]
      refine vHan_21 rfl (by decide) (by decide) gcl1 gca1 (vSto_w dL_court_15 (by decide)) ?_
      refine V_iconst (v := 1) dL_court_17 rfl ?_
      exact V_ret (fun _ => hI1) (Or.inr (Or.inl ⟨rfl, _, rfl⟩)) dL_court_18 (fun ty x h1 h2 => by cases h1; rfl) rfl
    · by_cases hk2 : k = 2
      · subst hk2
        rw [show kt2 2 M1 = rI 2 M1 from rfl]
        refine vHan_22 rfl (by decide) (by decide) (by decide) v_exn2 gcl1' gcl2 gca2 (vSto_w dL_court_19 (by decide)) ?_
        refine V_iconst (v := 2) dL_court_21 rfl ?_
        exact V_ret (fun _ => hI1) (Or.inr (Or.inl ⟨rfl, _, rfl⟩)) dL_court_22 (fun ty x h1 h2 => by cases h1; rfl) rfl
      · rw [show kt2 k M1 = none from (if_neg hk).trans (if_neg hk2)]
        exact vHan_no
def fL_near (M : vM) (x1 : Int32) (x2 : Int32) (x3 : Int32) : Option (vR × vM) := vWi (fX10_near M x1 x2 x3) (kt2)
theorem cL_near_ok {l : Launch} {D : va_G} {dA : Nat → ClassId} (hT : l.stackTraces = false) (M : vM) (x1 : Int32) (x2 : Int32) (x3 : Int32) (hI : v_WT M.2.2) : Ct l D dA sL_near false 175 8 3 18 175 [.ref 0, .int x1, .int x2, .int x3, .ref 174] M (fL_near M x1 x2 x3) := by
  refine Ct_ofH (lv := [(0, .ref 0), (1, .int x1), (2, .int x2), (3, .int x3), (4, .ref 174)]) (by decide +kernel) (by decide) (Nat.le_of_ble_eq_true rfl) rfl ?_
  refine V_aload (k := 4) dL_near_0 rfl ?_
  refine V_iconst (v := 0) dL_near_2 rfl ?_
  refine V_aload_n (k := 0) dL_near_3 rfl rfl ?_
  refine V_iload_n (k := 1) dL_near_4 rfl rfl ?_
  refine V_iload_n (k := 2) dL_near_5 rfl rfl ?_
  refine V_iload_n (k := 3) dL_near_6 rfl rfl ?_
  refine V_callHV (mc' := 3) (ms' := 18) (kc' := 0) (ks' := 0) (av := [.int x1, .int x2, .int x3]) (st0 := [.int 0, .ref 174]) (cls := 10) dL_near_7 lk_L_78 rfl (by decide) rfl rfl rfl (cX10_near_ok hT M x1 x2 x3 hI) rfl rfl (Nat.le_of_ble_eq_true rfl) (by decide) (by decide) (Nat.le_of_ble_eq_true rfl) (Nat.le_of_ble_eq_true rfl) (fun v M1 hf hI1 => ?_) (fun k M1 hf hI1 => ?_)
  · have X : ∀ x : Int32, V l D dA sL_near false 175 8 0 0 10 [(0, .ref 0), (1, .int x1), (2, .int x2), (3, .int x3), (4, .ref 174)] [.int x, .int 0, .ref 174] 175 M1 (rI 0 (v_sl M1 174 0 x.toInt64)) := by
      intro x
      refine V_i2l dL_near_10 ?_
      refine V_lastT (j := 0) dL_near_11 rfl (by decide) (by decide) (by decide) ?_
      refine V_goto (tgt := 23) dL_near_12 (by decide) ?_
      refine V_iconst (v := 0) dL_near_23 rfl ?_
      exact V_ret (fun _ => hI1) (Or.inr (Or.inl ⟨rfl, _, rfl⟩)) dL_near_24 (fun ty x h1 h2 => by cases h1; rfl) rfl
    cases v with
    | none => exact V_none
    | some v => cases v <;> first | exact X _ | exact V_none
  · by_cases hk : k = 1
    · subst hk
      rw [show kt2 1 M1 = rI 1 M1 from rfl]
      refine vHan_21 rfl (by decide) (by decide) gcl1 gca1 (vSto_w dL_near_15 (by decide)) ?_
      refine V_iconst (v := 1) dL_near_17 rfl ?_
      exact V_ret (fun _ => hI1) (Or.inr (Or.inl ⟨rfl, _, rfl⟩)) dL_near_18 (fun ty x h1 h2 => by cases h1; rfl) rfl
    · by_cases hk2 : k = 2
      · subst hk2
        rw [show kt2 2 M1 = rI 2 M1 from rfl]
        refine vHan_22 rfl (by decide) (by decide) (by decide) v_exn2 gcl1' gcl2 gca2 (vSto_w dL_near_19 (by decide)) ?_
        refine V_iconst (v := 2) dL_near_21 rfl ?_
        exact V_ret (fun _ => hI1) (Or.inr (Or.inl ⟨rfl, _, rfl⟩)) dL_near_22 (fun ty x h1 h2 => by cases h1; rfl) rfl
      · rw [show kt2 k M1 = none from (if_neg hk).trans (if_neg hk2)]
        exact vHan_no
def fL_drawn (M : vM) (x1 : Int32) (x2 : Int32) (x3 : Int32) (x4 : Int32) : Option (vR × vM) := vWi (fX10_drawn M x1 x2 x3 x4) (kt2)
theorem cL_drawn_ok {l : Launch} {D : va_G} {dA : Nat → ClassId} (hT : l.stackTraces = false) (M : vM) (x1 : Int32) (x2 : Int32) (x3 : Int32) (x4 : Int32) (hI : v_WT M.2.2) : Ct l D dA sL_drawn false 175 9 1030 6180 175 [.ref 0, .int x1, .int x2, .int x3, .int x4, .ref 174] M (fL_drawn M x1 x2 x3 x4) := by
  refine Ct_ofH (lv := [(0, .ref 0), (1, .int x1), (2, .int x2), (3, .int x3), (4, .int x4), (5, .ref 174)]) (by decide +kernel) (by decide) (Nat.le_of_ble_eq_true rfl) rfl ?_
  refine V_aload (k := 5) dL_drawn_0 rfl ?_
  refine V_iconst (v := 0) dL_drawn_2 rfl ?_
  refine V_aload_n (k := 0) dL_drawn_3 rfl rfl ?_
  refine V_iload_n (k := 1) dL_drawn_4 rfl rfl ?_
  refine V_iload_n (k := 2) dL_drawn_5 rfl rfl ?_
  refine V_iload_n (k := 3) dL_drawn_6 rfl rfl ?_
  refine V_iload (k := 4) dL_drawn_7 rfl ?_
  refine V_callHV (mc' := 1030) (ms' := 6180) (kc' := 0) (ks' := 0) (av := [.int x1, .int x2, .int x3, .int x4]) (st0 := [.int 0, .ref 174]) (cls := 10) dL_drawn_9 lk_L_81 rfl (by decide) rfl rfl rfl (cX10_drawn_ok hT M x1 x2 x3 x4 hI) rfl rfl (Nat.le_of_ble_eq_true rfl) (by decide) (by decide) (Nat.le_of_ble_eq_true rfl) (Nat.le_of_ble_eq_true rfl) (fun v M1 hf hI1 => ?_) (fun k M1 hf hI1 => ?_)
  · have X : ∀ x : Int32, V l D dA sL_drawn false 175 9 0 0 12 [(0, .ref 0), (1, .int x1), (2, .int x2), (3, .int x3), (4, .int x4), (5, .ref 174)] [.int x, .int 0, .ref 174] 175 M1 (rI 0 (v_sl M1 174 0 x.toInt64)) := by
      intro x
      refine V_i2l dL_drawn_12 ?_
      refine V_lastT (j := 0) dL_drawn_13 rfl (by decide) (by decide) (by decide) ?_
      refine V_goto (tgt := 25) dL_drawn_14 (by decide) ?_
      refine V_iconst (v := 0) dL_drawn_25 rfl ?_
      exact V_ret (fun _ => hI1) (Or.inr (Or.inl ⟨rfl, _, rfl⟩)) dL_drawn_26 (fun ty x h1 h2 => by cases h1; rfl) rfl
    cases v with
    | none => exact V_none
    | some v => cases v <;> first | exact X _ | exact V_none
  · by_cases hk : k = 1
    · subst hk
      rw [show kt2 1 M1 = rI 1 M1 from rfl]
      refine vHan_21 rfl (by decide) (by decide) gcl1 gca1 (vSto_w dL_drawn_17 (by decide)) ?_
      refine V_iconst (v := 1) dL_drawn_19 rfl ?_
      exact V_ret (fun _ => hI1) (Or.inr (Or.inl ⟨rfl, _, rfl⟩)) dL_drawn_20 (fun ty x h1 h2 => by cases h1; rfl) rfl
    · by_cases hk2 : k = 2
      · subst hk2
        rw [show kt2 2 M1 = rI 2 M1 from rfl]
        refine vHan_22 rfl (by decide) (by decide) (by decide) v_exn2 gcl1' gcl2 gca2 (vSto_w dL_drawn_21 (by decide)) ?_
        refine V_iconst (v := 2) dL_drawn_23 rfl ?_
        exact V_ret (fun _ => hI1) (Or.inr (Or.inl ⟨rfl, _, rfl⟩)) dL_drawn_24 (fun ty x h1 h2 => by cases h1; rfl) rfl
      · rw [show kt2 k M1 = none from (if_neg hk).trans (if_neg hk2)]
        exact vHan_no
