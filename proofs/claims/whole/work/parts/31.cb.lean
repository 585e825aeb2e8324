theorem gw110 : Cond.methodLink "NeverTwice" 3 ⟨"java/lang/Object", "<init>", "()V"⟩ ∈ v_G := v_gm 110 (by decide +kernel) rfl
theorem gw111 : Cond.instanceMethod ⟨"java/lang/Object", "<init>", "()V"⟩ ∈ v_G := v_gm 111 (by decide +kernel) rfl
theorem gw112 : Cond.code ⟨"java/lang/Object", "<init>", "()V"⟩ object_method_1_code 1 none ∈ v_G := v_gm 112 (by decide +kernel) rfl
theorem gw118 : Cond.methodLink "NeverTwice$Tape" 3 ⟨"java/lang/Object", "<init>", "()V"⟩ ∈ v_G := v_gm 118 (by decide +kernel) rfl
theorem gw133 : Cond.methodLink "NeverTwice$Reader" 3 ⟨"java/lang/Object", "<init>", "()V"⟩ ∈ v_G := v_gm 133 (by decide +kernel) rfl
theorem gw173 : Cond.methodLink "NeverTwice$Ledger" 3 ⟨"java/lang/Object", "<init>", "()V"⟩ ∈ v_G := v_gm 173 (by decide +kernel) rfl
theorem gw212 : Cond.methodLink "NeverTwice$Succession" 3 ⟨"java/lang/Object", "<init>", "()V"⟩ ∈ v_G := v_gm 212 (by decide +kernel) rfl
theorem gw242 : Cond.methodLink "NeverTwice$Spread" 3 ⟨"java/lang/Object", "<init>", "()V"⟩ ∈ v_G := v_gm 242 (by decide +kernel) rfl
theorem gw273 : Cond.methodLink "NeverTwice$Calendar" 3 ⟨"java/lang/Object", "<init>", "()V"⟩ ∈ v_G := v_gm 273 (by decide +kernel) rfl
theorem gw283 : Cond.methodLink "NeverTwice$Market" 3 ⟨"java/lang/Object", "<init>", "()V"⟩ ∈ v_G := v_gm 283 (by decide +kernel) rfl
theorem gw312 : Cond.methodLink "NeverTwice$Roads" 3 ⟨"java/lang/Object", "<init>", "()V"⟩ ∈ v_G := v_gm 312 (by decide +kernel) rfl
theorem gw336 : Cond.methodLink "NeverTwice$Plan" 3 ⟨"java/lang/Object", "<init>", "()V"⟩ ∈ v_G := v_gm 336 (by decide +kernel) rfl
theorem gw398 : Cond.methodLink "NeverTwice$Work" 3 ⟨"java/lang/Object", "<init>", "()V"⟩ ∈ v_G := v_gm 398 (by decide +kernel) rfl
theorem gw1240 : Cond.methodLink "NeverTwiceModel" 1 ⟨"java/lang/Object", "<init>", "()V"⟩ ∈ v_G := v_gm 1240 (by decide +kernel) rfl
theorem dfX0 : ∀ k, k < 1 → defaultValue (tyX0 k) = if v_FK 0 k = 2 then .null else .int 0 := fun k hk => match k, hk with
  | 0, _ => rfl
  | n + 1, h => absurd h (by omega)
theorem dfX1 : ∀ k, k < 9 → defaultValue (tyX1 k) = if v_FK 1 k = 2 then .null else .int 0 := fun k hk => match k, hk with
  | 0, _ => rfl
  | 1, _ => rfl
  | 2, _ => rfl
  | 3, _ => rfl
  | 4, _ => rfl
  | 5, _ => rfl
  | 6, _ => rfl
  | 7, _ => rfl
  | 8, _ => rfl
  | n + 9, h => absurd h (by omega)
theorem dfX2 : ∀ k, k < 6 → defaultValue (tyX2 k) = if v_FK 2 k = 2 then .null else .int 0 := fun k hk => match k, hk with
  | 0, _ => rfl
  | 1, _ => rfl
  | 2, _ => rfl
  | 3, _ => rfl
  | 4, _ => rfl
  | 5, _ => rfl
  | n + 6, h => absurd h (by omega)
theorem dfX3 : ∀ k, k < 12 → defaultValue (tyX3 k) = if v_FK 3 k = 2 then .null else .int 0 := fun k hk => match k, hk with
  | 0, _ => rfl
  | 1, _ => rfl
  | 2, _ => rfl
  | 3, _ => rfl
  | 4, _ => rfl
  | 5, _ => rfl
  | 6, _ => rfl
  | 7, _ => rfl
  | 8, _ => rfl
  | 9, _ => rfl
  | 10, _ => rfl
  | 11, _ => rfl
  | n + 12, h => absurd h (by omega)
theorem dfX4 : ∀ k, k < 9 → defaultValue (tyX4 k) = if v_FK 4 k = 2 then .null else .int 0 := fun k hk => match k, hk with
  | 0, _ => rfl
  | 1, _ => rfl
  | 2, _ => rfl
  | 3, _ => rfl
  | 4, _ => rfl
  | 5, _ => rfl
  | 6, _ => rfl
  | 7, _ => rfl
  | 8, _ => rfl
  | n + 9, h => absurd h (by omega)
theorem dfX5 : ∀ k, k < 5 → defaultValue (tyX5 k) = if v_FK 5 k = 2 then .null else .int 0 := fun k hk => match k, hk with
  | 0, _ => rfl
  | 1, _ => rfl
  | 2, _ => rfl
  | 3, _ => rfl
  | 4, _ => rfl
  | n + 5, h => absurd h (by omega)
theorem dfX6 : ∀ k, k < 7 → defaultValue (tyX6 k) = if v_FK 6 k = 2 then .null else .int 0 := fun k hk => match k, hk with
  | 0, _ => rfl
  | 1, _ => rfl
  | 2, _ => rfl
  | 3, _ => rfl
  | 4, _ => rfl
  | 5, _ => rfl
  | 6, _ => rfl
  | n + 7, h => absurd h (by omega)
theorem dfX7 : ∀ k, k < 6 → defaultValue (tyX7 k) = if v_FK 7 k = 2 then .null else .int 0 := fun k hk => match k, hk with
  | 0, _ => rfl
  | 1, _ => rfl
  | 2, _ => rfl
  | 3, _ => rfl
  | 4, _ => rfl
  | 5, _ => rfl
  | n + 6, h => absurd h (by omega)
theorem dfX8 : ∀ k, k < 2 → defaultValue (tyX8 k) = if v_FK 8 k = 2 then .null else .int 0 := fun k hk => match k, hk with
  | 0, _ => rfl
  | 1, _ => rfl
  | n + 2, h => absurd h (by omega)
theorem dfX9 : ∀ k, k < 6 → defaultValue (tyX9 k) = if v_FK 9 k = 2 then .null else .int 0 := fun k hk => match k, hk with
  | 0, _ => rfl
  | 1, _ => rfl
  | 2, _ => rfl
  | 3, _ => rfl
  | 4, _ => rfl
  | 5, _ => rfl
  | n + 6, h => absurd h (by omega)
theorem dfX10 : ∀ k, k < 15 → defaultValue (tyX10 k) = if v_FK 10 k = 2 then .null else .int 0 := fun k hk => match k, hk with
  | 0, _ => rfl
  | 1, _ => rfl
  | 2, _ => rfl
  | 3, _ => rfl
  | 4, _ => rfl
  | 5, _ => rfl
  | 6, _ => rfl
  | 7, _ => rfl
  | 8, _ => rfl
  | 9, _ => rfl
  | 10, _ => rfl
  | 11, _ => rfl
  | 12, _ => rfl
  | 13, _ => rfl
  | 14, _ => rfl
  | n + 15, h => absurd h (by omega)
theorem dfX11 : ∀ k, k < 61 → defaultValue (tyX11 k) = if v_FK 11 k = 2 then .null else .int 0 := fun k hk => match k, hk with
  | 0, _ => rfl
  | 1, _ => rfl
  | 2, _ => rfl
  | 3, _ => rfl
  | 4, _ => rfl
  | 5, _ => rfl
  | 6, _ => rfl
  | 7, _ => rfl
  | 8, _ => rfl
  | 9, _ => rfl
  | 10, _ => rfl
  | 11, _ => rfl
  | 12, _ => rfl
  | 13, _ => rfl
  | 14, _ => rfl
  | 15, _ => rfl
  | 16, _ => rfl
  | 17, _ => rfl
  | 18, _ => rfl
  | 19, _ => rfl
  | 20, _ => rfl
  | 21, _ => rfl
  | 22, _ => rfl
  | 23, _ => rfl
  | 24, _ => rfl
  | 25, _ => rfl
  | 26, _ => rfl
  | 27, _ => rfl
  | 28, _ => rfl
  | 29, _ => rfl
  | 30, _ => rfl
  | 31, _ => rfl
  | 32, _ => rfl
  | 33, _ => rfl
  | 34, _ => rfl
  | 35, _ => rfl
  | 36, _ => rfl
  | 37, _ => rfl
  | 38, _ => rfl
  | 39, _ => rfl
  | 40, _ => rfl
  | 41, _ => rfl
  | 42, _ => rfl
  | 43, _ => rfl
  | 44, _ => rfl
  | 45, _ => rfl
  | 46, _ => rfl
  | 47, _ => rfl
  | 48, _ => rfl
  | 49, _ => rfl
  | 50, _ => rfl
  | 51, _ => rfl
  | 52, _ => rfl
  | 53, _ => rfl
  | 54, _ => rfl
  | 55, _ => rfl
  | 56, _ => rfl
  | 57, _ => rfl
  | 58, _ => rfl
  | 59, _ => rfl
  | 60, _ => rfl
  | n + 61, h => absurd h (by omega)
def mk1 (M : vM) : vM := v_sr (M) 1 0 (2 + 1)
theorem zk1 {M : vM} (z0 : v_Zr 2 M) : v_Zr 3 (mk1 M) := by
  have z1 := v_Zr_up z0
  have z2 := v_Zr_sr (c := 1) (j := 0) (x := 2 + 1) z1 (by decide) (Or.inl (by decide))
  exact z2
set_option maxRecDepth 20000 in
set_option maxHeartbeats 4000000 in
theorem ck1 {l : Launch} {D : va_G} {dA : Nat → ClassId} (M : vM) (z0 : v_Zr 2 M) : Ct l D dA sX8_init true 3 1 1 700 2 [.ref 1] M (rV (mk1 M)) := by
  refine Ct_of (lv := [(0, .ref 1)]) (by decide +kernel) rfl (Nat.le_of_ble_eq_true rfl) rfl (fun _ => z0) ?_
  refine V_aload_n (k := 0) dX8_init_0 rfl rfl ?_
  refine V_objInit dX8_init_1 gw118 gw111 gw112 (Nat.le_of_ble_eq_true rfl) (by decide) ?_
  refine V_aload_n (k := 0) dX8_init_4 rfl rfl ?_
  refine V_sipush (v := 700) dX8_init_5 rfl ?_
  refine V_newa (t := 2) (len := 700) dX8_init_8 (by decide) rfl (by decide) rfl (by decide) (Nat.le_of_ble_eq_true rfl) gw127 (Nat.le_of_ble_eq_true rfl) (Nat.le_of_ble_eq_true rfl) rfl rfl ?_
  have z1 := v_Zr_up z0
  refine V_putr (k := 2) dX8_init_10 rfl (by decide) vf_X8_9 (by decide) (fun _ => ⟨rfl, rfl, rfl⟩) (fun a => ⟨rfl, rfl⟩) (Or.inl (by decide)) ?_
  have z2 := v_Zr_sr (c := 1) (j := 0) (x := 2 + 1) z1 (by decide) (Or.inl (by decide))
  exact V_ret (fun h => by cases h) (Or.inl ⟨rfl, rfl⟩) dX8_init_13 (fun ty x h1 h2 => by cases h1) rfl
def mk3 (M : vM) : vM := v_sr (M) 3 0 (1 + 1)
theorem zk3 {M : vM} (z0 : v_Zr 4 M) : v_Zr 4 (mk3 M) := by
  have z1 := v_Zr_sr (c := 3) (j := 0) (x := 1 + 1) z0 (by decide) (Or.inl (by decide))
  exact z1
set_option maxRecDepth 20000 in
set_option maxHeartbeats 4000000 in
theorem ck3 {l : Launch} {D : va_G} {dA : Nat → ClassId} (M : vM) (z0 : v_Zr 4 M) : Ct l D dA sX4_init true 4 1 0 0 4 [.ref 3, .ref 1] M (rV (mk3 M)) := by
  refine Ct_of (lv := [(0, .ref 3), (1, .ref 1)]) (by decide +kernel) rfl (Nat.le_of_ble_eq_true rfl) rfl (fun _ => z0) ?_
  refine V_aload_n (k := 0) dX4_init_0 rfl rfl ?_
  refine V_objInit dX4_init_1 gw133 gw111 gw112 (Nat.le_of_ble_eq_true rfl) (by decide) ?_
  refine V_aload_n (k := 0) dX4_init_4 rfl rfl ?_
  refine V_aload_n (k := 1) dX4_init_5 rfl rfl ?_
  refine V_putr (k := 1) dX4_init_6 rfl (by decide) vf_X4_9 (by decide) (fun _ => ⟨rfl, rfl, rfl⟩) (fun a => ⟨rfl, rfl⟩) (Or.inl (by decide)) ?_
  have z1 := v_Zr_sr (c := 3) (j := 0) (x := 1 + 1) z0 (by decide) (Or.inl (by decide))
  exact V_ret (fun h => by cases h) (Or.inl ⟨rfl, rfl⟩) dX4_init_9 (fun ty x h1 h2 => by cases h1) rfl
def mk6 (M : vM) : vM := v_fl (v_sr (v_sr (v_sr (v_sr (v_sr (v_sr (v_sr (v_sr (M) 6 1 (7 + 1)) 6 2 (8 + 1)) 6 3 (9 + 1)) 6 4 (10 + 1)) 6 5 (11 + 1)) 6 6 (12 + 1)) 6 7 (13 + 1)) 6 8 (14 + 1)) 13 100 1
theorem zk6 {M : vM} (z0 : v_Zr 7 M) : v_Zr 15 (mk6 M) := by
  have z1 := v_Zr_up z0
  have z2 := v_Zr_sr (c := 6) (j := 1) (x := 7 + 1) z1 (by decide) (Or.inl (by decide))
  have z3 := v_Zr_up z2
  have z4 := v_Zr_sr (c := 6) (j := 2) (x := 8 + 1) z3 (by decide) (Or.inl (by decide))
  have z5 := v_Zr_up z4
  have z6 := v_Zr_sr (c := 6) (j := 3) (x := 9 + 1) z5 (by decide) (Or.inl (by decide))
  have z7 := v_Zr_up z6
  have z8 := v_Zr_sr (c := 6) (j := 4) (x := 10 + 1) z7 (by decide) (Or.inl (by decide))
  have z9 := v_Zr_up z8
  have z10 := v_Zr_sr (c := 6) (j := 5) (x := 11 + 1) z9 (by decide) (Or.inl (by decide))
  have z11 := v_Zr_up z10
  have z12 := v_Zr_sr (c := 6) (j := 6) (x := 12 + 1) z11 (by decide) (Or.inl (by decide))
  have z13 := v_Zr_up z12
  have z14 := v_Zr_sr (c := 6) (j := 7) (x := 13 + 1) z13 (by decide) (Or.inl (by decide))
  have z15 := v_Zr_up z14
  have z16 := v_Zr_sr (c := 6) (j := 8) (x := 14 + 1) z15 (by decide) (Or.inl (by decide))
  have z17 := v_Zr_fl (c := 13) (k := 100) (x := 1) z16 (by decide)
  exact z17
set_option maxRecDepth 20000 in
set_option maxHeartbeats 4000000 in
theorem ck6 {l : Launch} {D : va_G} {dA : Nat → ClassId} (M : vM) (z0 : v_Zr 7 M) : Ct l D dA sX1_init true 15 2 8 1588 7 [.ref 6] M (rV (mk6 M)) := by
  refine Ct_of (lv := [(0, .ref 6)]) (by decide +kernel) rfl (Nat.le_of_ble_eq_true rfl) rfl (fun _ => z0) ?_
  refine V_aload_n (k := 0) dX1_init_0 rfl rfl ?_
  refine V_objInit dX1_init_1 gw173 gw111 gw112 (Nat.le_of_ble_eq_true rfl) (by decide) ?_
  refine V_aload_n (k := 0) dX1_init_4 rfl rfl ?_
  refine V_sipush (v := 400) dX1_init_5 rfl ?_
  refine V_newa (t := 0) (len := 400) dX1_init_8 (by decide) rfl (by decide) rfl (by decide) (Nat.le_of_ble_eq_true rfl) gw206 (Nat.le_of_ble_eq_true rfl) (Nat.le_of_ble_eq_true rfl) rfl rfl ?_
  have z1 := v_Zr_up z0
  refine V_putr (k := 7) dX1_init_10 rfl (by decide) vf_X1_9 (by decide) (fun _ => ⟨rfl, rfl, rfl⟩) (fun a => ⟨rfl, rfl⟩) (Or.inl (by decide)) ?_
  have z2 := v_Zr_sr (c := 6) (j := 1) (x := 7 + 1) z1 (by decide) (Or.inl (by decide))
  refine V_aload_n (k := 0) dX1_init_13 rfl rfl ?_
  refine V_sipush (v := 400) dX1_init_14 rfl ?_
  refine V_newa (t := 0) (len := 400) dX1_init_17 (by decide) rfl (by decide) rfl (by decide) (Nat.le_of_ble_eq_true rfl) gw206 (Nat.le_of_ble_eq_true rfl) (Nat.le_of_ble_eq_true rfl) rfl rfl ?_
  have z3 := v_Zr_up z2
  refine V_putr (k := 8) dX1_init_19 rfl (by decide) vf_X1_15 (by decide) (fun _ => ⟨rfl, rfl, rfl⟩) (fun a => ⟨rfl, rfl⟩) (Or.inl (by decide)) ?_
  have z4 := v_Zr_sr (c := 6) (j := 2) (x := 8 + 1) z3 (by decide) (Or.inl (by decide))
  refine V_aload_n (k := 0) dX1_init_22 rfl rfl ?_
  refine V_bipush (v := 6) dX1_init_23 rfl ?_
  refine V_newa (t := 0) (len := 6) dX1_init_25 (by decide) rfl (by decide) rfl (by decide) (Nat.le_of_ble_eq_true rfl) gw206 (Nat.le_of_ble_eq_true rfl) (Nat.le_of_ble_eq_true rfl) rfl rfl ?_
  have z5 := v_Zr_up z4
  refine V_putr (k := 9) dX1_init_27 rfl (by decide) vf_X1_18 (by decide) (fun _ => ⟨rfl, rfl, rfl⟩) (fun a => ⟨rfl, rfl⟩) (Or.inl (by decide)) ?_
  have z6 := v_Zr_sr (c := 6) (j := 3) (x := 9 + 1) z5 (by decide) (Or.inl (by decide))
  refine V_aload_n (k := 0) dX1_init_30 rfl rfl ?_
  refine V_sipush (v := 600) dX1_init_31 rfl ?_
  refine V_newa (t := 0) (len := 600) dX1_init_34 (by decide) rfl (by decide) rfl (by decide) (Nat.le_of_ble_eq_true rfl) gw206 (Nat.le_of_ble_eq_true rfl) (Nat.le_of_ble_eq_true rfl) rfl rfl ?_
  have z7 := v_Zr_up z6
  refine V_putr (k := 10) dX1_init_36 rfl (by decide) vf_X1_21 (by decide) (fun _ => ⟨rfl, rfl, rfl⟩) (fun a => ⟨rfl, rfl⟩) (Or.inl (by decide)) ?_
  have z8 := v_Zr_sr (c := 6) (j := 4) (x := 10 + 1) z7 (by decide) (Or.inl (by decide))
  refine V_aload_n (k := 0) dX1_init_39 rfl rfl ?_
  refine V_bipush (v := 6) dX1_init_40 rfl ?_
  refine V_newa (t := 0) (len := 6) dX1_init_42 (by decide) rfl (by decide) rfl (by decide) (Nat.le_of_ble_eq_true rfl) gw206 (Nat.le_of_ble_eq_true rfl) (Nat.le_of_ble_eq_true rfl) rfl rfl ?_
  have z9 := v_Zr_up z8
  refine V_putr (k := 11) dX1_init_44 rfl (by decide) vf_X1_24 (by decide) (fun _ => ⟨rfl, rfl, rfl⟩) (fun a => ⟨rfl, rfl⟩) (Or.inl (by decide)) ?_
  have z10 := v_Zr_sr (c := 6) (j := 5) (x := 11 + 1) z9 (by decide) (Or.inl (by decide))
  refine V_aload_n (k := 0) dX1_init_47 rfl rfl ?_
  refine V_bipush (v := 72) dX1_init_48 rfl ?_
  refine V_newa (t := 0) (len := 72) dX1_init_50 (by decide) rfl (by decide) rfl (by decide) (Nat.le_of_ble_eq_true rfl) gw206 (Nat.le_of_ble_eq_true rfl) (Nat.le_of_ble_eq_true rfl) rfl rfl ?_
  have z11 := v_Zr_up z10
  refine V_putr (k := 12) dX1_init_52 rfl (by decide) vf_X1_27 (by decide) (fun _ => ⟨rfl, rfl, rfl⟩) (fun a => ⟨rfl, rfl⟩) (Or.inl (by decide)) ?_
  have z12 := v_Zr_sr (c := 6) (j := 6) (x := 12 + 1) z11 (by decide) (Or.inl (by decide))
  refine V_aload_n (k := 0) dX1_init_55 rfl rfl ?_
  refine V_bipush (v := 100) dX1_init_56 rfl ?_
  refine V_newa (t := 0) (len := 100) dX1_init_58 (by decide) rfl (by decide) rfl (by decide) (Nat.le_of_ble_eq_true rfl) gw206 (Nat.le_of_ble_eq_true rfl) (Nat.le_of_ble_eq_true rfl) rfl rfl ?_
  have z13 := v_Zr_up z12
  refine V_putr (k := 13) dX1_init_60 rfl (by decide) vf_X1_30 (by decide) (fun _ => ⟨rfl, rfl, rfl⟩) (fun a => ⟨rfl, rfl⟩) (Or.inl (by decide)) ?_
  have z14 := v_Zr_sr (c := 6) (j := 7) (x := 13 + 1) z13 (by decide) (Or.inl (by decide))
  refine V_aload_n (k := 0) dX1_init_63 rfl rfl ?_
  refine V_iconst (v := 4) dX1_init_64 rfl ?_
  refine V_newa (t := 0) (len := 4) dX1_init_65 (by decide) rfl (by decide) rfl (by decide) (Nat.le_of_ble_eq_true rfl) gw206 (Nat.le_of_ble_eq_true rfl) (Nat.le_of_ble_eq_true rfl) rfl rfl ?_
  have z15 := v_Zr_up z14
  refine V_putr (k := 14) dX1_init_67 rfl (by decide) vf_X1_33 (by decide) (fun _ => ⟨rfl, rfl, rfl⟩) (fun a => ⟨rfl, rfl⟩) (Or.inl (by decide)) ?_
  have z16 := v_Zr_sr (c := 6) (j := 8) (x := 14 + 1) z15 (by decide) (Or.inl (by decide))
  refine V_aload_n (k := 0) dX1_init_70 rfl rfl ?_
  refine V_getr (k := 13) dX1_init_71 rfl (by decide) vf_X1_30 (by decide) rfl ?_
  refine V_iconst (v := 1) dX1_init_74 rfl ?_
  refine V_callSA (d' := 1) (M1 := v_fl (v_sr (v_sr (v_sr (v_sr (v_sr (v_sr (v_sr (v_sr (M) 6 1 (7 + 1)) 6 2 (8 + 1)) 6 3 (9 + 1)) 6 4 (10 + 1)) 6 5 (11 + 1)) 6 6 (12 + 1)) 6 7 (13 + 1)) 6 8 (14 + 1)) 13 100 1) (st0 := []) dX1_init_75 lk_X1_36 rfl (cF_ok (by decide) rfl (by decide) z16) rfl rfl (Nat.le_of_ble_eq_true rfl) (by decide) (by decide) rfl (fun h => v_Zr_fl h (by decide)) rfl rfl ?_
  have z17 := v_Zr_fl (c := 13) (k := 100) (x := 1) z16 (by decide)
  exact V_ret (fun h => by cases h) (Or.inl ⟨rfl, rfl⟩) dX1_init_78 (fun ty x h1 h2 => by cases h1) rfl
def mk15 (M : vM) : vM := v_fl (v_sr (v_sr (v_sr (v_sr (v_sr (v_sr (v_sr (v_sr (M) 15 1 (16 + 1)) 15 2 (17 + 1)) 15 3 (18 + 1)) 15 4 (19 + 1)) 15 5 (20 + 1)) 15 6 (21 + 1)) 15 7 (22 + 1)) 15 8 (23 + 1)) 22 100 1
theorem zk15 {M : vM} (z0 : v_Zr 16 M) : v_Zr 24 (mk15 M) := by
  have z1 := v_Zr_up z0
  have z2 := v_Zr_sr (c := 15) (j := 1) (x := 16 + 1) z1 (by decide) (Or.inl (by decide))
  have z3 := v_Zr_up z2
  have z4 := v_Zr_sr (c := 15) (j := 2) (x := 17 + 1) z3 (by decide) (Or.inl (by decide))
  have z5 := v_Zr_up z4
  have z6 := v_Zr_sr (c := 15) (j := 3) (x := 18 + 1) z5 (by decide) (Or.inl (by decide))
  have z7 := v_Zr_up z6
  have z8 := v_Zr_sr (c := 15) (j := 4) (x := 19 + 1) z7 (by decide) (Or.inl (by decide))
  have z9 := v_Zr_up z8
  have z10 := v_Zr_sr (c := 15) (j := 5) (x := 20 + 1) z9 (by decide) (Or.inl (by decide))
  have z11 := v_Zr_up z10
  have z12 := v_Zr_sr (c := 15) (j := 6) (x := 21 + 1) z11 (by decide) (Or.inl (by decide))
  have z13 := v_Zr_up z12
  have z14 := v_Zr_sr (c := 15) (j := 7) (x := 22 + 1) z13 (by decide) (Or.inl (by decide))
  have z15 := v_Zr_up z14
  have z16 := v_Zr_sr (c := 15) (j := 8) (x := 23 + 1) z15 (by decide) (Or.inl (by decide))
  have z17 := v_Zr_fl (c := 22) (k := 100) (x := 1) z16 (by decide)
  exact z17
set_option maxRecDepth 20000 in
set_option maxHeartbeats 4000000 in
theorem ck15 {l : Launch} {D : va_G} {dA : Nat → ClassId} (M : vM) (z0 : v_Zr 16 M) : Ct l D dA sX1_init true 24 2 8 1588 16 [.ref 15] M (rV (mk15 M)) := by
  refine Ct_of (lv := [(0, .ref 15)]) (by decide +kernel) rfl (Nat.le_of_ble_eq_true rfl) rfl (fun _ => z0) ?_
  refine V_aload_n (k := 0) dX1_init_0 rfl rfl ?_
  refine V_objInit dX1_init_1 gw173 gw111 gw112 (Nat.le_of_ble_eq_true rfl) (by decide) ?_
  refine V_aload_n (k := 0) dX1_init_4 rfl rfl ?_
  refine V_sipush (v := 400) dX1_init_5 rfl ?_
  refine V_newa (t := 0) (len := 400) dX1_init_8 (by decide) rfl (by decide) rfl (by decide) (Nat.le_of_ble_eq_true rfl) gw206 (Nat.le_of_ble_eq_true rfl) (Nat.le_of_ble_eq_true rfl) rfl rfl ?_
  have z1 := v_Zr_up z0
  refine V_putr (k := 16) dX1_init_10 rfl (by decide) vf_X1_9 (by decide) (fun _ => ⟨rfl, rfl, rfl⟩) (fun a => ⟨rfl, rfl⟩) (Or.inl (by decide)) ?_
  have z2 := v_Zr_sr (c := 15) (j := 1) (x := 16 + 1) z1 (by decide) (Or.inl (by decide))
  refine V_aload_n (k := 0) dX1_init_13 rfl rfl ?_
  refine V_sipush (v := 400) dX1_init_14 rfl ?_
  refine V_newa (t := 0) (len := 400) dX1_init_17 (by decide) rfl (by decide) rfl (by decide) (Nat.le_of_ble_eq_true rfl) gw206 (Nat.le_of_ble_eq_true rfl) (Nat.le_of_ble_eq_true rfl) rfl rfl ?_
  have z3 := v_Zr_up z2
  refine V_putr (k := 17) dX1_init_19 rfl (by decide) vf_X1_15 (by decide) (fun _ => ⟨rfl, rfl, rfl⟩) (fun a => ⟨rfl, rfl⟩) (Or.inl (by decide)) ?_
  have z4 := v_Zr_sr (c := 15) (j := 2) (x := 17 + 1) z3 (by decide) (Or.inl (by decide))
  refine V_aload_n (k := 0) dX1_init_22 rfl rfl ?_
  refine V_bipush (v := 6) dX1_init_23 rfl ?_
  refine V_newa (t := 0) (len := 6) dX1_init_25 (by decide) rfl (by decide) rfl (by decide) (Nat.le_of_ble_eq_true rfl) gw206 (Nat.le_of_ble_eq_true rfl) (Nat.le_of_ble_eq_true rfl) rfl rfl ?_
  have z5 := v_Zr_up z4
  refine V_putr (k := 18) dX1_init_27 rfl (by decide) vf_X1_18 (by decide) (fun _ => ⟨rfl, rfl, rfl⟩) (fun a => ⟨rfl, rfl⟩) (Or.inl (by decide)) ?_
  have z6 := v_Zr_sr (c := 15) (j := 3) (x := 18 + 1) z5 (by decide) (Or.inl (by decide))
  refine V_aload_n (k := 0) dX1_init_30 rfl rfl ?_
  refine V_sipush (v := 600) dX1_init_31 rfl ?_
  refine V_newa (t := 0) (len := 600) dX1_init_34 (by decide) rfl (by decide) rfl (by decide) (Nat.le_of_ble_eq_true rfl) gw206 (Nat.le_of_ble_eq_true rfl) (Nat.le_of_ble_eq_true rfl) rfl rfl ?_
  have z7 := v_Zr_up z6
  refine V_putr (k := 19) dX1_init_36 rfl (by decide) vf_X1_21 (by decide) (fun _ => ⟨rfl, rfl, rfl⟩) (fun a => ⟨rfl, rfl⟩) (Or.inl (by decide)) ?_
  have z8 := v_Zr_sr (c := 15) (j := 4) (x := 19 + 1) z7 (by decide) (Or.inl (by decide))
  refine V_aload_n (k := 0) dX1_init_39 rfl rfl ?_
  refine V_bipush (v := 6) dX1_init_40 rfl ?_
  refine V_newa (t := 0) (len := 6) dX1_init_42 (by decide) rfl (by decide) rfl (by decide) (Nat.le_of_ble_eq_true rfl) gw206 (Nat.le_of_ble_eq_true rfl) (Nat.le_of_ble_eq_true rfl) rfl rfl ?_
  have z9 := v_Zr_up z8
  refine V_putr (k := 20) dX1_init_44 rfl (by decide) vf_X1_24 (by decide) (fun _ => ⟨rfl, rfl, rfl⟩) (fun a => ⟨rfl, rfl⟩) (Or.inl (by decide)) ?_
  have z10 := v_Zr_sr (c := 15) (j := 5) (x := 20 + 1) z9 (by decide) (Or.inl (by decide))
  refine V_aload_n (k := 0) dX1_init_47 rfl rfl ?_
  refine V_bipush (v := 72) dX1_init_48 rfl ?_
  refine V_newa (t := 0) (len := 72) dX1_init_50 (by decide) rfl (by decide) rfl (by decide) (Nat.le_of_ble_eq_true rfl) gw206 (Nat.le_of_ble_eq_true rfl) (Nat.le_of_ble_eq_true rfl) rfl rfl ?_
  have z11 := v_Zr_up z10
  refine V_putr (k := 21) dX1_init_52 rfl (by decide) vf_X1_27 (by decide) (fun _ => ⟨rfl, rfl, rfl⟩) (fun a => ⟨rfl, rfl⟩) (Or.inl (by decide)) ?_
  have z12 := v_Zr_sr (c := 15) (j := 6) (x := 21 + 1) z11 (by decide) (Or.inl (by decide))
  refine V_aload_n (k := 0) dX1_init_55 rfl rfl ?_
  refine V_bipush (v := 100) dX1_init_56 rfl ?_
  refine V_newa (t := 0) (len := 100) dX1_init_58 (by decide) rfl (by decide) rfl (by decide) (Nat.le_of_ble_eq_true rfl) gw206 (Nat.le_of_ble_eq_true rfl) (Nat.le_of_ble_eq_true rfl) rfl rfl ?_
  have z13 := v_Zr_up z12
  refine V_putr (k := 22) dX1_init_60 rfl (by decide) vf_X1_30 (by decide) (fun _ => ⟨rfl, rfl, rfl⟩) (fun a => ⟨rfl, rfl⟩) (Or.inl (by decide)) ?_
  have z14 := v_Zr_sr (c := 15) (j := 7) (x := 22 + 1) z13 (by decide) (Or.inl (by decide))
  refine V_aload_n (k := 0) dX1_init_63 rfl rfl ?_
  refine V_iconst (v := 4) dX1_init_64 rfl ?_
  refine V_newa (t := 0) (len := 4) dX1_init_65 (by decide) rfl (by decide) rfl (by decide) (Nat.le_of_ble_eq_true rfl) gw206 (Nat.le_of_ble_eq_true rfl) (Nat.le_of_ble_eq_true rfl) rfl rfl ?_
  have z15 := v_Zr_up z14
  refine V_putr (k := 23) dX1_init_67 rfl (by decide) vf_X1_33 (by decide) (fun _ => ⟨rfl, rfl, rfl⟩) (fun a => ⟨rfl, rfl⟩) (Or.inl (by decide)) ?_
  have z16 := v_Zr_sr (c := 15) (j := 8) (x := 23 + 1) z15 (by decide) (Or.inl (by decide))
  refine V_aload_n (k := 0) dX1_init_70 rfl rfl ?_
  refine V_getr (k := 22) dX1_init_71 rfl (by decide) vf_X1_30 (by decide) rfl ?_
  refine V_iconst (v := 1) dX1_init_74 rfl ?_
  refine V_callSA (d' := 1) (M1 := v_fl (v_sr (v_sr (v_sr (v_sr (v_sr (v_sr (v_sr (v_sr (M) 15 1 (16 + 1)) 15 2 (17 + 1)) 15 3 (18 + 1)) 15 4 (19 + 1)) 15 5 (20 + 1)) 15 6 (21 + 1)) 15 7 (22 + 1)) 15 8 (23 + 1)) 22 100 1) (st0 := []) dX1_init_75 lk_X1_36 rfl (cF_ok (by decide) rfl (by decide) z16) rfl rfl (Nat.le_of_ble_eq_true rfl) (by decide) (by decide) rfl (fun h => v_Zr_fl h (by decide)) rfl rfl ?_
  have z17 := v_Zr_fl (c := 22) (k := 100) (x := 1) z16 (by decide)
  exact V_ret (fun h => by cases h) (Or.inl ⟨rfl, rfl⟩) dX1_init_78 (fun ty x h1 h2 => by cases h1) rfl
def mk24 (M : vM) : vM := v_sr (v_sr (v_sr (M) 24 0 (25 + 1)) 24 1 (26 + 1)) 24 2 (27 + 1)
theorem zk24 {M : vM} (z0 : v_Zr 25 M) : v_Zr 28 (mk24 M) := by
  have z1 := v_Zr_up z0
  have z2 := v_Zr_sr (c := 24) (j := 0) (x := 25 + 1) z1 (by decide) (Or.inl (by decide))
  have z3 := v_Zr_up z2
  have z4 := v_Zr_sr (c := 24) (j := 1) (x := 26 + 1) z3 (by decide) (Or.inl (by decide))
  have z5 := v_Zr_up z4
  have z6 := v_Zr_sr (c := 24) (j := 2) (x := 27 + 1) z5 (by decide) (Or.inl (by decide))
  exact z6
set_option maxRecDepth 20000 in
set_option maxHeartbeats 4000000 in
theorem ck24 {l : Launch} {D : va_G} {dA : Nat → ClassId} (M : vM) (z0 : v_Zr 25 M) : Ct l D dA sX7_init true 28 1 3 1659 25 [.ref 24] M (rV (mk24 M)) := by
  refine Ct_of (lv := [(0, .ref 24)]) (by decide +kernel) rfl (Nat.le_of_ble_eq_true rfl) rfl (fun _ => z0) ?_
  refine V_aload_n (k := 0) dX7_init_0 rfl rfl ?_
  refine V_objInit dX7_init_1 gw212 gw111 gw112 (Nat.le_of_ble_eq_true rfl) (by decide) ?_
  refine V_aload_n (k := 0) dX7_init_4 rfl rfl ?_
  refine V_sipush (v := 1458) dX7_init_5 rfl ?_
  refine V_newa (t := 3) (len := 1458) dX7_init_8 (by decide) rfl (by decide) rfl (by decide) (Nat.le_of_ble_eq_true rfl) gw235 (Nat.le_of_ble_eq_true rfl) (Nat.le_of_ble_eq_true rfl) rfl rfl ?_
  have z1 := v_Zr_up z0
  refine V_putr (k := 25) dX7_init_10 rfl (by decide) vf_X7_9 (by decide) (fun _ => ⟨rfl, rfl, rfl⟩) (fun a => ⟨rfl, rfl⟩) (Or.inl (by decide)) ?_
  have z2 := v_Zr_sr (c := 24) (j := 0) (x := 25 + 1) z1 (by decide) (Or.inl (by decide))
  refine V_aload_n (k := 0) dX7_init_13 rfl rfl ?_
  refine V_bipush (v := 100) dX7_init_14 rfl ?_
  refine V_newa (t := 0) (len := 100) dX7_init_16 (by decide) rfl (by decide) rfl (by decide) (Nat.le_of_ble_eq_true rfl) gw206 (Nat.le_of_ble_eq_true rfl) (Nat.le_of_ble_eq_true rfl) rfl rfl ?_
  have z3 := v_Zr_up z2
  refine V_putr (k := 26) dX7_init_18 rfl (by decide) vf_X7_15 (by decide) (fun _ => ⟨rfl, rfl, rfl⟩) (fun a => ⟨rfl, rfl⟩) (Or.inl (by decide)) ?_
  have z4 := v_Zr_sr (c := 24) (j := 1) (x := 26 + 1) z3 (by decide) (Or.inl (by decide))
  refine V_aload_n (k := 0) dX7_init_21 rfl rfl ?_
  refine V_bipush (v := 101) dX7_init_22 rfl ?_
  refine V_newa (t := 1) (len := 101) dX7_init_24 (by decide) rfl (by decide) rfl (by decide) (Nat.le_of_ble_eq_true rfl) gw236 (Nat.le_of_ble_eq_true rfl) (Nat.le_of_ble_eq_true rfl) rfl rfl ?_
  have z5 := v_Zr_up z4
  refine V_putr (k := 27) dX7_init_26 rfl (by decide) vf_X7_19 (by decide) (fun _ => ⟨rfl, rfl, rfl⟩) (fun a => ⟨rfl, rfl⟩) (Or.inl (by decide)) ?_
  have z6 := v_Zr_sr (c := 24) (j := 2) (x := 27 + 1) z5 (by decide) (Or.inl (by decide))
  exact V_ret (fun h => by cases h) (Or.inl ⟨rfl, rfl⟩) dX7_init_29 (fun ty x h1 h2 => by cases h1) rfl
def mk28 (M : vM) : vM := v_sr (v_sr (v_sr (M) 28 0 (29 + 1)) 28 1 (30 + 1)) 28 2 (31 + 1)
theorem zk28 {M : vM} (z0 : v_Zr 29 M) : v_Zr 32 (mk28 M) := by
  have z1 := v_Zr_up z0
  have z2 := v_Zr_sr (c := 28) (j := 0) (x := 29 + 1) z1 (by decide) (Or.inl (by decide))
  have z3 := v_Zr_up z2
  have z4 := v_Zr_sr (c := 28) (j := 1) (x := 30 + 1) z3 (by decide) (Or.inl (by decide))
  have z5 := v_Zr_up z4
  have z6 := v_Zr_sr (c := 28) (j := 2) (x := 31 + 1) z5 (by decide) (Or.inl (by decide))
  exact z6
set_option maxRecDepth 20000 in
set_option maxHeartbeats 4000000 in
theorem ck28 {l : Launch} {D : va_G} {dA : Nat → ClassId} (M : vM) (z0 : v_Zr 29 M) : Ct l D dA sX6_init true 32 1 3 42 29 [.ref 28] M (rV (mk28 M)) := by
  refine Ct_of (lv := [(0, .ref 28)]) (by decide +kernel) rfl (Nat.le_of_ble_eq_true rfl) rfl (fun _ => z0) ?_
  refine V_aload_n (k := 0) dX6_init_0 rfl rfl ?_
  refine V_objInit dX6_init_1 gw242 gw111 gw112 (Nat.le_of_ble_eq_true rfl) (by decide) ?_
  refine V_aload_n (k := 0) dX6_init_4 rfl rfl ?_
  refine V_bipush (v := 14) dX6_init_5 rfl ?_
  refine V_newa (t := 0) (len := 14) dX6_init_7 (by decide) rfl (by decide) rfl (by decide) (Nat.le_of_ble_eq_true rfl) gw206 (Nat.le_of_ble_eq_true rfl) (Nat.le_of_ble_eq_true rfl) rfl rfl ?_
  have z1 := v_Zr_up z0
  refine V_putr (k := 29) dX6_init_9 rfl (by decide) vf_X6_9 (by decide) (fun _ => ⟨rfl, rfl, rfl⟩) (fun a => ⟨rfl, rfl⟩) (Or.inl (by decide)) ?_
  have z2 := v_Zr_sr (c := 28) (j := 0) (x := 29 + 1) z1 (by decide) (Or.inl (by decide))
  refine V_aload_n (k := 0) dX6_init_12 rfl rfl ?_
  refine V_bipush (v := 14) dX6_init_13 rfl ?_
  refine V_newa (t := 0) (len := 14) dX6_init_15 (by decide) rfl (by decide) rfl (by decide) (Nat.le_of_ble_eq_true rfl) gw206 (Nat.le_of_ble_eq_true rfl) (Nat.le_of_ble_eq_true rfl) rfl rfl ?_
  have z3 := v_Zr_up z2
  refine V_putr (k := 30) dX6_init_17 rfl (by decide) vf_X6_15 (by decide) (fun _ => ⟨rfl, rfl, rfl⟩) (fun a => ⟨rfl, rfl⟩) (Or.inl (by decide)) ?_
  have z4 := v_Zr_sr (c := 28) (j := 1) (x := 30 + 1) z3 (by decide) (Or.inl (by decide))
  refine V_aload_n (k := 0) dX6_init_20 rfl rfl ?_
  refine V_bipush (v := 14) dX6_init_21 rfl ?_
  refine V_newa (t := 0) (len := 14) dX6_init_23 (by decide) rfl (by decide) rfl (by decide) (Nat.le_of_ble_eq_true rfl) gw206 (Nat.le_of_ble_eq_true rfl) (Nat.le_of_ble_eq_true rfl) rfl rfl ?_
  have z5 := v_Zr_up z4
  refine V_putr (k := 31) dX6_init_25 rfl (by decide) vf_X6_18 (by decide) (fun _ => ⟨rfl, rfl, rfl⟩) (fun a => ⟨rfl, rfl⟩) (Or.inl (by decide)) ?_
  have z6 := v_Zr_sr (c := 28) (j := 2) (x := 31 + 1) z5 (by decide) (Or.inl (by decide))
  exact V_ret (fun h => by cases h) (Or.inl ⟨rfl, rfl⟩) dX6_init_28 (fun ty x h1 h2 => by cases h1) rfl
def mk32 (M : vM) : vM := v_sr (M) 32 0 (33 + 1)
theorem zk32 {M : vM} (z0 : v_Zr 33 M) : v_Zr 34 (mk32 M) := by
  have z1 := v_Zr_up z0
  have z2 := v_Zr_sr (c := 32) (j := 0) (x := 33 + 1) z1 (by decide) (Or.inl (by decide))
  exact z2
set_option maxRecDepth 20000 in
set_option maxHeartbeats 4000000 in
theorem ck32 {l : Launch} {D : va_G} {dA : Nat → ClassId} (M : vM) (z0 : v_Zr 33 M) : Ct l D dA sX0_init true 34 1 1 100 33 [.ref 32] M (rV (mk32 M)) := by
  refine Ct_of (lv := [(0, .ref 32)]) (by decide +kernel) rfl (Nat.le_of_ble_eq_true rfl) rfl (fun _ => z0) ?_
  refine V_aload_n (k := 0) dX0_init_0 rfl rfl ?_
  refine V_objInit dX0_init_1 gw273 gw111 gw112 (Nat.le_of_ble_eq_true rfl) (by decide) ?_
  refine V_aload_n (k := 0) dX0_init_4 rfl rfl ?_
  refine V_bipush (v := 100) dX0_init_5 rfl ?_
  refine V_newa (t := 0) (len := 100) dX0_init_7 (by decide) rfl (by decide) rfl (by decide) (Nat.le_of_ble_eq_true rfl) gw206 (Nat.le_of_ble_eq_true rfl) (Nat.le_of_ble_eq_true rfl) rfl rfl ?_
  have z1 := v_Zr_up z0
  refine V_putr (k := 33) dX0_init_9 rfl (by decide) vf_X0_9 (by decide) (fun _ => ⟨rfl, rfl, rfl⟩) (fun a => ⟨rfl, rfl⟩) (Or.inl (by decide)) ?_
  have z2 := v_Zr_sr (c := 32) (j := 0) (x := 33 + 1) z1 (by decide) (Or.inl (by decide))
  exact V_ret (fun h => by cases h) (Or.inl ⟨rfl, rfl⟩) dX0_init_12 (fun ty x h1 h2 => by cases h1) rfl
def mk34 (M : vM) : vM := v_sr (M) 34 0 (35 + 1)
theorem zk34 {M : vM} (z0 : v_Zr 35 M) : v_Zr 36 (mk34 M) := by
  have z1 := v_Zr_up z0
  have z2 := v_Zr_sr (c := 34) (j := 0) (x := 35 + 1) z1 (by decide) (Or.inl (by decide))
  exact z2
set_option maxRecDepth 20000 in
set_option maxHeartbeats 4000000 in
theorem ck34 {l : Launch} {D : va_G} {dA : Nat → ClassId} (M : vM) (z0 : v_Zr 35 M) : Ct l D dA sX2_init true 36 1 1 12 35 [.ref 34] M (rV (mk34 M)) := by
  refine Ct_of (lv := [(0, .ref 34)]) (by decide +kernel) rfl (Nat.le_of_ble_eq_true rfl) rfl (fun _ => z0) ?_
  refine V_aload_n (k := 0) dX2_init_0 rfl rfl ?_
  refine V_objInit dX2_init_1 gw283 gw111 gw112 (Nat.le_of_ble_eq_true rfl) (by decide) ?_
  refine V_aload_n (k := 0) dX2_init_4 rfl rfl ?_
  refine V_bipush (v := 12) dX2_init_5 rfl ?_
  refine V_newa (t := 0) (len := 12) dX2_init_7 (by decide) rfl (by decide) rfl (by decide) (Nat.le_of_ble_eq_true rfl) gw206 (Nat.le_of_ble_eq_true rfl) (Nat.le_of_ble_eq_true rfl) rfl rfl ?_
  have z1 := v_Zr_up z0
  refine V_putr (k := 35) dX2_init_9 rfl (by decide) vf_X2_9 (by decide) (fun _ => ⟨rfl, rfl, rfl⟩) (fun a => ⟨rfl, rfl⟩) (Or.inl (by decide)) ?_
  have z2 := v_Zr_sr (c := 34) (j := 0) (x := 35 + 1) z1 (by decide) (Or.inl (by decide))
  exact V_ret (fun h => by cases h) (Or.inl ⟨rfl, rfl⟩) dX2_init_12 (fun ty x h1 h2 => by cases h1) rfl
def mk36 (M : vM) : vM := v_sr (v_sr (M) 36 0 (37 + 1)) 36 1 (38 + 1)
theorem zk36 {M : vM} (z0 : v_Zr 37 M) : v_Zr 39 (mk36 M) := by
  have z1 := v_Zr_up z0
  have z2 := v_Zr_sr (c := 36) (j := 0) (x := 37 + 1) z1 (by decide) (Or.inl (by decide))
  have z3 := v_Zr_up z2
  have z4 := v_Zr_sr (c := 36) (j := 1) (x := 38 + 1) z3 (by decide) (Or.inl (by decide))
  exact z4
set_option maxRecDepth 20000 in
set_option maxHeartbeats 4000000 in
theorem ck36 {l : Launch} {D : va_G} {dA : Nat → ClassId} (M : vM) (z0 : v_Zr 37 M) : Ct l D dA sX5_init true 39 1 2 24 37 [.ref 36] M (rV (mk36 M)) := by
  refine Ct_of (lv := [(0, .ref 36)]) (by decide +kernel) rfl (Nat.le_of_ble_eq_true rfl) rfl (fun _ => z0) ?_
  refine V_aload_n (k := 0) dX5_init_0 rfl rfl ?_
  refine V_objInit dX5_init_1 gw312 gw111 gw112 (Nat.le_of_ble_eq_true rfl) (by decide) ?_
  refine V_aload_n (k := 0) dX5_init_4 rfl rfl ?_
  refine V_bipush (v := 12) dX5_init_5 rfl ?_
  refine V_newa (t := 0) (len := 12) dX5_init_7 (by decide) rfl (by decide) rfl (by decide) (Nat.le_of_ble_eq_true rfl) gw206 (Nat.le_of_ble_eq_true rfl) (Nat.le_of_ble_eq_true rfl) rfl rfl ?_
  have z1 := v_Zr_up z0
  refine V_putr (k := 37) dX5_init_9 rfl (by decide) vf_X5_9 (by decide) (fun _ => ⟨rfl, rfl, rfl⟩) (fun a => ⟨rfl, rfl⟩) (Or.inl (by decide)) ?_
  have z2 := v_Zr_sr (c := 36) (j := 0) (x := 37 + 1) z1 (by decide) (Or.inl (by decide))
  refine V_aload_n (k := 0) dX5_init_12 rfl rfl ?_
  refine V_bipush (v := 12) dX5_init_13 rfl ?_
  refine V_newa (t := 0) (len := 12) dX5_init_15 (by decide) rfl (by decide) rfl (by decide) (Nat.le_of_ble_eq_true rfl) gw206 (Nat.le_of_ble_eq_true rfl) (Nat.le_of_ble_eq_true rfl) rfl rfl ?_
  have z3 := v_Zr_up z2
  refine V_putr (k := 38) dX5_init_17 rfl (by decide) vf_X5_15 (by decide) (fun _ => ⟨rfl, rfl, rfl⟩) (fun a => ⟨rfl, rfl⟩) (Or.inl (by decide)) ?_
  have z4 := v_Zr_sr (c := 36) (j := 1) (x := 38 + 1) z3 (by decide) (Or.inl (by decide))
  exact V_ret (fun h => by cases h) (Or.inl ⟨rfl, rfl⟩) dX5_init_20 (fun ty x h1 h2 => by cases h1) rfl
def mk40 (M : vM) : vM := v_sr (v_sr (v_sr (v_sr (v_sr (M) 40 7 (41 + 1)) 40 8 (42 + 1)) 40 9 (43 + 1)) 40 10 (44 + 1)) 40 11 (45 + 1)
theorem zk40 {M : vM} (z0 : v_Zr 41 M) : v_Zr 46 (mk40 M) := by
  have z1 := v_Zr_up z0
  have z2 := v_Zr_sr (c := 40) (j := 7) (x := 41 + 1) z1 (by decide) (Or.inl (by decide))
  have z3 := v_Zr_up z2
  have z4 := v_Zr_sr (c := 40) (j := 8) (x := 42 + 1) z3 (by decide) (Or.inl (by decide))
  have z5 := v_Zr_up z4
  have z6 := v_Zr_sr (c := 40) (j := 9) (x := 43 + 1) z5 (by decide) (Or.inl (by decide))
  have z7 := v_Zr_up z6
  have z8 := v_Zr_sr (c := 40) (j := 10) (x := 44 + 1) z7 (by decide) (Or.inl (by decide))
  have z9 := v_Zr_up z8
  have z10 := v_Zr_sr (c := 40) (j := 11) (x := 45 + 1) z9 (by decide) (Or.inl (by decide))
  exact z10
set_option maxRecDepth 20000 in
set_option maxHeartbeats 4000000 in
theorem ck40 {l : Launch} {D : va_G} {dA : Nat → ClassId} (M : vM) (z0 : v_Zr 41 M) : Ct l D dA sX3_init true 46 1 5 84 41 [.ref 40] M (rV (mk40 M)) := by
  refine Ct_of (lv := [(0, .ref 40)]) (by decide +kernel) rfl (Nat.le_of_ble_eq_true rfl) rfl (fun _ => z0) ?_
  refine V_aload_n (k := 0) dX3_init_0 rfl rfl ?_
  refine V_objInit dX3_init_1 gw336 gw111 gw112 (Nat.le_of_ble_eq_true rfl) (by decide) ?_
  refine V_aload_n (k := 0) dX3_init_4 rfl rfl ?_
  refine V_bipush (v := 20) dX3_init_5 rfl ?_
  refine V_newa (t := 0) (len := 20) dX3_init_7 (by decide) rfl (by decide) rfl (by decide) (Nat.le_of_ble_eq_true rfl) gw206 (Nat.le_of_ble_eq_true rfl) (Nat.le_of_ble_eq_true rfl) rfl rfl ?_
  have z1 := v_Zr_up z0
  refine V_putr (k := 41) dX3_init_9 rfl (by decide) vf_X3_9 (by decide) (fun _ => ⟨rfl, rfl, rfl⟩) (fun a => ⟨rfl, rfl⟩) (Or.inl (by decide)) ?_
  have z2 := v_Zr_sr (c := 40) (j := 7) (x := 41 + 1) z1 (by decide) (Or.inl (by decide))
  refine V_aload_n (k := 0) dX3_init_12 rfl rfl ?_
  refine V_bipush (v := 20) dX3_init_13 rfl ?_
  refine V_newa (t := 0) (len := 20) dX3_init_15 (by decide) rfl (by decide) rfl (by decide) (Nat.le_of_ble_eq_true rfl) gw206 (Nat.le_of_ble_eq_true rfl) (Nat.le_of_ble_eq_true rfl) rfl rfl ?_
  have z3 := v_Zr_up z2
  refine V_putr (k := 42) dX3_init_17 rfl (by decide) vf_X3_15 (by decide) (fun _ => ⟨rfl, rfl, rfl⟩) (fun a => ⟨rfl, rfl⟩) (Or.inl (by decide)) ?_
  have z4 := v_Zr_sr (c := 40) (j := 8) (x := 42 + 1) z3 (by decide) (Or.inl (by decide))
  refine V_aload_n (k := 0) dX3_init_20 rfl rfl ?_
  refine V_bipush (v := 20) dX3_init_21 rfl ?_
  refine V_newa (t := 0) (len := 20) dX3_init_23 (by decide) rfl (by decide) rfl (by decide) (Nat.le_of_ble_eq_true rfl) gw206 (Nat.le_of_ble_eq_true rfl) (Nat.le_of_ble_eq_true rfl) rfl rfl ?_
  have z5 := v_Zr_up z4
  refine V_putr (k := 43) dX3_init_25 rfl (by decide) vf_X3_18 (by decide) (fun _ => ⟨rfl, rfl, rfl⟩) (fun a => ⟨rfl, rfl⟩) (Or.inl (by decide)) ?_
  have z6 := v_Zr_sr (c := 40) (j := 9) (x := 43 + 1) z5 (by decide) (Or.inl (by decide))
  refine V_aload_n (k := 0) dX3_init_28 rfl rfl ?_
  refine V_bipush (v := 12) dX3_init_29 rfl ?_
  refine V_newa (t := 0) (len := 12) dX3_init_31 (by decide) rfl (by decide) rfl (by decide) (Nat.le_of_ble_eq_true rfl) gw206 (Nat.le_of_ble_eq_true rfl) (Nat.le_of_ble_eq_true rfl) rfl rfl ?_
  have z7 := v_Zr_up z6
  refine V_putr (k := 44) dX3_init_33 rfl (by decide) vf_X3_21 (by decide) (fun _ => ⟨rfl, rfl, rfl⟩) (fun a => ⟨rfl, rfl⟩) (Or.inl (by decide)) ?_
  have z8 := v_Zr_sr (c := 40) (j := 10) (x := 44 + 1) z7 (by decide) (Or.inl (by decide))
  refine V_aload_n (k := 0) dX3_init_36 rfl rfl ?_
  refine V_bipush (v := 12) dX3_init_37 rfl ?_
  refine V_newa (t := 0) (len := 12) dX3_init_39 (by decide) rfl (by decide) rfl (by decide) (Nat.le_of_ble_eq_true rfl) gw206 (Nat.le_of_ble_eq_true rfl) (Nat.le_of_ble_eq_true rfl) rfl rfl ?_
  have z9 := v_Zr_up z8
  refine V_putr (k := 45) dX3_init_41 rfl (by decide) vf_X3_24 (by decide) (fun _ => ⟨rfl, rfl, rfl⟩) (fun a => ⟨rfl, rfl⟩) (Or.inl (by decide)) ?_
  have z10 := v_Zr_sr (c := 40) (j := 11) (x := 45 + 1) z9 (by decide) (Or.inl (by decide))
  exact V_ret (fun h => by cases h) (Or.inl ⟨rfl, rfl⟩) dX3_init_44 (fun ty x h1 h2 => by cases h1) rfl
def mk47 (M : vM) : vM := v_sr (v_sr (v_sr (v_sr (v_sr (M) 47 7 (48 + 1)) 47 8 (49 + 1)) 47 9 (50 + 1)) 47 10 (51 + 1)) 47 11 (52 + 1)
theorem zk47 {M : vM} (z0 : v_Zr 48 M) : v_Zr 53 (mk47 M) := by
  have z1 := v_Zr_up z0
  have z2 := v_Zr_sr (c := 47) (j := 7) (x := 48 + 1) z1 (by decide) (Or.inl (by decide))
  have z3 := v_Zr_up z2
  have z4 := v_Zr_sr (c := 47) (j := 8) (x := 49 + 1) z3 (by decide) (Or.inl (by decide))
  have z5 := v_Zr_up z4
  have z6 := v_Zr_sr (c := 47) (j := 9) (x := 50 + 1) z5 (by decide) (Or.inl (by decide))
  have z7 := v_Zr_up z6
  have z8 := v_Zr_sr (c := 47) (j := 10) (x := 51 + 1) z7 (by decide) (Or.inl (by decide))
  have z9 := v_Zr_up z8
  have z10 := v_Zr_sr (c := 47) (j := 11) (x := 52 + 1) z9 (by decide) (Or.inl (by decide))
  exact z10
set_option maxRecDepth 20000 in
set_option maxHeartbeats 4000000 in
theorem ck47 {l : Launch} {D : va_G} {dA : Nat → ClassId} (M : vM) (z0 : v_Zr 48 M) : Ct l D dA sX3_init true 53 1 5 84 48 [.ref 47] M (rV (mk47 M)) := by
  refine Ct_of (lv := [(0, .ref 47)]) (by decide +kernel) rfl (Nat.le_of_ble_eq_true rfl) rfl (fun _ => z0) ?_
  refine V_aload_n (k := 0) dX3_init_0 rfl rfl ?_
  refine V_objInit dX3_init_1 gw336 gw111 gw112 (Nat.le_of_ble_eq_true rfl) (by decide) ?_
  refine V_aload_n (k := 0) dX3_init_4 rfl rfl ?_
  refine V_bipush (v := 20) dX3_init_5 rfl ?_
  refine V_newa (t := 0) (len := 20) dX3_init_7 (by decide) rfl (by decide) rfl (by decide) (Nat.le_of_ble_eq_true rfl) gw206 (Nat.le_of_ble_eq_true rfl) (Nat.le_of_ble_eq_true rfl) rfl rfl ?_
  have z1 := v_Zr_up z0
  refine V_putr (k := 48) dX3_init_9 rfl (by decide) vf_X3_9 (by decide) (fun _ => ⟨rfl, rfl, rfl⟩) (fun a => ⟨rfl, rfl⟩) (Or.inl (by decide)) ?_
  have z2 := v_Zr_sr (c := 47) (j := 7) (x := 48 + 1) z1 (by decide) (Or.inl (by decide))
  refine V_aload_n (k := 0) dX3_init_12 rfl rfl ?_
  refine V_bipush (v := 20) dX3_init_13 rfl ?_
  refine V_newa (t := 0) (len := 20) dX3_init_15 (by decide) rfl (by decide) rfl (by decide) (Nat.le_of_ble_eq_true rfl) gw206 (Nat.le_of_ble_eq_true rfl) (Nat.le_of_ble_eq_true rfl) rfl rfl ?_
  have z3 := v_Zr_up z2
  refine V_putr (k := 49) dX3_init_17 rfl (by decide) vf_X3_15 (by decide) (fun _ => ⟨rfl, rfl, rfl⟩) (fun a => ⟨rfl, rfl⟩) (Or.inl (by decide)) ?_
  have z4 := v_Zr_sr (c := 47) (j := 8) (x := 49 + 1) z3 (by decide) (Or.inl (by decide))
  refine V_aload_n (k := 0) dX3_init_20 rfl rfl ?_
  refine V_bipush (v := 20) dX3_init_21 rfl ?_
  refine V_newa (t := 0) (len := 20) dX3_init_23 (by decide) rfl (by decide) rfl (by decide) (Nat.le_of_ble_eq_true rfl) gw206 (Nat.le_of_ble_eq_true rfl) (Nat.le_of_ble_eq_true rfl) rfl rfl ?_
  have z5 := v_Zr_up z4
  refine V_putr (k := 50) dX3_init_25 rfl (by decide) vf_X3_18 (by decide) (fun _ => ⟨rfl, rfl, rfl⟩) (fun a => ⟨rfl, rfl⟩) (Or.inl (by decide)) ?_
  have z6 := v_Zr_sr (c := 47) (j := 9) (x := 50 + 1) z5 (by decide) (Or.inl (by decide))
  refine V_aload_n (k := 0) dX3_init_28 rfl rfl ?_
  refine V_bipush (v := 12) dX3_init_29 rfl ?_
  refine V_newa (t := 0) (len := 12) dX3_init_31 (by decide) rfl (by decide) rfl (by decide) (Nat.le_of_ble_eq_true rfl) gw206 (Nat.le_of_ble_eq_true rfl) (Nat.le_of_ble_eq_true rfl) rfl rfl ?_
  have z7 := v_Zr_up z6
  refine V_putr (k := 51) dX3_init_33 rfl (by decide) vf_X3_21 (by decide) (fun _ => ⟨rfl, rfl, rfl⟩) (fun a => ⟨rfl, rfl⟩) (Or.inl (by decide)) ?_
  have z8 := v_Zr_sr (c := 47) (j := 10) (x := 51 + 1) z7 (by decide) (Or.inl (by decide))
  refine V_aload_n (k := 0) dX3_init_36 rfl rfl ?_
  refine V_bipush (v := 12) dX3_init_37 rfl ?_
  refine V_newa (t := 0) (len := 12) dX3_init_39 (by decide) rfl (by decide) rfl (by decide) (Nat.le_of_ble_eq_true rfl) gw206 (Nat.le_of_ble_eq_true rfl) (Nat.le_of_ble_eq_true rfl) rfl rfl ?_
  have z9 := v_Zr_up z8
  refine V_putr (k := 52) dX3_init_41 rfl (by decide) vf_X3_24 (by decide) (fun _ => ⟨rfl, rfl, rfl⟩) (fun a => ⟨rfl, rfl⟩) (Or.inl (by decide)) ?_
  have z10 := v_Zr_sr (c := 47) (j := 11) (x := 52 + 1) z9 (by decide) (Or.inl (by decide))
  exact V_ret (fun h => by cases h) (Or.inl ⟨rfl, rfl⟩) dX3_init_44 (fun ty x h1 h2 => by cases h1) rfl
def mk46 (M : vM) : vM := v_sr (v_sr (v_sr (M) 46 4 (53 + 1)) 46 5 (54 + 1)) 46 0 (47 + 1)
theorem zk46 {M : vM} (z0 : v_Zr 53 M) : v_Zr 55 (mk46 M) := by
  have z1 := v_Zr_up z0
  have z2 := v_Zr_sr (c := 46) (j := 4) (x := 53 + 1) z1 (by decide) (Or.inl (by decide))
  have z3 := v_Zr_up z2
  have z4 := v_Zr_sr (c := 46) (j := 5) (x := 54 + 1) z3 (by decide) (Or.inl (by decide))
  have z5 := v_Zr_sr (c := 46) (j := 0) (x := 47 + 1) z4 (by decide) (Or.inl (by decide))
  exact z5
set_option maxRecDepth 20000 in
set_option maxHeartbeats 4000000 in
theorem ck46 {l : Launch} {D : va_G} {dA : Nat → ClassId} (M : vM) (z0 : v_Zr 53 M) : Ct l D dA sX9_init true 55 1 2 2916 53 [.ref 46, .ref 47] M (rV (mk46 M)) := by
  refine Ct_of (lv := [(0, .ref 46), (1, .ref 47)]) (by decide +kernel) rfl (Nat.le_of_ble_eq_true rfl) rfl (fun _ => z0) ?_
  refine V_aload_n (k := 0) dX9_init_0 rfl rfl ?_
  refine V_objInit dX9_init_1 gw398 gw111 gw112 (Nat.le_of_ble_eq_true rfl) (by decide) ?_
  refine V_aload_n (k := 0) dX9_init_4 rfl rfl ?_
  refine V_sipush (v := 1458) dX9_init_5 rfl ?_
  refine V_newa (t := 1) (len := 1458) dX9_init_8 (by decide) rfl (by decide) rfl (by decide) (Nat.le_of_ble_eq_true rfl) gw236 (Nat.le_of_ble_eq_true rfl) (Nat.le_of_ble_eq_true rfl) rfl rfl ?_
  have z1 := v_Zr_up z0
  refine V_putr (k := 53) dX9_init_10 rfl (by decide) vf_X9_9 (by decide) (fun _ => ⟨rfl, rfl, rfl⟩) (fun a => ⟨rfl, rfl⟩) (Or.inl (by decide)) ?_
  have z2 := v_Zr_sr (c := 46) (j := 4) (x := 53 + 1) z1 (by decide) (Or.inl (by decide))
  refine V_aload_n (k := 0) dX9_init_13 rfl rfl ?_
  refine V_sipush (v := 1458) dX9_init_14 rfl ?_
  refine V_newa (t := 3) (len := 1458) dX9_init_17 (by decide) rfl (by decide) rfl (by decide) (Nat.le_of_ble_eq_true rfl) gw235 (Nat.le_of_ble_eq_true rfl) (Nat.le_of_ble_eq_true rfl) rfl rfl ?_
  have z3 := v_Zr_up z2
  refine V_putr (k := 54) dX9_init_19 rfl (by decide) vf_X9_15 (by decide) (fun _ => ⟨rfl, rfl, rfl⟩) (fun a => ⟨rfl, rfl⟩) (Or.inl (by decide)) ?_
  have z4 := v_Zr_sr (c := 46) (j := 5) (x := 54 + 1) z3 (by decide) (Or.inl (by decide))
  refine V_aload_n (k := 0) dX9_init_22 rfl rfl ?_
  refine V_aload_n (k := 1) dX9_init_23 rfl rfl ?_
  refine V_putr (k := 47) dX9_init_24 rfl (by decide) vf_X9_19 (by decide) (fun h => by cases h) (fun a => ⟨rfl, rfl⟩) (Or.inl (by decide)) ?_
  have z5 := v_Zr_sr (c := 46) (j := 0) (x := 47 + 1) z4 (by decide) (Or.inl (by decide))
  exact V_ret (fun h => by cases h) (Or.inl ⟨rfl, rfl⟩) dX9_init_27 (fun ty x h1 h2 => by cases h1) rfl
def mk55 (M : vM) : vM := v_sr (v_sr (v_sr (v_sr (v_sr (M) 55 7 (56 + 1)) 55 8 (57 + 1)) 55 9 (58 + 1)) 55 10 (59 + 1)) 55 11 (60 + 1)
theorem zk55 {M : vM} (z0 : v_Zr 56 M) : v_Zr 61 (mk55 M) := by
  have z1 := v_Zr_up z0
  have z2 := v_Zr_sr (c := 55) (j := 7) (x := 56 + 1) z1 (by decide) (Or.inl (by decide))
  have z3 := v_Zr_up z2
  have z4 := v_Zr_sr (c := 55) (j := 8) (x := 57 + 1) z3 (by decide) (Or.inl (by decide))
  have z5 := v_Zr_up z4
  have z6 := v_Zr_sr (c := 55) (j := 9) (x := 58 + 1) z5 (by decide) (Or.inl (by decide))
  have z7 := v_Zr_up z6
  have z8 := v_Zr_sr (c := 55) (j := 10) (x := 59 + 1) z7 (by decide) (Or.inl (by decide))
  have z9 := v_Zr_up z8
  have z10 := v_Zr_sr (c := 55) (j := 11) (x := 60 + 1) z9 (by decide) (Or.inl (by decide))
  exact z10
set_option maxRecDepth 20000 in
set_option maxHeartbeats 4000000 in
theorem ck55 {l : Launch} {D : va_G} {dA : Nat → ClassId} (M : vM) (z0 : v_Zr 56 M) : Ct l D dA sX3_init true 61 1 5 84 56 [.ref 55] M (rV (mk55 M)) := by
  refine Ct_of (lv := [(0, .ref 55)]) (by decide +kernel) rfl (Nat.le_of_ble_eq_true rfl) rfl (fun _ => z0) ?_
  refine V_aload_n (k := 0) dX3_init_0 rfl rfl ?_
  refine V_objInit dX3_init_1 gw336 gw111 gw112 (Nat.le_of_ble_eq_true rfl) (by decide) ?_
  refine V_aload_n (k := 0) dX3_init_4 rfl rfl ?_
  refine V_bipush (v := 20) dX3_init_5 rfl ?_
  refine V_newa (t := 0) (len := 20) dX3_init_7 (by decide) rfl (by decide) rfl (by decide) (Nat.le_of_ble_eq_true rfl) gw206 (Nat.le_of_ble_eq_true rfl) (Nat.le_of_ble_eq_true rfl) rfl rfl ?_
  have z1 := v_Zr_up z0
  refine V_putr (k := 56) dX3_init_9 rfl (by decide) vf_X3_9 (by decide) (fun _ => ⟨rfl, rfl, rfl⟩) (fun a => ⟨rfl, rfl⟩) (Or.inl (by decide)) ?_
  have z2 := v_Zr_sr (c := 55) (j := 7) (x := 56 + 1) z1 (by decide) (Or.inl (by decide))
  refine V_aload_n (k := 0) dX3_init_12 rfl rfl ?_
  refine V_bipush (v := 20) dX3_init_13 rfl ?_
  refine V_newa (t := 0) (len := 20) dX3_init_15 (by decide) rfl (by decide) rfl (by decide) (Nat.le_of_ble_eq_true rfl) gw206 (Nat.le_of_ble_eq_true rfl) (Nat.le_of_ble_eq_true rfl) rfl rfl ?_
  have z3 := v_Zr_up z2
  refine V_putr (k := 57) dX3_init_17 rfl (by decide) vf_X3_15 (by decide) (fun _ => ⟨rfl, rfl, rfl⟩) (fun a => ⟨rfl, rfl⟩) (Or.inl (by decide)) ?_
  have z4 := v_Zr_sr (c := 55) (j := 8) (x := 57 + 1) z3 (by decide) (Or.inl (by decide))
  refine V_aload_n (k := 0) dX3_init_20 rfl rfl ?_
  refine V_bipush (v := 20) dX3_init_21 rfl ?_
  refine V_newa (t := 0) (len := 20) dX3_init_23 (by decide) rfl (by decide) rfl (by decide) (Nat.le_of_ble_eq_true rfl) gw206 (Nat.le_of_ble_eq_true rfl) (Nat.le_of_ble_eq_true rfl) rfl rfl ?_
  have z5 := v_Zr_up z4
  refine V_putr (k := 58) dX3_init_25 rfl (by decide) vf_X3_18 (by decide) (fun _ => ⟨rfl, rfl, rfl⟩) (fun a => ⟨rfl, rfl⟩) (Or.inl (by decide)) ?_
  have z6 := v_Zr_sr (c := 55) (j := 9) (x := 58 + 1) z5 (by decide) (Or.inl (by decide))
  refine V_aload_n (k := 0) dX3_init_28 rfl rfl ?_
  refine V_bipush (v := 12) dX3_init_29 rfl ?_
  refine V_newa (t := 0) (len := 12) dX3_init_31 (by decide) rfl (by decide) rfl (by decide) (Nat.le_of_ble_eq_true rfl) gw206 (Nat.le_of_ble_eq_true rfl) (Nat.le_of_ble_eq_true rfl) rfl rfl ?_
  have z7 := v_Zr_up z6
  refine V_putr (k := 59) dX3_init_33 rfl (by decide) vf_X3_21 (by decide) (fun _ => ⟨rfl, rfl, rfl⟩) (fun a => ⟨rfl, rfl⟩) (Or.inl (by decide)) ?_
  have z8 := v_Zr_sr (c := 55) (j := 10) (x := 59 + 1) z7 (by decide) (Or.inl (by decide))
  refine V_aload_n (k := 0) dX3_init_36 rfl rfl ?_
  refine V_bipush (v := 12) dX3_init_37 rfl ?_
  refine V_newa (t := 0) (len := 12) dX3_init_39 (by decide) rfl (by decide) rfl (by decide) (Nat.le_of_ble_eq_true rfl) gw206 (Nat.le_of_ble_eq_true rfl) (Nat.le_of_ble_eq_true rfl) rfl rfl ?_
  have z9 := v_Zr_up z8
  refine V_putr (k := 60) dX3_init_41 rfl (by decide) vf_X3_24 (by decide) (fun _ => ⟨rfl, rfl, rfl⟩) (fun a => ⟨rfl, rfl⟩) (Or.inl (by decide)) ?_
  have z10 := v_Zr_sr (c := 55) (j := 11) (x := 60 + 1) z9 (by decide) (Or.inl (by decide))
  exact V_ret (fun h => by cases h) (Or.inl ⟨rfl, rfl⟩) dX3_init_44 (fun ty x h1 h2 => by cases h1) rfl
def mk62 (M : vM) : vM := v_sr (v_sr (v_sr (v_sr (v_sr (M) 62 7 (63 + 1)) 62 8 (64 + 1)) 62 9 (65 + 1)) 62 10 (66 + 1)) 62 11 (67 + 1)
theorem zk62 {M : vM} (z0 : v_Zr 63 M) : v_Zr 68 (mk62 M) := by
  have z1 := v_Zr_up z0
  have z2 := v_Zr_sr (c := 62) (j := 7) (x := 63 + 1) z1 (by decide) (Or.inl (by decide))
  have z3 := v_Zr_up z2
  have z4 := v_Zr_sr (c := 62) (j := 8) (x := 64 + 1) z3 (by decide) (Or.inl (by decide))
  have z5 := v_Zr_up z4
  have z6 := v_Zr_sr (c := 62) (j := 9) (x := 65 + 1) z5 (by decide) (Or.inl (by decide))
  have z7 := v_Zr_up z6
  have z8 := v_Zr_sr (c := 62) (j := 10) (x := 66 + 1) z7 (by decide) (Or.inl (by decide))
  have z9 := v_Zr_up z8
  have z10 := v_Zr_sr (c := 62) (j := 11) (x := 67 + 1) z9 (by decide) (Or.inl (by decide))
  exact z10
set_option maxRecDepth 20000 in
set_option maxHeartbeats 4000000 in
theorem ck62 {l : Launch} {D : va_G} {dA : Nat → ClassId} (M : vM) (z0 : v_Zr 63 M) : Ct l D dA sX3_init true 68 1 5 84 63 [.ref 62] M (rV (mk62 M)) := by
  refine Ct_of (lv := [(0, .ref 62)]) (by decide +kernel) rfl (Nat.le_of_ble_eq_true rfl) rfl (fun _ => z0) ?_
  refine V_aload_n (k := 0) dX3_init_0 rfl rfl ?_
  refine V_objInit dX3_init_1 gw336 gw111 gw112 (Nat.le_of_ble_eq_true rfl) (by decide) ?_
  refine V_aload_n (k := 0) dX3_init_4 rfl rfl ?_
  refine V_bipush (v := 20) dX3_init_5 rfl ?_
  refine V_newa (t := 0) (len := 20) dX3_init_7 (by decide) rfl (by decide) rfl (by decide) (Nat.le_of_ble_eq_true rfl) gw206 (Nat.le_of_ble_eq_true rfl) (Nat.le_of_ble_eq_true rfl) rfl rfl ?_
  have z1 := v_Zr_up z0
  refine V_putr (k := 63) dX3_init_9 rfl (by decide) vf_X3_9 (by decide) (fun _ => ⟨rfl, rfl, rfl⟩) (fun a => ⟨rfl, rfl⟩) (Or.inl (by decide)) ?_
  have z2 := v_Zr_sr (c := 62) (j := 7) (x := 63 + 1) z1 (by decide) (Or.inl (by decide))
  refine V_aload_n (k := 0) dX3_init_12 rfl rfl ?_
  refine V_bipush (v := 20) dX3_init_13 rfl ?_
  refine V_newa (t := 0) (len := 20) dX3_init_15 (by decide) rfl (by decide) rfl (by decide) (Nat.le_of_ble_eq_true rfl) gw206 (Nat.le_of_ble_eq_true rfl) (Nat.le_of_ble_eq_true rfl) rfl rfl ?_
  have z3 := v_Zr_up z2
  refine V_putr (k := 64) dX3_init_17 rfl (by decide) vf_X3_15 (by decide) (fun _ => ⟨rfl, rfl, rfl⟩) (fun a => ⟨rfl, rfl⟩) (Or.inl (by decide)) ?_
  have z4 := v_Zr_sr (c := 62) (j := 8) (x := 64 + 1) z3 (by decide) (Or.inl (by decide))
  refine V_aload_n (k := 0) dX3_init_20 rfl rfl ?_
  refine V_bipush (v := 20) dX3_init_21 rfl ?_
  refine V_newa (t := 0) (len := 20) dX3_init_23 (by decide) rfl (by decide) rfl (by decide) (Nat.le_of_ble_eq_true rfl) gw206 (Nat.le_of_ble_eq_true rfl) (Nat.le_of_ble_eq_true rfl) rfl rfl ?_
  have z5 := v_Zr_up z4
  refine V_putr (k := 65) dX3_init_25 rfl (by decide) vf_X3_18 (by decide) (fun _ => ⟨rfl, rfl, rfl⟩) (fun a => ⟨rfl, rfl⟩) (Or.inl (by decide)) ?_
  have z6 := v_Zr_sr (c := 62) (j := 9) (x := 65 + 1) z5 (by decide) (Or.inl (by decide))
  refine V_aload_n (k := 0) dX3_init_28 rfl rfl ?_
  refine V_bipush (v := 12) dX3_init_29 rfl ?_
  refine V_newa (t := 0) (len := 12) dX3_init_31 (by decide) rfl (by decide) rfl (by decide) (Nat.le_of_ble_eq_true rfl) gw206 (Nat.le_of_ble_eq_true rfl) (Nat.le_of_ble_eq_true rfl) rfl rfl ?_
  have z7 := v_Zr_up z6
  refine V_putr (k := 66) dX3_init_33 rfl (by decide) vf_X3_21 (by decide) (fun _ => ⟨rfl, rfl, rfl⟩) (fun a => ⟨rfl, rfl⟩) (Or.inl (by decide)) ?_
  have z8 := v_Zr_sr (c := 62) (j := 10) (x := 66 + 1) z7 (by decide) (Or.inl (by decide))
  refine V_aload_n (k := 0) dX3_init_36 rfl rfl ?_
  refine V_bipush (v := 12) dX3_init_37 rfl ?_
  refine V_newa (t := 0) (len := 12) dX3_init_39 (by decide) rfl (by decide) rfl (by decide) (Nat.le_of_ble_eq_true rfl) gw206 (Nat.le_of_ble_eq_true rfl) (Nat.le_of_ble_eq_true rfl) rfl rfl ?_
  have z9 := v_Zr_up z8
  refine V_putr (k := 67) dX3_init_41 rfl (by decide) vf_X3_24 (by decide) (fun _ => ⟨rfl, rfl, rfl⟩) (fun a => ⟨rfl, rfl⟩) (Or.inl (by decide)) ?_
  have z10 := v_Zr_sr (c := 62) (j := 11) (x := 67 + 1) z9 (by decide) (Or.inl (by decide))
  exact V_ret (fun h => by cases h) (Or.inl ⟨rfl, rfl⟩) dX3_init_44 (fun ty x h1 h2 => by cases h1) rfl
def mk61 (M : vM) : vM := v_sr (v_sr (v_sr (M) 61 4 (68 + 1)) 61 5 (69 + 1)) 61 0 (62 + 1)
theorem zk61 {M : vM} (z0 : v_Zr 68 M) : v_Zr 70 (mk61 M) := by
  have z1 := v_Zr_up z0
  have z2 := v_Zr_sr (c := 61) (j := 4) (x := 68 + 1) z1 (by decide) (Or.inl (by decide))
  have z3 := v_Zr_up z2
  have z4 := v_Zr_sr (c := 61) (j := 5) (x := 69 + 1) z3 (by decide) (Or.inl (by decide))
  have z5 := v_Zr_sr (c := 61) (j := 0) (x := 62 + 1) z4 (by decide) (Or.inl (by decide))
  exact z5
set_option maxRecDepth 20000 in
set_option maxHeartbeats 4000000 in
theorem ck61 {l : Launch} {D : va_G} {dA : Nat → ClassId} (M : vM) (z0 : v_Zr 68 M) : Ct l D dA sX9_init true 70 1 2 2916 68 [.ref 61, .ref 62] M (rV (mk61 M)) := by
  refine Ct_of (lv := [(0, .ref 61), (1, .ref 62)]) (by decide +kernel) rfl (Nat.le_of_ble_eq_true rfl) rfl (fun _ => z0) ?_
  refine V_aload_n (k := 0) dX9_init_0 rfl rfl ?_
  refine V_objInit dX9_init_1 gw398 gw111 gw112 (Nat.le_of_ble_eq_true rfl) (by decide) ?_
  refine V_aload_n (k := 0) dX9_init_4 rfl rfl ?_
  refine V_sipush (v := 1458) dX9_init_5 rfl ?_
  refine V_newa (t := 1) (len := 1458) dX9_init_8 (by decide) rfl (by decide) rfl (by decide) (Nat.le_of_ble_eq_true rfl) gw236 (Nat.le_of_ble_eq_true rfl) (Nat.le_of_ble_eq_true rfl) rfl rfl ?_
  have z1 := v_Zr_up z0
  refine V_putr (k := 68) dX9_init_10 rfl (by decide) vf_X9_9 (by decide) (fun _ => ⟨rfl, rfl, rfl⟩) (fun a => ⟨rfl, rfl⟩) (Or.inl (by decide)) ?_
  have z2 := v_Zr_sr (c := 61) (j := 4) (x := 68 + 1) z1 (by decide) (Or.inl (by decide))
  refine V_aload_n (k := 0) dX9_init_13 rfl rfl ?_
  refine V_sipush (v := 1458) dX9_init_14 rfl ?_
  refine V_newa (t := 3) (len := 1458) dX9_init_17 (by decide) rfl (by decide) rfl (by decide) (Nat.le_of_ble_eq_true rfl) gw235 (Nat.le_of_ble_eq_true rfl) (Nat.le_of_ble_eq_true rfl) rfl rfl ?_
  have z3 := v_Zr_up z2
  refine V_putr (k := 69) dX9_init_19 rfl (by decide) vf_X9_15 (by decide) (fun _ => ⟨rfl, rfl, rfl⟩) (fun a => ⟨rfl, rfl⟩) (Or.inl (by decide)) ?_
  have z4 := v_Zr_sr (c := 61) (j := 5) (x := 69 + 1) z3 (by decide) (Or.inl (by decide))
  refine V_aload_n (k := 0) dX9_init_22 rfl rfl ?_
  refine V_aload_n (k := 1) dX9_init_23 rfl rfl ?_
  refine V_putr (k := 62) dX9_init_24 rfl (by decide) vf_X9_19 (by decide) (fun h => by cases h) (fun a => ⟨rfl, rfl⟩) (Or.inl (by decide)) ?_
  have z5 := v_Zr_sr (c := 61) (j := 0) (x := 62 + 1) z4 (by decide) (Or.inl (by decide))
  exact V_ret (fun h => by cases h) (Or.inl ⟨rfl, rfl⟩) dX9_init_27 (fun ty x h1 h2 => by cases h1) rfl
def mk70 (M : vM) : vM := v_sr (v_sr (v_sr (v_sr (v_sr (M) 70 7 (71 + 1)) 70 8 (72 + 1)) 70 9 (73 + 1)) 70 10 (74 + 1)) 70 11 (75 + 1)
theorem zk70 {M : vM} (z0 : v_Zr 71 M) : v_Zr 76 (mk70 M) := by
  have z1 := v_Zr_up z0
  have z2 := v_Zr_sr (c := 70) (j := 7) (x := 71 + 1) z1 (by decide) (Or.inl (by decide))
  have z3 := v_Zr_up z2
  have z4 := v_Zr_sr (c := 70) (j := 8) (x := 72 + 1) z3 (by decide) (Or.inl (by decide))
  have z5 := v_Zr_up z4
  have z6 := v_Zr_sr (c := 70) (j := 9) (x := 73 + 1) z5 (by decide) (Or.inl (by decide))
  have z7 := v_Zr_up z6
  have z8 := v_Zr_sr (c := 70) (j := 10) (x := 74 + 1) z7 (by decide) (Or.inl (by decide))
  have z9 := v_Zr_up z8
  have z10 := v_Zr_sr (c := 70) (j := 11) (x := 75 + 1) z9 (by decide) (Or.inl (by decide))
  exact z10
set_option maxRecDepth 20000 in
set_option maxHeartbeats 4000000 in
theorem ck70 {l : Launch} {D : va_G} {dA : Nat → ClassId} (M : vM) (z0 : v_Zr 71 M) : Ct l D dA sX3_init true 76 1 5 84 71 [.ref 70] M (rV (mk70 M)) := by
  refine Ct_of (lv := [(0, .ref 70)]) (by decide +kernel) rfl (Nat.le_of_ble_eq_true rfl) rfl (fun _ => z0) ?_
  refine V_aload_n (k := 0) dX3_init_0 rfl rfl ?_
  refine V_objInit dX3_init_1 gw336 gw111 gw112 (Nat.le_of_ble_eq_true rfl) (by decide) ?_
  refine V_aload_n (k := 0) dX3_init_4 rfl rfl ?_
  refine V_bipush (v := 20) dX3_init_5 rfl ?_
  refine V_newa (t := 0) (len := 20) dX3_init_7 (by decide) rfl (by decide) rfl (by decide) (Nat.le_of_ble_eq_true rfl) gw206 (Nat.le_of_ble_eq_true rfl) (Nat.le_of_ble_eq_true rfl) rfl rfl ?_
  have z1 := v_Zr_up z0
  refine V_putr (k := 71) dX3_init_9 rfl (by decide) vf_X3_9 (by decide) (fun _ => ⟨rfl, rfl, rfl⟩) (fun a => ⟨rfl, rfl⟩) (Or.inl (by decide)) ?_
  have z2 := v_Zr_sr (c := 70) (j := 7) (x := 71 + 1) z1 (by decide) (Or.inl (by decide))
  refine V_aload_n (k := 0) dX3_init_12 rfl rfl ?_
  refine V_bipush (v := 20) dX3_init_13 rfl ?_
  refine V_newa (t := 0) (len := 20) dX3_init_15 (by decide) rfl (by decide) rfl (by decide) (Nat.le_of_ble_eq_true rfl) gw206 (Nat.le_of_ble_eq_true rfl) (Nat.le_of_ble_eq_true rfl) rfl rfl ?_
  have z3 := v_Zr_up z2
  refine V_putr (k := 72) dX3_init_17 rfl (by decide) vf_X3_15 (by decide) (fun _ => ⟨rfl, rfl, rfl⟩) (fun a => ⟨rfl, rfl⟩) (Or.inl (by decide)) ?_
  have z4 := v_Zr_sr (c := 70) (j := 8) (x := 72 + 1) z3 (by decide) (Or.inl (by decide))
  refine V_aload_n (k := 0) dX3_init_20 rfl rfl ?_
  refine V_bipush (v := 20) dX3_init_21 rfl ?_
  refine V_newa (t := 0) (len := 20) dX3_init_23 (by decide) rfl (by decide) rfl (by decide) (Nat.le_of_ble_eq_true rfl) gw206 (Nat.le_of_ble_eq_true rfl) (Nat.le_of_ble_eq_true rfl) rfl rfl ?_
  have z5 := v_Zr_up z4
  refine V_putr (k := 73) dX3_init_25 rfl (by decide) vf_X3_18 (by decide) (fun _ => ⟨rfl, rfl, rfl⟩) (fun a => ⟨rfl, rfl⟩) (Or.inl (by decide)) ?_
  have z6 := v_Zr_sr (c := 70) (j := 9) (x := 73 + 1) z5 (by decide) (Or.inl (by decide))
  refine V_aload_n (k := 0) dX3_init_28 rfl rfl ?_
  refine V_bipush (v := 12) dX3_init_29 rfl ?_
  refine V_newa (t := 0) (len := 12) dX3_init_31 (by decide) rfl (by decide) rfl (by decide) (Nat.le_of_ble_eq_true rfl) gw206 (Nat.le_of_ble_eq_true rfl) (Nat.le_of_ble_eq_true rfl) rfl rfl ?_
  have z7 := v_Zr_up z6
  refine V_putr (k := 74) dX3_init_33 rfl (by decide) vf_X3_21 (by decide) (fun _ => ⟨rfl, rfl, rfl⟩) (fun a => ⟨rfl, rfl⟩) (Or.inl (by decide)) ?_
  have z8 := v_Zr_sr (c := 70) (j := 10) (x := 74 + 1) z7 (by decide) (Or.inl (by decide))
  refine V_aload_n (k := 0) dX3_init_36 rfl rfl ?_
  refine V_bipush (v := 12) dX3_init_37 rfl ?_
  refine V_newa (t := 0) (len := 12) dX3_init_39 (by decide) rfl (by decide) rfl (by decide) (Nat.le_of_ble_eq_true rfl) gw206 (Nat.le_of_ble_eq_true rfl) (Nat.le_of_ble_eq_true rfl) rfl rfl ?_
  have z9 := v_Zr_up z8
  refine V_putr (k := 75) dX3_init_41 rfl (by decide) vf_X3_24 (by decide) (fun _ => ⟨rfl, rfl, rfl⟩) (fun a => ⟨rfl, rfl⟩) (Or.inl (by decide)) ?_
  have z10 := v_Zr_sr (c := 70) (j := 11) (x := 75 + 1) z9 (by decide) (Or.inl (by decide))
  exact V_ret (fun h => by cases h) (Or.inl ⟨rfl, rfl⟩) dX3_init_44 (fun ty x h1 h2 => by cases h1) rfl
def mk77 (M : vM) : vM := v_sr (v_sr (v_sr (v_sr (v_sr (M) 77 7 (78 + 1)) 77 8 (79 + 1)) 77 9 (80 + 1)) 77 10 (81 + 1)) 77 11 (82 + 1)
theorem zk77 {M : vM} (z0 : v_Zr 78 M) : v_Zr 83 (mk77 M) := by
  have z1 := v_Zr_up z0
  have z2 := v_Zr_sr (c := 77) (j := 7) (x := 78 + 1) z1 (by decide) (Or.inl (by decide))
  have z3 := v_Zr_up z2
  have z4 := v_Zr_sr (c := 77) (j := 8) (x := 79 + 1) z3 (by decide) (Or.inl (by decide))
  have z5 := v_Zr_up z4
  have z6 := v_Zr_sr (c := 77) (j := 9) (x := 80 + 1) z5 (by decide) (Or.inl (by decide))
  have z7 := v_Zr_up z6
  have z8 := v_Zr_sr (c := 77) (j := 10) (x := 81 + 1) z7 (by decide) (Or.inl (by decide))
  have z9 := v_Zr_up z8
  have z10 := v_Zr_sr (c := 77) (j := 11) (x := 82 + 1) z9 (by decide) (Or.inl (by decide))
  exact z10
set_option maxRecDepth 20000 in
set_option maxHeartbeats 4000000 in
theorem ck77 {l : Launch} {D : va_G} {dA : Nat → ClassId} (M : vM) (z0 : v_Zr 78 M) : Ct l D dA sX3_init true 83 1 5 84 78 [.ref 77] M (rV (mk77 M)) := by
  refine Ct_of (lv := [(0, .ref 77)]) (by decide +kernel) rfl (Nat.le_of_ble_eq_true rfl) rfl (fun _ => z0) ?_
  refine V_aload_n (k := 0) dX3_init_0 rfl rfl ?_
  refine V_objInit dX3_init_1 gw336 gw111 gw112 (Nat.le_of_ble_eq_true rfl) (by decide) ?_
  refine V_aload_n (k := 0) dX3_init_4 rfl rfl ?_
  refine V_bipush (v := 20) dX3_init_5 rfl ?_
  refine V_newa (t := 0) (len := 20) dX3_init_7 (by decide) rfl (by decide) rfl (by decide) (Nat.le_of_ble_eq_true rfl) gw206 (Nat.le_of_ble_eq_true rfl) (Nat.le_of_ble_eq_true rfl) rfl rfl ?_
  have z1 := v_Zr_up z0
  refine V_putr (k := 78) dX3_init_9 rfl (by decide) vf_X3_9 (by decide) (fun _ => ⟨rfl, rfl, rfl⟩) (fun a => ⟨rfl, rfl⟩) (Or.inl (by decide)) ?_
  have z2 := v_Zr_sr (c := 77) (j := 7) (x := 78 + 1) z1 (by decide) (Or.inl (by decide))
  refine V_aload_n (k := 0) dX3_init_12 rfl rfl ?_
  refine V_bipush (v := 20) dX3_init_13 rfl ?_
  refine V_newa (t := 0) (len := 20) dX3_init_15 (by decide) rfl (by decide) rfl (by decide) (Nat.le_of_ble_eq_true rfl) gw206 (Nat.le_of_ble_eq_true rfl) (Nat.le_of_ble_eq_true rfl) rfl rfl ?_
  have z3 := v_Zr_up z2
  refine V_putr (k := 79) dX3_init_17 rfl (by decide) vf_X3_15 (by decide) (fun _ => ⟨rfl, rfl, rfl⟩) (fun a => ⟨rfl, rfl⟩) (Or.inl (by decide)) ?_
  have z4 := v_Zr_sr (c := 77) (j := 8) (x := 79 + 1) z3 (by decide) (Or.inl (by decide))
  refine V_aload_n (k := 0) dX3_init_20 rfl rfl ?_
  refine V_bipush (v := 20) dX3_init_21 rfl ?_
  refine V_newa (t := 0) (len := 20) dX3_init_23 (by decide) rfl (by decide) rfl (by decide) (Nat.le_of_ble_eq_true rfl) gw206 (Nat.le_of_ble_eq_true rfl) (Nat.le_of_ble_eq_true rfl) rfl rfl ?_
  have z5 := v_Zr_up z4
  refine V_putr (k := 80) dX3_init_25 rfl (by decide) vf_X3_18 (by decide) (fun _ => ⟨rfl, rfl, rfl⟩) (fun a => ⟨rfl, rfl⟩) (Or.inl (by decide)) ?_
  have z6 := v_Zr_sr (c := 77) (j := 9) (x := 80 + 1) z5 (by decide) (Or.inl (by decide))
  refine V_aload_n (k := 0) dX3_init_28 rfl rfl ?_
  refine V_bipush (v := 12) dX3_init_29 rfl ?_
  refine V_newa (t := 0) (len := 12) dX3_init_31 (by decide) rfl (by decide) rfl (by decide) (Nat.le_of_ble_eq_true rfl) gw206 (Nat.le_of_ble_eq_true rfl) (Nat.le_of_ble_eq_true rfl) rfl rfl ?_
  have z7 := v_Zr_up z6
  refine V_putr (k := 81) dX3_init_33 rfl (by decide) vf_X3_21 (by decide) (fun _ => ⟨rfl, rfl, rfl⟩) (fun a => ⟨rfl, rfl⟩) (Or.inl (by decide)) ?_
  have z8 := v_Zr_sr (c := 77) (j := 10) (x := 81 + 1) z7 (by decide) (Or.inl (by decide))
  refine V_aload_n (k := 0) dX3_init_36 rfl rfl ?_
  refine V_bipush (v := 12) dX3_init_37 rfl ?_
  refine V_newa (t := 0) (len := 12) dX3_init_39 (by decide) rfl (by decide) rfl (by decide) (Nat.le_of_ble_eq_true rfl) gw206 (Nat.le_of_ble_eq_true rfl) (Nat.le_of_ble_eq_true rfl) rfl rfl ?_
  have z9 := v_Zr_up z8
  refine V_putr (k := 82) dX3_init_41 rfl (by decide) vf_X3_24 (by decide) (fun _ => ⟨rfl, rfl, rfl⟩) (fun a => ⟨rfl, rfl⟩) (Or.inl (by decide)) ?_
  have z10 := v_Zr_sr (c := 77) (j := 11) (x := 82 + 1) z9 (by decide) (Or.inl (by decide))
  exact V_ret (fun h => by cases h) (Or.inl ⟨rfl, rfl⟩) dX3_init_44 (fun ty x h1 h2 => by cases h1) rfl
def mk76 (M : vM) : vM := v_sr (v_sr (v_sr (M) 76 4 (83 + 1)) 76 5 (84 + 1)) 76 0 (77 + 1)
theorem zk76 {M : vM} (z0 : v_Zr 83 M) : v_Zr 85 (mk76 M) := by
  have z1 := v_Zr_up z0
  have z2 := v_Zr_sr (c := 76) (j := 4) (x := 83 + 1) z1 (by decide) (Or.inl (by decide))
  have z3 := v_Zr_up z2
  have z4 := v_Zr_sr (c := 76) (j := 5) (x := 84 + 1) z3 (by decide) (Or.inl (by decide))
  have z5 := v_Zr_sr (c := 76) (j := 0) (x := 77 + 1) z4 (by decide) (Or.inl (by decide))
  exact z5
set_option maxRecDepth 20000 in
set_option maxHeartbeats 4000000 in
theorem ck76 {l : Launch} {D : va_G} {dA : Nat → ClassId} (M : vM) (z0 : v_Zr 83 M) : Ct l D dA sX9_init true 85 1 2 2916 83 [.ref 76, .ref 77] M (rV (mk76 M)) := by
  refine Ct_of (lv := [(0, .ref 76), (1, .ref 77)]) (by decide +kernel) rfl (Nat.le_of_ble_eq_true rfl) rfl (fun _ => z0) ?_
  refine V_aload_n (k := 0) dX9_init_0 rfl rfl ?_
  refine V_objInit dX9_init_1 gw398 gw111 gw112 (Nat.le_of_ble_eq_true rfl) (by decide) ?_
  refine V_aload_n (k := 0) dX9_init_4 rfl rfl ?_
  refine V_sipush (v := 1458) dX9_init_5 rfl ?_
  refine V_newa (t := 1) (len := 1458) dX9_init_8 (by decide) rfl (by decide) rfl (by decide) (Nat.le_of_ble_eq_true rfl) gw236 (Nat.le_of_ble_eq_true rfl) (Nat.le_of_ble_eq_true rfl) rfl rfl ?_
  have z1 := v_Zr_up z0
  refine V_putr (k := 83) dX9_init_10 rfl (by decide) vf_X9_9 (by decide) (fun _ => ⟨rfl, rfl, rfl⟩) (fun a => ⟨rfl, rfl⟩) (Or.inl (by decide)) ?_
  have z2 := v_Zr_sr (c := 76) (j := 4) (x := 83 + 1) z1 (by decide) (Or.inl (by decide))
  refine V_aload_n (k := 0) dX9_init_13 rfl rfl ?_
  refine V_sipush (v := 1458) dX9_init_14 rfl ?_
  refine V_newa (t := 3) (len := 1458) dX9_init_17 (by decide) rfl (by decide) rfl (by decide) (Nat.le_of_ble_eq_true rfl) gw235 (Nat.le_of_ble_eq_true rfl) (Nat.le_of_ble_eq_true rfl) rfl rfl ?_
  have z3 := v_Zr_up z2
  refine V_putr (k := 84) dX9_init_19 rfl (by decide) vf_X9_15 (by decide) (fun _ => ⟨rfl, rfl, rfl⟩) (fun a => ⟨rfl, rfl⟩) (Or.inl (by decide)) ?_
  have z4 := v_Zr_sr (c := 76) (j := 5) (x := 84 + 1) z3 (by decide) (Or.inl (by decide))
  refine V_aload_n (k := 0) dX9_init_22 rfl rfl ?_
  refine V_aload_n (k := 1) dX9_init_23 rfl rfl ?_
  refine V_putr (k := 77) dX9_init_24 rfl (by decide) vf_X9_19 (by decide) (fun h => by cases h) (fun a => ⟨rfl, rfl⟩) (Or.inl (by decide)) ?_
  have z5 := v_Zr_sr (c := 76) (j := 0) (x := 77 + 1) z4 (by decide) (Or.inl (by decide))
  exact V_ret (fun h => by cases h) (Or.inl ⟨rfl, rfl⟩) dX9_init_27 (fun ty x h1 h2 => by cases h1) rfl
def mk85 (M : vM) : vM := v_sr (v_sr (v_sr (v_sr (v_sr (M) 85 7 (86 + 1)) 85 8 (87 + 1)) 85 9 (88 + 1)) 85 10 (89 + 1)) 85 11 (90 + 1)
theorem zk85 {M : vM} (z0 : v_Zr 86 M) : v_Zr 91 (mk85 M) := by
  have z1 := v_Zr_up z0
  have z2 := v_Zr_sr (c := 85) (j := 7) (x := 86 + 1) z1 (by decide) (Or.inl (by decide))
  have z3 := v_Zr_up z2
  have z4 := v_Zr_sr (c := 85) (j := 8) (x := 87 + 1) z3 (by decide) (Or.inl (by decide))
  have z5 := v_Zr_up z4
  have z6 := v_Zr_sr (c := 85) (j := 9) (x := 88 + 1) z5 (by decide) (Or.inl (by decide))
  have z7 := v_Zr_up z6
  have z8 := v_Zr_sr (c := 85) (j := 10) (x := 89 + 1) z7 (by decide) (Or.inl (by decide))
  have z9 := v_Zr_up z8
  have z10 := v_Zr_sr (c := 85) (j := 11) (x := 90 + 1) z9 (by decide) (Or.inl (by decide))
  exact z10
set_option maxRecDepth 20000 in
set_option maxHeartbeats 4000000 in
theorem ck85 {l : Launch} {D : va_G} {dA : Nat → ClassId} (M : vM) (z0 : v_Zr 86 M) : Ct l D dA sX3_init true 91 1 5 84 86 [.ref 85] M (rV (mk85 M)) := by
  refine Ct_of (lv := [(0, .ref 85)]) (by decide +kernel) rfl (Nat.le_of_ble_eq_true rfl) rfl (fun _ => z0) ?_
  refine V_aload_n (k := 0) dX3_init_0 rfl rfl ?_
  refine V_objInit dX3_init_1 gw336 gw111 gw112 (Nat.le_of_ble_eq_true rfl) (by decide) ?_
  refine V_aload_n (k := 0) dX3_init_4 rfl rfl ?_
  refine V_bipush (v := 20) dX3_init_5 rfl ?_
  refine V_newa (t := 0) (len := 20) dX3_init_7 (by decide) rfl (by decide) rfl (by decide) (Nat.le_of_ble_eq_true rfl) gw206 (Nat.le_of_ble_eq_true rfl) (Nat.le_of_ble_eq_true rfl) rfl rfl ?_
  have z1 := v_Zr_up z0
  refine V_putr (k := 86) dX3_init_9 rfl (by decide) vf_X3_9 (by decide) (fun _ => ⟨rfl, rfl, rfl⟩) (fun a => ⟨rfl, rfl⟩) (Or.inl (by decide)) ?_
  have z2 := v_Zr_sr (c := 85) (j := 7) (x := 86 + 1) z1 (by decide) (Or.inl (by decide))
  refine V_aload_n (k := 0) dX3_init_12 rfl rfl ?_
  refine V_bipush (v := 20) dX3_init_13 rfl ?_
  refine V_newa (t := 0) (len := 20) dX3_init_15 (by decide) rfl (by decide) rfl (by decide) (Nat.le_of_ble_eq_true rfl) gw206 (Nat.le_of_ble_eq_true rfl) (Nat.le_of_ble_eq_true rfl) rfl rfl ?_
  have z3 := v_Zr_up z2
  refine V_putr (k := 87) dX3_init_17 rfl (by decide) vf_X3_15 (by decide) (fun _ => ⟨rfl, rfl, rfl⟩) (fun a => ⟨rfl, rfl⟩) (Or.inl (by decide)) ?_
  have z4 := v_Zr_sr (c := 85) (j := 8) (x := 87 + 1) z3 (by decide) (Or.inl (by decide))
  refine V_aload_n (k := 0) dX3_init_20 rfl rfl ?_
  refine V_bipush (v := 20) dX3_init_21 rfl ?_
  refine V_newa (t := 0) (len := 20) dX3_init_23 (by decide) rfl (by decide) rfl (by decide) (Nat.le_of_ble_eq_true rfl) gw206 (Nat.le_of_ble_eq_true rfl) (Nat.le_of_ble_eq_true rfl) rfl rfl ?_
  have z5 := v_Zr_up z4
  refine V_putr (k := 88) dX3_init_25 rfl (by decide) vf_X3_18 (by decide) (fun _ => ⟨rfl, rfl, rfl⟩) (fun a => ⟨rfl, rfl⟩) (Or.inl (by decide)) ?_
  have z6 := v_Zr_sr (c := 85) (j := 9) (x := 88 + 1) z5 (by decide) (Or.inl (by decide))
  refine V_aload_n (k := 0) dX3_init_28 rfl rfl ?_
  refine V_bipush (v := 12) dX3_init_29 rfl ?_
  refine V_newa (t := 0) (len := 12) dX3_init_31 (by decide) rfl (by decide) rfl (by decide) (Nat.le_of_ble_eq_true rfl) gw206 (Nat.le_of_ble_eq_true rfl) (Nat.le_of_ble_eq_true rfl) rfl rfl ?_
  have z7 := v_Zr_up z6
  refine V_putr (k := 89) dX3_init_33 rfl (by decide) vf_X3_21 (by decide) (fun _ => ⟨rfl, rfl, rfl⟩) (fun a => ⟨rfl, rfl⟩) (Or.inl (by decide)) ?_
  have z8 := v_Zr_sr (c := 85) (j := 10) (x := 89 + 1) z7 (by decide) (Or.inl (by decide))
  refine V_aload_n (k := 0) dX3_init_36 rfl rfl ?_
  refine V_bipush (v := 12) dX3_init_37 rfl ?_
  refine V_newa (t := 0) (len := 12) dX3_init_39 (by decide) rfl (by decide) rfl (by decide) (Nat.le_of_ble_eq_true rfl) gw206 (Nat.le_of_ble_eq_true rfl) (Nat.le_of_ble_eq_true rfl) rfl rfl ?_
  have z9 := v_Zr_up z8
  refine V_putr (k := 90) dX3_init_41 rfl (by decide) vf_X3_24 (by decide) (fun _ => ⟨rfl, rfl, rfl⟩) (fun a => ⟨rfl, rfl⟩) (Or.inl (by decide)) ?_
  have z10 := v_Zr_sr (c := 85) (j := 11) (x := 90 + 1) z9 (by decide) (Or.inl (by decide))
  exact V_ret (fun h => by cases h) (Or.inl ⟨rfl, rfl⟩) dX3_init_44 (fun ty x h1 h2 => by cases h1) rfl
def mk92 (M : vM) : vM := v_sr (v_sr (v_sr (v_sr (v_sr (M) 92 7 (93 + 1)) 92 8 (94 + 1)) 92 9 (95 + 1)) 92 10 (96 + 1)) 92 11 (97 + 1)
theorem zk92 {M : vM} (z0 : v_Zr 93 M) : v_Zr 98 (mk92 M) := by
  have z1 := v_Zr_up z0
  have z2 := v_Zr_sr (c := 92) (j := 7) (x := 93 + 1) z1 (by decide) (Or.inl (by decide))
  have z3 := v_Zr_up z2
  have z4 := v_Zr_sr (c := 92) (j := 8) (x := 94 + 1) z3 (by decide) (Or.inl (by decide))
  have z5 := v_Zr_up z4
  have z6 := v_Zr_sr (c := 92) (j := 9) (x := 95 + 1) z5 (by decide) (Or.inl (by decide))
  have z7 := v_Zr_up z6
  have z8 := v_Zr_sr (c := 92) (j := 10) (x := 96 + 1) z7 (by decide) (Or.inl (by decide))
  have z9 := v_Zr_up z8
  have z10 := v_Zr_sr (c := 92) (j := 11) (x := 97 + 1) z9 (by decide) (Or.inl (by decide))
  exact z10
set_option maxRecDepth 20000 in
set_option maxHeartbeats 4000000 in
theorem ck92 {l : Launch} {D : va_G} {dA : Nat → ClassId} (M : vM) (z0 : v_Zr 93 M) : Ct l D dA sX3_init true 98 1 5 84 93 [.ref 92] M (rV (mk92 M)) := by
  refine Ct_of (lv := [(0, .ref 92)]) (by decide +kernel) rfl (Nat.le_of_ble_eq_true rfl) rfl (fun _ => z0) ?_
  refine V_aload_n (k := 0) dX3_init_0 rfl rfl ?_
  refine V_objInit dX3_init_1 gw336 gw111 gw112 (Nat.le_of_ble_eq_true rfl) (by decide) ?_
  refine V_aload_n (k := 0) dX3_init_4 rfl rfl ?_
  refine V_bipush (v := 20) dX3_init_5 rfl ?_
  refine V_newa (t := 0) (len := 20) dX3_init_7 (by decide) rfl (by decide) rfl (by decide) (Nat.le_of_ble_eq_true rfl) gw206 (Nat.le_of_ble_eq_true rfl) (Nat.le_of_ble_eq_true rfl) rfl rfl ?_
  have z1 := v_Zr_up z0
  refine V_putr (k := 93) dX3_init_9 rfl (by decide) vf_X3_9 (by decide) (fun _ => ⟨rfl, rfl, rfl⟩) (fun a => ⟨rfl, rfl⟩) (Or.inl (by decide)) ?_
  have z2 := v_Zr_sr (c := 92) (j := 7) (x := 93 + 1) z1 (by decide) (Or.inl (by decide))
  refine V_aload_n (k := 0) dX3_init_12 rfl rfl ?_
  refine V_bipush (v := 20) dX3_init_13 rfl ?_
  refine V_newa (t := 0) (len := 20) dX3_init_15 (by decide) rfl (by decide) rfl (by decide) (Nat.le_of_ble_eq_true rfl) gw206 (Nat.le_of_ble_eq_true rfl) (Nat.le_of_ble_eq_true rfl) rfl rfl ?_
  have z3 := v_Zr_up z2
  refine V_putr (k := 94) dX3_init_17 rfl (by decide) vf_X3_15 (by decide) (fun _ => ⟨rfl, rfl, rfl⟩) (fun a => ⟨rfl, rfl⟩) (Or.inl (by decide)) ?_
  have z4 := v_Zr_sr (c := 92) (j := 8) (x := 94 + 1) z3 (by decide) (Or.inl (by decide))
  refine V_aload_n (k := 0) dX3_init_20 rfl rfl ?_
  refine V_bipush (v := 20) dX3_init_21 rfl ?_
  refine V_newa (t := 0) (len := 20) dX3_init_23 (by decide) rfl (by decide) rfl (by decide) (Nat.le_of_ble_eq_true rfl) gw206 (Nat.le_of_ble_eq_true rfl) (Nat.le_of_ble_eq_true rfl) rfl rfl ?_
  have z5 := v_Zr_up z4
  refine V_putr (k := 95) dX3_init_25 rfl (by decide) vf_X3_18 (by decide) (fun _ => ⟨rfl, rfl, rfl⟩) (fun a => ⟨rfl, rfl⟩) (Or.inl (by decide)) ?_
  have z6 := v_Zr_sr (c := 92) (j := 9) (x := 95 + 1) z5 (by decide) (Or.inl (by decide))
  refine V_aload_n (k := 0) dX3_init_28 rfl rfl ?_
  refine V_bipush (v := 12) dX3_init_29 rfl ?_
  refine V_newa (t := 0) (len := 12) dX3_init_31 (by decide) rfl (by decide) rfl (by decide) (Nat.le_of_ble_eq_true rfl) gw206 (Nat.le_of_ble_eq_true rfl) (Nat.le_of_ble_eq_true rfl) rfl rfl ?_
  have z7 := v_Zr_up z6
  refine V_putr (k := 96) dX3_init_33 rfl (by decide) vf_X3_21 (by decide) (fun _ => ⟨rfl, rfl, rfl⟩) (fun a => ⟨rfl, rfl⟩) (Or.inl (by decide)) ?_
  have z8 := v_Zr_sr (c := 92) (j := 10) (x := 96 + 1) z7 (by decide) (Or.inl (by decide))
  refine V_aload_n (k := 0) dX3_init_36 rfl rfl ?_
  refine V_bipush (v := 12) dX3_init_37 rfl ?_
  refine V_newa (t := 0) (len := 12) dX3_init_39 (by decide) rfl (by decide) rfl (by decide) (Nat.le_of_ble_eq_true rfl) gw206 (Nat.le_of_ble_eq_true rfl) (Nat.le_of_ble_eq_true rfl) rfl rfl ?_
  have z9 := v_Zr_up z8
  refine V_putr (k := 97) dX3_init_41 rfl (by decide) vf_X3_24 (by decide) (fun _ => ⟨rfl, rfl, rfl⟩) (fun a => ⟨rfl, rfl⟩) (Or.inl (by decide)) ?_
  have z10 := v_Zr_sr (c := 92) (j := 11) (x := 97 + 1) z9 (by decide) (Or.inl (by decide))
  exact V_ret (fun h => by cases h) (Or.inl ⟨rfl, rfl⟩) dX3_init_44 (fun ty x h1 h2 => by cases h1) rfl
def mk91 (M : vM) : vM := v_sr (v_sr (v_sr (M) 91 4 (98 + 1)) 91 5 (99 + 1)) 91 0 (92 + 1)
theorem zk91 {M : vM} (z0 : v_Zr 98 M) : v_Zr 100 (mk91 M) := by
  have z1 := v_Zr_up z0
  have z2 := v_Zr_sr (c := 91) (j := 4) (x := 98 + 1) z1 (by decide) (Or.inl (by decide))
  have z3 := v_Zr_up z2
  have z4 := v_Zr_sr (c := 91) (j := 5) (x := 99 + 1) z3 (by decide) (Or.inl (by decide))
  have z5 := v_Zr_sr (c := 91) (j := 0) (x := 92 + 1) z4 (by decide) (Or.inl (by decide))
  exact z5
set_option maxRecDepth 20000 in
set_option maxHeartbeats 4000000 in
theorem ck91 {l : Launch} {D : va_G} {dA : Nat → ClassId} (M : vM) (z0 : v_Zr 98 M) : Ct l D dA sX9_init true 100 1 2 2916 98 [.ref 91, .ref 92] M (rV (mk91 M)) := by
  refine Ct_of (lv := [(0, .ref 91), (1, .ref 92)]) (by decide +kernel) rfl (Nat.le_of_ble_eq_true rfl) rfl (fun _ => z0) ?_
  refine V_aload_n (k := 0) dX9_init_0 rfl rfl ?_
  refine V_objInit dX9_init_1 gw398 gw111 gw112 (Nat.le_of_ble_eq_true rfl) (by decide) ?_
  refine V_aload_n (k := 0) dX9_init_4 rfl rfl ?_
  refine V_sipush (v := 1458) dX9_init_5 rfl ?_
  refine V_newa (t := 1) (len := 1458) dX9_init_8 (by decide) rfl (by decide) rfl (by decide) (Nat.le_of_ble_eq_true rfl) gw236 (Nat.le_of_ble_eq_true rfl) (Nat.le_of_ble_eq_true rfl) rfl rfl ?_
  have z1 := v_Zr_up z0
  refine V_putr (k := 98) dX9_init_10 rfl (by decide) vf_X9_9 (by decide) (fun _ => ⟨rfl, rfl, rfl⟩) (fun a => ⟨rfl, rfl⟩) (Or.inl (by decide)) ?_
  have z2 := v_Zr_sr (c := 91) (j := 4) (x := 98 + 1) z1 (by decide) (Or.inl (by decide))
  refine V_aload_n (k := 0) dX9_init_13 rfl rfl ?_
  refine V_sipush (v := 1458) dX9_init_14 rfl ?_
  refine V_newa (t := 3) (len := 1458) dX9_init_17 (by decide) rfl (by decide) rfl (by decide) (Nat.le_of_ble_eq_true rfl) gw235 (Nat.le_of_ble_eq_true rfl) (Nat.le_of_ble_eq_true rfl) rfl rfl ?_
  have z3 := v_Zr_up z2
  refine V_putr (k := 99) dX9_init_19 rfl (by decide) vf_X9_15 (by decide) (fun _ => ⟨rfl, rfl, rfl⟩) (fun a => ⟨rfl, rfl⟩) (Or.inl (by decide)) ?_
  have z4 := v_Zr_sr (c := 91) (j := 5) (x := 99 + 1) z3 (by decide) (Or.inl (by decide))
  refine V_aload_n (k := 0) dX9_init_22 rfl rfl ?_
  refine V_aload_n (k := 1) dX9_init_23 rfl rfl ?_
  refine V_putr (k := 92) dX9_init_24 rfl (by decide) vf_X9_19 (by decide) (fun h => by cases h) (fun a => ⟨rfl, rfl⟩) (Or.inl (by decide)) ?_
  have z5 := v_Zr_sr (c := 91) (j := 0) (x := 92 + 1) z4 (by decide) (Or.inl (by decide))
  exact V_ret (fun h => by cases h) (Or.inl ⟨rfl, rfl⟩) dX9_init_27 (fun ty x h1 h2 => by cases h1) rfl
def mk100 (M : vM) : vM := v_sr (v_sr (v_sr (v_sr (v_sr (M) 100 7 (101 + 1)) 100 8 (102 + 1)) 100 9 (103 + 1)) 100 10 (104 + 1)) 100 11 (105 + 1)
theorem zk100 {M : vM} (z0 : v_Zr 101 M) : v_Zr 106 (mk100 M) := by
  have z1 := v_Zr_up z0
  have z2 := v_Zr_sr (c := 100) (j := 7) (x := 101 + 1) z1 (by decide) (Or.inl (by decide))
  have z3 := v_Zr_up z2
  have z4 := v_Zr_sr (c := 100) (j := 8) (x := 102 + 1) z3 (by decide) (Or.inl (by decide))
  have z5 := v_Zr_up z4
  have z6 := v_Zr_sr (c := 100) (j := 9) (x := 103 + 1) z5 (by decide) (Or.inl (by decide))
  have z7 := v_Zr_up z6
  have z8 := v_Zr_sr (c := 100) (j := 10) (x := 104 + 1) z7 (by decide) (Or.inl (by decide))
  have z9 := v_Zr_up z8
  have z10 := v_Zr_sr (c := 100) (j := 11) (x := 105 + 1) z9 (by decide) (Or.inl (by decide))
  exact z10
set_option maxRecDepth 20000 in
set_option maxHeartbeats 4000000 in
theorem ck100 {l : Launch} {D : va_G} {dA : Nat → ClassId} (M : vM) (z0 : v_Zr 101 M) : Ct l D dA sX3_init true 106 1 5 84 101 [.ref 100] M (rV (mk100 M)) := by
  refine Ct_of (lv := [(0, .ref 100)]) (by decide +kernel) rfl (Nat.le_of_ble_eq_true rfl) rfl (fun _ => z0) ?_
  refine V_aload_n (k := 0) dX3_init_0 rfl rfl ?_
  refine V_objInit dX3_init_1 gw336 gw111 gw112 (Nat.le_of_ble_eq_true rfl) (by decide) ?_
  refine V_aload_n (k := 0) dX3_init_4 rfl rfl ?_
  refine V_bipush (v := 20) dX3_init_5 rfl ?_
  refine V_newa (t := 0) (len := 20) dX3_init_7 (by decide) rfl (by decide) rfl (by decide) (Nat.le_of_ble_eq_true rfl) gw206 (Nat.le_of_ble_eq_true rfl) (Nat.le_of_ble_eq_true rfl) rfl rfl ?_
  have z1 := v_Zr_up z0
  refine V_putr (k := 101) dX3_init_9 rfl (by decide) vf_X3_9 (by decide) (fun _ => ⟨rfl, rfl, rfl⟩) (fun a => ⟨rfl, rfl⟩) (Or.inl (by decide)) ?_
  have z2 := v_Zr_sr (c := 100) (j := 7) (x := 101 + 1) z1 (by decide) (Or.inl (by decide))
  refine V_aload_n (k := 0) dX3_init_12 rfl rfl ?_
  refine V_bipush (v := 20) dX3_init_13 rfl ?_
  refine V_newa (t := 0) (len := 20) dX3_init_15 (by decide) rfl (by decide) rfl (by decide) (Nat.le_of_ble_eq_true rfl) gw206 (Nat.le_of_ble_eq_true rfl) (Nat.le_of_ble_eq_true rfl) rfl rfl ?_
  have z3 := v_Zr_up z2
  refine V_putr (k := 102) dX3_init_17 rfl (by decide) vf_X3_15 (by decide) (fun _ => ⟨rfl, rfl, rfl⟩) (fun a => ⟨rfl, rfl⟩) (Or.inl (by decide)) ?_
  have z4 := v_Zr_sr (c := 100) (j := 8) (x := 102 + 1) z3 (by decide) (Or.inl (by decide))
  refine V_aload_n (k := 0) dX3_init_20 rfl rfl ?_
  refine V_bipush (v := 20) dX3_init_21 rfl ?_
  refine V_newa (t := 0) (len := 20) dX3_init_23 (by decide) rfl (by decide) rfl (by decide) (Nat.le_of_ble_eq_true rfl) gw206 (Nat.le_of_ble_eq_true rfl) (Nat.le_of_ble_eq_true rfl) rfl rfl ?_
  have z5 := v_Zr_up z4
  refine V_putr (k := 103) dX3_init_25 rfl (by decide) vf_X3_18 (by decide) (fun _ => ⟨rfl, rfl, rfl⟩) (fun a => ⟨rfl, rfl⟩) (Or.inl (by decide)) ?_
  have z6 := v_Zr_sr (c := 100) (j := 9) (x := 103 + 1) z5 (by decide) (Or.inl (by decide))
  refine V_aload_n (k := 0) dX3_init_28 rfl rfl ?_
  refine V_bipush (v := 12) dX3_init_29 rfl ?_
  refine V_newa (t := 0) (len := 12) dX3_init_31 (by decide) rfl (by decide) rfl (by decide) (Nat.le_of_ble_eq_true rfl) gw206 (Nat.le_of_ble_eq_true rfl) (Nat.le_of_ble_eq_true rfl) rfl rfl ?_
  have z7 := v_Zr_up z6
  refine V_putr (k := 104) dX3_init_33 rfl (by decide) vf_X3_21 (by decide) (fun _ => ⟨rfl, rfl, rfl⟩) (fun a => ⟨rfl, rfl⟩) (Or.inl (by decide)) ?_
  have z8 := v_Zr_sr (c := 100) (j := 10) (x := 104 + 1) z7 (by decide) (Or.inl (by decide))
  refine V_aload_n (k := 0) dX3_init_36 rfl rfl ?_
  refine V_bipush (v := 12) dX3_init_37 rfl ?_
  refine V_newa (t := 0) (len := 12) dX3_init_39 (by decide) rfl (by decide) rfl (by decide) (Nat.le_of_ble_eq_true rfl) gw206 (Nat.le_of_ble_eq_true rfl) (Nat.le_of_ble_eq_true rfl) rfl rfl ?_
  have z9 := v_Zr_up z8
  refine V_putr (k := 105) dX3_init_41 rfl (by decide) vf_X3_24 (by decide) (fun _ => ⟨rfl, rfl, rfl⟩) (fun a => ⟨rfl, rfl⟩) (Or.inl (by decide)) ?_
  have z10 := v_Zr_sr (c := 100) (j := 11) (x := 105 + 1) z9 (by decide) (Or.inl (by decide))
  exact V_ret (fun h => by cases h) (Or.inl ⟨rfl, rfl⟩) dX3_init_44 (fun ty x h1 h2 => by cases h1) rfl
def mk107 (M : vM) : vM := v_sr (v_sr (v_sr (v_sr (v_sr (M) 107 7 (108 + 1)) 107 8 (109 + 1)) 107 9 (110 + 1)) 107 10 (111 + 1)) 107 11 (112 + 1)
theorem zk107 {M : vM} (z0 : v_Zr 108 M) : v_Zr 113 (mk107 M) := by
  have z1 := v_Zr_up z0
  have z2 := v_Zr_sr (c := 107) (j := 7) (x := 108 + 1) z1 (by decide) (Or.inl (by decide))
  have z3 := v_Zr_up z2
  have z4 := v_Zr_sr (c := 107) (j := 8) (x := 109 + 1) z3 (by decide) (Or.inl (by decide))
  have z5 := v_Zr_up z4
  have z6 := v_Zr_sr (c := 107) (j := 9) (x := 110 + 1) z5 (by decide) (Or.inl (by decide))
  have z7 := v_Zr_up z6
  have z8 := v_Zr_sr (c := 107) (j := 10) (x := 111 + 1) z7 (by decide) (Or.inl (by decide))
  have z9 := v_Zr_up z8
  have z10 := v_Zr_sr (c := 107) (j := 11) (x := 112 + 1) z9 (by decide) (Or.inl (by decide))
  exact z10
set_option maxRecDepth 20000 in
set_option maxHeartbeats 4000000 in
theorem ck107 {l : Launch} {D : va_G} {dA : Nat → ClassId} (M : vM) (z0 : v_Zr 108 M) : Ct l D dA sX3_init true 113 1 5 84 108 [.ref 107] M (rV (mk107 M)) := by
  refine Ct_of (lv := [(0, .ref 107)]) (by decide +kernel) rfl (Nat.le_of_ble_eq_true rfl) rfl (fun _ => z0) ?_
  refine V_aload_n (k := 0) dX3_init_0 rfl rfl ?_
  refine V_objInit dX3_init_1 gw336 gw111 gw112 (Nat.le_of_ble_eq_true rfl) (by decide) ?_
  refine V_aload_n (k := 0) dX3_init_4 rfl rfl ?_
  refine V_bipush (v := 20) dX3_init_5 rfl ?_
  refine V_newa (t := 0) (len := 20) dX3_init_7 (by decide) rfl (by decide) rfl (by decide) (Nat.le_of_ble_eq_true rfl) gw206 (Nat.le_of_ble_eq_true rfl) (Nat.le_of_ble_eq_true rfl) rfl rfl ?_
  have z1 := v_Zr_up z0
  refine V_putr (k := 108) dX3_init_9 rfl (by decide) vf_X3_9 (by decide) (fun _ => ⟨rfl, rfl, rfl⟩) (fun a => ⟨rfl, rfl⟩) (Or.inl (by decide)) ?_
  have z2 := v_Zr_sr (c := 107) (j := 7) (x := 108 + 1) z1 (by decide) (Or.inl (by decide))
  refine V_aload_n (k := 0) dX3_init_12 rfl rfl ?_
  refine V_bipush (v := 20) dX3_init_13 rfl ?_
  refine V_newa (t := 0) (len := 20) dX3_init_15 (by decide) rfl (by decide) rfl (by decide) (Nat.le_of_ble_eq_true rfl) gw206 (Nat.le_of_ble_eq_true rfl) (Nat.le_of_ble_eq_true rfl) rfl rfl ?_
  have z3 := v_Zr_up z2
  refine V_putr (k := 109) dX3_init_17 rfl (by decide) vf_X3_15 (by decide) (fun _ => ⟨rfl, rfl, rfl⟩) (fun a => ⟨rfl, rfl⟩) (Or.inl (by decide)) ?_
  have z4 := v_Zr_sr (c := 107) (j := 8) (x := 109 + 1) z3 (by decide) (Or.inl (by decide))
  refine V_aload_n (k := 0) dX3_init_20 rfl rfl ?_
  refine V_bipush (v := 20) dX3_init_21 rfl ?_
  refine V_newa (t := 0) (len := 20) dX3_init_23 (by decide) rfl (by decide) rfl (by decide) (Nat.le_of_ble_eq_true rfl) gw206 (Nat.le_of_ble_eq_true rfl) (Nat.le_of_ble_eq_true rfl) rfl rfl ?_
  have z5 := v_Zr_up z4
  refine V_putr (k := 110) dX3_init_25 rfl (by decide) vf_X3_18 (by decide) (fun _ => ⟨rfl, rfl, rfl⟩) (fun a => ⟨rfl, rfl⟩) (Or.inl (by decide)) ?_
  have z6 := v_Zr_sr (c := 107) (j := 9) (x := 110 + 1) z5 (by decide) (Or.inl (by decide))
  refine V_aload_n (k := 0) dX3_init_28 rfl rfl ?_
  refine V_bipush (v := 12) dX3_init_29 rfl ?_
  refine V_newa (t := 0) (len := 12) dX3_init_31 (by decide) rfl (by decide) rfl (by decide) (Nat.le_of_ble_eq_true rfl) gw206 (Nat.le_of_ble_eq_true rfl) (Nat.le_of_ble_eq_true rfl) rfl rfl ?_
  have z7 := v_Zr_up z6
  refine V_putr (k := 111) dX3_init_33 rfl (by decide) vf_X3_21 (by decide) (fun _ => ⟨rfl, rfl, rfl⟩) (fun a => ⟨rfl, rfl⟩) (Or.inl (by decide)) ?_
  have z8 := v_Zr_sr (c := 107) (j := 10) (x := 111 + 1) z7 (by decide) (Or.inl (by decide))
  refine V_aload_n (k := 0) dX3_init_36 rfl rfl ?_
  refine V_bipush (v := 12) dX3_init_37 rfl ?_
  refine V_newa (t := 0) (len := 12) dX3_init_39 (by decide) rfl (by decide) rfl (by decide) (Nat.le_of_ble_eq_true rfl) gw206 (Nat.le_of_ble_eq_true rfl) (Nat.le_of_ble_eq_true rfl) rfl rfl ?_
  have z9 := v_Zr_up z8
  refine V_putr (k := 112) dX3_init_41 rfl (by decide) vf_X3_24 (by decide) (fun _ => ⟨rfl, rfl, rfl⟩) (fun a => ⟨rfl, rfl⟩) (Or.inl (by decide)) ?_
  have z10 := v_Zr_sr (c := 107) (j := 11) (x := 112 + 1) z9 (by decide) (Or.inl (by decide))
  exact V_ret (fun h => by cases h) (Or.inl ⟨rfl, rfl⟩) dX3_init_44 (fun ty x h1 h2 => by cases h1) rfl
def mk106 (M : vM) : vM := v_sr (v_sr (v_sr (M) 106 4 (113 + 1)) 106 5 (114 + 1)) 106 0 (107 + 1)
theorem zk106 {M : vM} (z0 : v_Zr 113 M) : v_Zr 115 (mk106 M) := by
  have z1 := v_Zr_up z0
  have z2 := v_Zr_sr (c := 106) (j := 4) (x := 113 + 1) z1 (by decide) (Or.inl (by decide))
  have z3 := v_Zr_up z2
  have z4 := v_Zr_sr (c := 106) (j := 5) (x := 114 + 1) z3 (by decide) (Or.inl (by decide))
  have z5 := v_Zr_sr (c := 106) (j := 0) (x := 107 + 1) z4 (by decide) (Or.inl (by decide))
  exact z5
set_option maxRecDepth 20000 in
set_option maxHeartbeats 4000000 in
theorem ck106 {l : Launch} {D : va_G} {dA : Nat → ClassId} (M : vM) (z0 : v_Zr 113 M) : Ct l D dA sX9_init true 115 1 2 2916 113 [.ref 106, .ref 107] M (rV (mk106 M)) := by
  refine Ct_of (lv := [(0, .ref 106), (1, .ref 107)]) (by decide +kernel) rfl (Nat.le_of_ble_eq_true rfl) rfl (fun _ => z0) ?_
  refine V_aload_n (k := 0) dX9_init_0 rfl rfl ?_
  refine V_objInit dX9_init_1 gw398 gw111 gw112 (Nat.le_of_ble_eq_true rfl) (by decide) ?_
  refine V_aload_n (k := 0) dX9_init_4 rfl rfl ?_
  refine V_sipush (v := 1458) dX9_init_5 rfl ?_
  refine V_newa (t := 1) (len := 1458) dX9_init_8 (by decide) rfl (by decide) rfl (by decide) (Nat.le_of_ble_eq_true rfl) gw236 (Nat.le_of_ble_eq_true rfl) (Nat.le_of_ble_eq_true rfl) rfl rfl ?_
  have z1 := v_Zr_up z0
  refine V_putr (k := 113) dX9_init_10 rfl (by decide) vf_X9_9 (by decide) (fun _ => ⟨rfl, rfl, rfl⟩) (fun a => ⟨rfl, rfl⟩) (Or.inl (by decide)) ?_
  have z2 := v_Zr_sr (c := 106) (j := 4) (x := 113 + 1) z1 (by decide) (Or.inl (by decide))
  refine V_aload_n (k := 0) dX9_init_13 rfl rfl ?_
  refine V_sipush (v := 1458) dX9_init_14 rfl ?_
  refine V_newa (t := 3) (len := 1458) dX9_init_17 (by decide) rfl (by decide) rfl (by decide) (Nat.le_of_ble_eq_true rfl) gw235 (Nat.le_of_ble_eq_true rfl) (Nat.le_of_ble_eq_true rfl) rfl rfl ?_
  have z3 := v_Zr_up z2
  refine V_putr (k := 114) dX9_init_19 rfl (by decide) vf_X9_15 (by decide) (fun _ => ⟨rfl, rfl, rfl⟩) (fun a => ⟨rfl, rfl⟩) (Or.inl (by decide)) ?_
  have z4 := v_Zr_sr (c := 106) (j := 5) (x := 114 + 1) z3 (by decide) (Or.inl (by decide))
  refine V_aload_n (k := 0) dX9_init_22 rfl rfl ?_
  refine V_aload_n (k := 1) dX9_init_23 rfl rfl ?_
  refine V_putr (k := 107) dX9_init_24 rfl (by decide) vf_X9_19 (by decide) (fun h => by cases h) (fun a => ⟨rfl, rfl⟩) (Or.inl (by decide)) ?_
  have z5 := v_Zr_sr (c := 106) (j := 0) (x := 107 + 1) z4 (by decide) (Or.inl (by decide))
  exact V_ret (fun h => by cases h) (Or.inl ⟨rfl, rfl⟩) dX9_init_27 (fun ty x h1 h2 => by cases h1) rfl
def mk115 (M : vM) : vM := v_sr (v_sr (v_sr (v_sr (v_sr (M) 115 7 (116 + 1)) 115 8 (117 + 1)) 115 9 (118 + 1)) 115 10 (119 + 1)) 115 11 (120 + 1)
theorem zk115 {M : vM} (z0 : v_Zr 116 M) : v_Zr 121 (mk115 M) := by
  have z1 := v_Zr_up z0
  have z2 := v_Zr_sr (c := 115) (j := 7) (x := 116 + 1) z1 (by decide) (Or.inl (by decide))
  have z3 := v_Zr_up z2
  have z4 := v_Zr_sr (c := 115) (j := 8) (x := 117 + 1) z3 (by decide) (Or.inl (by decide))
  have z5 := v_Zr_up z4
  have z6 := v_Zr_sr (c := 115) (j := 9) (x := 118 + 1) z5 (by decide) (Or.inl (by decide))
  have z7 := v_Zr_up z6
  have z8 := v_Zr_sr (c := 115) (j := 10) (x := 119 + 1) z7 (by decide) (Or.inl (by decide))
  have z9 := v_Zr_up z8
  have z10 := v_Zr_sr (c := 115) (j := 11) (x := 120 + 1) z9 (by decide) (Or.inl (by decide))
  exact z10
set_option maxRecDepth 20000 in
set_option maxHeartbeats 4000000 in
theorem ck115 {l : Launch} {D : va_G} {dA : Nat → ClassId} (M : vM) (z0 : v_Zr 116 M) : Ct l D dA sX3_init true 121 1 5 84 116 [.ref 115] M (rV (mk115 M)) := by
  refine Ct_of (lv := [(0, .ref 115)]) (by decide +kernel) rfl (Nat.le_of_ble_eq_true rfl) rfl (fun _ => z0) ?_
  refine V_aload_n (k := 0) dX3_init_0 rfl rfl ?_
  refine V_objInit dX3_init_1 gw336 gw111 gw112 (Nat.le_of_ble_eq_true rfl) (by decide) ?_
  refine V_aload_n (k := 0) dX3_init_4 rfl rfl ?_
  refine V_bipush (v := 20) dX3_init_5 rfl ?_
  refine V_newa (t := 0) (len := 20) dX3_init_7 (by decide) rfl (by decide) rfl (by decide) (Nat.le_of_ble_eq_true rfl) gw206 (Nat.le_of_ble_eq_true rfl) (Nat.le_of_ble_eq_true rfl) rfl rfl ?_
  have z1 := v_Zr_up z0
  refine V_putr (k := 116) dX3_init_9 rfl (by decide) vf_X3_9 (by decide) (fun _ => ⟨rfl, rfl, rfl⟩) (fun a => ⟨rfl, rfl⟩) (Or.inl (by decide)) ?_
  have z2 := v_Zr_sr (c := 115) (j := 7) (x := 116 + 1) z1 (by decide) (Or.inl (by decide))
  refine V_aload_n (k := 0) dX3_init_12 rfl rfl ?_
  refine V_bipush (v := 20) dX3_init_13 rfl ?_
  refine V_newa (t := 0) (len := 20) dX3_init_15 (by decide) rfl (by decide) rfl (by decide) (Nat.le_of_ble_eq_true rfl) gw206 (Nat.le_of_ble_eq_true rfl) (Nat.le_of_ble_eq_true rfl) rfl rfl ?_
  have z3 := v_Zr_up z2
  refine V_putr (k := 117) dX3_init_17 rfl (by decide) vf_X3_15 (by decide) (fun _ => ⟨rfl, rfl, rfl⟩) (fun a => ⟨rfl, rfl⟩) (Or.inl (by decide)) ?_
  have z4 := v_Zr_sr (c := 115) (j := 8) (x := 117 + 1) z3 (by decide) (Or.inl (by decide))
  refine V_aload_n (k := 0) dX3_init_20 rfl rfl ?_
  refine V_bipush (v := 20) dX3_init_21 rfl ?_
  refine V_newa (t := 0) (len := 20) dX3_init_23 (by decide) rfl (by decide) rfl (by decide) (Nat.le_of_ble_eq_true rfl) gw206 (Nat.le_of_ble_eq_true rfl) (Nat.le_of_ble_eq_true rfl) rfl rfl ?_
  have z5 := v_Zr_up z4
  refine V_putr (k := 118) dX3_init_25 rfl (by decide) vf_X3_18 (by decide) (fun _ => ⟨rfl, rfl, rfl⟩) (fun a => ⟨rfl, rfl⟩) (Or.inl (by decide)) ?_
  have z6 := v_Zr_sr (c := 115) (j := 9) (x := 118 + 1) z5 (by decide) (Or.inl (by decide))
  refine V_aload_n (k := 0) dX3_init_28 rfl rfl ?_
  refine V_bipush (v := 12) dX3_init_29 rfl ?_
  refine V_newa (t := 0) (len := 12) dX3_init_31 (by decide) rfl (by decide) rfl (by decide) (Nat.le_of_ble_eq_true rfl) gw206 (Nat.le_of_ble_eq_true rfl) (Nat.le_of_ble_eq_true rfl) rfl rfl ?_
  have z7 := v_Zr_up z6
  refine V_putr (k := 119) dX3_init_33 rfl (by decide) vf_X3_21 (by decide) (fun _ => ⟨rfl, rfl, rfl⟩) (fun a => ⟨rfl, rfl⟩) (Or.inl (by decide)) ?_
  have z8 := v_Zr_sr (c := 115) (j := 10) (x := 119 + 1) z7 (by decide) (Or.inl (by decide))
  refine V_aload_n (k := 0) dX3_init_36 rfl rfl ?_
  refine V_bipush (v := 12) dX3_init_37 rfl ?_
  refine V_newa (t := 0) (len := 12) dX3_init_39 (by decide) rfl (by decide) rfl (by decide) (Nat.le_of_ble_eq_true rfl) gw206 (Nat.le_of_ble_eq_true rfl) (Nat.le_of_ble_eq_true rfl) rfl rfl ?_
  have z9 := v_Zr_up z8
  refine V_putr (k := 120) dX3_init_41 rfl (by decide) vf_X3_24 (by decide) (fun _ => ⟨rfl, rfl, rfl⟩) (fun a => ⟨rfl, rfl⟩) (Or.inl (by decide)) ?_
  have z10 := v_Zr_sr (c := 115) (j := 11) (x := 120 + 1) z9 (by decide) (Or.inl (by decide))
  exact V_ret (fun h => by cases h) (Or.inl ⟨rfl, rfl⟩) dX3_init_44 (fun ty x h1 h2 => by cases h1) rfl
def mk122 (M : vM) : vM := v_sr (v_sr (v_sr (v_sr (v_sr (M) 122 7 (123 + 1)) 122 8 (124 + 1)) 122 9 (125 + 1)) 122 10 (126 + 1)) 122 11 (127 + 1)
theorem zk122 {M : vM} (z0 : v_Zr 123 M) : v_Zr 128 (mk122 M) := by
  have z1 := v_Zr_up z0
  have z2 := v_Zr_sr (c := 122) (j := 7) (x := 123 + 1) z1 (by decide) (Or.inl (by decide))
  have z3 := v_Zr_up z2
  have z4 := v_Zr_sr (c := 122) (j := 8) (x := 124 + 1) z3 (by decide) (Or.inl (by decide))
  have z5 := v_Zr_up z4
  have z6 := v_Zr_sr (c := 122) (j := 9) (x := 125 + 1) z5 (by decide) (Or.inl (by decide))
  have z7 := v_Zr_up z6
  have z8 := v_Zr_sr (c := 122) (j := 10) (x := 126 + 1) z7 (by decide) (Or.inl (by decide))
  have z9 := v_Zr_up z8
  have z10 := v_Zr_sr (c := 122) (j := 11) (x := 127 + 1) z9 (by decide) (Or.inl (by decide))
  exact z10
set_option maxRecDepth 20000 in
set_option maxHeartbeats 4000000 in
theorem ck122 {l : Launch} {D : va_G} {dA : Nat → ClassId} (M : vM) (z0 : v_Zr 123 M) : Ct l D dA sX3_init true 128 1 5 84 123 [.ref 122] M (rV (mk122 M)) := by
  refine Ct_of (lv := [(0, .ref 122)]) (by decide +kernel) rfl (Nat.le_of_ble_eq_true rfl) rfl (fun _ => z0) ?_
  refine V_aload_n (k := 0) dX3_init_0 rfl rfl ?_
  refine V_objInit dX3_init_1 gw336 gw111 gw112 (Nat.le_of_ble_eq_true rfl) (by decide) ?_
  refine V_aload_n (k := 0) dX3_init_4 rfl rfl ?_
  refine V_bipush (v := 20) dX3_init_5 rfl ?_
  refine V_newa (t := 0) (len := 20) dX3_init_7 (by decide) rfl (by decide) rfl (by decide) (Nat.le_of_ble_eq_true rfl) gw206 (Nat.le_of_ble_eq_true rfl) (Nat.le_of_ble_eq_true rfl) rfl rfl ?_
  have z1 := v_Zr_up z0
  refine V_putr (k := 123) dX3_init_9 rfl (by decide) vf_X3_9 (by decide) (fun _ => ⟨rfl, rfl, rfl⟩) (fun a => ⟨rfl, rfl⟩) (Or.inl (by decide)) ?_
  have z2 := v_Zr_sr (c := 122) (j := 7) (x := 123 + 1) z1 (by decide) (Or.inl (by decide))
  refine V_aload_n (k := 0) dX3_init_12 rfl rfl ?_
  refine V_bipush (v := 20) dX3_init_13 rfl ?_
  refine V_newa (t := 0) (len := 20) dX3_init_15 (by decide) rfl (by decide) rfl (by decide) (Nat.le_of_ble_eq_true rfl) gw206 (Nat.le_of_ble_eq_true rfl) (Nat.le_of_ble_eq_true rfl) rfl rfl ?_
  have z3 := v_Zr_up z2
  refine V_putr (k := 124) dX3_init_17 rfl (by decide) vf_X3_15 (by decide) (fun _ => ⟨rfl, rfl, rfl⟩) (fun a => ⟨rfl, rfl⟩) (Or.inl (by decide)) ?_
  have z4 := v_Zr_sr (c := 122) (j := 8) (x := 124 + 1) z3 (by decide) (Or.inl (by decide))
  refine V_aload_n (k := 0) dX3_init_20 rfl rfl ?_
  refine V_bipush (v := 20) dX3_init_21 rfl ?_
  refine V_newa (t := 0) (len := 20) dX3_init_23 (by decide) rfl (by decide) rfl (by decide) (Nat.le_of_ble_eq_true rfl) gw206 (Nat.le_of_ble_eq_true rfl) (Nat.le_of_ble_eq_true rfl) rfl rfl ?_
  have z5 := v_Zr_up z4
  refine V_putr (k := 125) dX3_init_25 rfl (by decide) vf_X3_18 (by decide) (fun _ => ⟨rfl, rfl, rfl⟩) (fun a => ⟨rfl, rfl⟩) (Or.inl (by decide)) ?_
  have z6 := v_Zr_sr (c := 122) (j := 9) (x := 125 + 1) z5 (by decide) (Or.inl (by decide))
  refine V_aload_n (k := 0) dX3_init_28 rfl rfl ?_
  refine V_bipush (v := 12) dX3_init_29 rfl ?_
  refine V_newa (t := 0) (len := 12) dX3_init_31 (by decide) rfl (by decide) rfl (by decide) (Nat.le_of_ble_eq_true rfl) gw206 (Nat.le_of_ble_eq_true rfl) (Nat.le_of_ble_eq_true rfl) rfl rfl ?_
  have z7 := v_Zr_up z6
  refine V_putr (k := 126) dX3_init_33 rfl (by decide) vf_X3_21 (by decide) (fun _ => ⟨rfl, rfl, rfl⟩) (fun a => ⟨rfl, rfl⟩) (Or.inl (by decide)) ?_
  have z8 := v_Zr_sr (c := 122) (j := 10) (x := 126 + 1) z7 (by decide) (Or.inl (by decide))
  refine V_aload_n (k := 0) dX3_init_36 rfl rfl ?_
  refine V_bipush (v := 12) dX3_init_37 rfl ?_
  refine V_newa (t := 0) (len := 12) dX3_init_39 (by decide) rfl (by decide) rfl (by decide) (Nat.le_of_ble_eq_true rfl) gw206 (Nat.le_of_ble_eq_true rfl) (Nat.le_of_ble_eq_true rfl) rfl rfl ?_
  have z9 := v_Zr_up z8
  refine V_putr (k := 127) dX3_init_41 rfl (by decide) vf_X3_24 (by decide) (fun _ => ⟨rfl, rfl, rfl⟩) (fun a => ⟨rfl, rfl⟩) (Or.inl (by decide)) ?_
  have z10 := v_Zr_sr (c := 122) (j := 11) (x := 127 + 1) z9 (by decide) (Or.inl (by decide))
  exact V_ret (fun h => by cases h) (Or.inl ⟨rfl, rfl⟩) dX3_init_44 (fun ty x h1 h2 => by cases h1) rfl
def mk121 (M : vM) : vM := v_sr (v_sr (v_sr (M) 121 4 (128 + 1)) 121 5 (129 + 1)) 121 0 (122 + 1)
theorem zk121 {M : vM} (z0 : v_Zr 128 M) : v_Zr 130 (mk121 M) := by
  have z1 := v_Zr_up z0
  have z2 := v_Zr_sr (c := 121) (j := 4) (x := 128 + 1) z1 (by decide) (Or.inl (by decide))
  have z3 := v_Zr_up z2
  have z4 := v_Zr_sr (c := 121) (j := 5) (x := 129 + 1) z3 (by decide) (Or.inl (by decide))
  have z5 := v_Zr_sr (c := 121) (j := 0) (x := 122 + 1) z4 (by decide) (Or.inl (by decide))
  exact z5
set_option maxRecDepth 20000 in
set_option maxHeartbeats 4000000 in
theorem ck121 {l : Launch} {D : va_G} {dA : Nat → ClassId} (M : vM) (z0 : v_Zr 128 M) : Ct l D dA sX9_init true 130 1 2 2916 128 [.ref 121, .ref 122] M (rV (mk121 M)) := by
  refine Ct_of (lv := [(0, .ref 121), (1, .ref 122)]) (by decide +kernel) rfl (Nat.le_of_ble_eq_true rfl) rfl (fun _ => z0) ?_
  refine V_aload_n (k := 0) dX9_init_0 rfl rfl ?_
  refine V_objInit dX9_init_1 gw398 gw111 gw112 (Nat.le_of_ble_eq_true rfl) (by decide) ?_
  refine V_aload_n (k := 0) dX9_init_4 rfl rfl ?_
  refine V_sipush (v := 1458) dX9_init_5 rfl ?_
  refine V_newa (t := 1) (len := 1458) dX9_init_8 (by decide) rfl (by decide) rfl (by decide) (Nat.le_of_ble_eq_true rfl) gw236 (Nat.le_of_ble_eq_true rfl) (Nat.le_of_ble_eq_true rfl) rfl rfl ?_
  have z1 := v_Zr_up z0
  refine V_putr (k := 128) dX9_init_10 rfl (by decide) vf_X9_9 (by decide) (fun _ => ⟨rfl, rfl, rfl⟩) (fun a => ⟨rfl, rfl⟩) (Or.inl (by decide)) ?_
  have z2 := v_Zr_sr (c := 121) (j := 4) (x := 128 + 1) z1 (by decide) (Or.inl (by decide))
  refine V_aload_n (k := 0) dX9_init_13 rfl rfl ?_
  refine V_sipush (v := 1458) dX9_init_14 rfl ?_
  refine V_newa (t := 3) (len := 1458) dX9_init_17 (by decide) rfl (by decide) rfl (by decide) (Nat.le_of_ble_eq_true rfl) gw235 (Nat.le_of_ble_eq_true rfl) (Nat.le_of_ble_eq_true rfl) rfl rfl ?_
  have z3 := v_Zr_up z2
  refine V_putr (k := 129) dX9_init_19 rfl (by decide) vf_X9_15 (by decide) (fun _ => ⟨rfl, rfl, rfl⟩) (fun a => ⟨rfl, rfl⟩) (Or.inl (by decide)) ?_
  have z4 := v_Zr_sr (c := 121) (j := 5) (x := 129 + 1) z3 (by decide) (Or.inl (by decide))
  refine V_aload_n (k := 0) dX9_init_22 rfl rfl ?_
  refine V_aload_n (k := 1) dX9_init_23 rfl rfl ?_
  refine V_putr (k := 122) dX9_init_24 rfl (by decide) vf_X9_19 (by decide) (fun h => by cases h) (fun a => ⟨rfl, rfl⟩) (Or.inl (by decide)) ?_
  have z5 := v_Zr_sr (c := 121) (j := 0) (x := 122 + 1) z4 (by decide) (Or.inl (by decide))
  exact V_ret (fun h => by cases h) (Or.inl ⟨rfl, rfl⟩) dX9_init_27 (fun ty x h1 h2 => by cases h1) rfl
def mk0 (M : vM) : vM := v_si (v_sr (mk121 (mk122 (v_sr (mk115 (v_sr (mk106 (mk107 (v_sr (mk100 (v_sr (mk91 (mk92 (v_sr (mk85 (v_sr (mk76 (mk77 (v_sr (mk70 (v_sr (mk61 (mk62 (v_sr (mk55 (v_sr (mk46 (mk47 (v_sr (mk40 (v_sr (v_sr (mk36 (v_sr (mk34 (v_sr (mk32 (v_sr (mk28 (v_sr (mk24 (v_sr (mk15 (v_sr (mk6 (v_sr (v_sr (v_sr (mk3 (v_sr (mk1 (M)) 0 0 (1 + 1))) 0 1 (3 + 1)) 0 2 (4 + 1)) 0 3 (5 + 1))) 0 4 (6 + 1))) 0 5 (15 + 1))) 0 6 (24 + 1))) 0 7 (28 + 1))) 0 8 (32 + 1))) 0 9 (34 + 1))) 0 10 (36 + 1)) 0 11 (39 + 1))) 4 0 (40 + 1)))) 5 0 (46 + 1))) 4 1 (55 + 1)))) 5 1 (61 + 1))) 4 2 (70 + 1)))) 5 2 (76 + 1))) 4 3 (85 + 1)))) 5 3 (91 + 1))) 4 4 (100 + 1)))) 5 4 (106 + 1))) 4 5 (115 + 1)))) 5 5 (121 + 1)) 0 13 (-1)
theorem zk0 {M : vM} (z0 : v_Zr 1 M) : v_Zr 130 (mk0 M) := by
  have z1 := v_Zr_up z0
  have z2 := zk1 z1
  have z3 := v_Zr_sr (c := 0) (j := 0) (x := 1 + 1) z2 (by decide) (Or.inl (by decide))
  have z4 := v_Zr_up z3
  have z5 := zk3 z4
  have z6 := v_Zr_sr (c := 0) (j := 1) (x := 3 + 1) z5 (by decide) (Or.inl (by decide))
  have z7 := v_Zr_up z6
  have z8 := v_Zr_sr (c := 0) (j := 2) (x := 4 + 1) z7 (by decide) (Or.inl (by decide))
  have z9 := v_Zr_up z8
  have z10 := v_Zr_sr (c := 0) (j := 3) (x := 5 + 1) z9 (by decide) (Or.inl (by decide))
  have z11 := v_Zr_up z10
  have z12 := zk6 z11
  have z13 := v_Zr_sr (c := 0) (j := 4) (x := 6 + 1) z12 (by decide) (Or.inl (by decide))
  have z14 := v_Zr_up z13
  have z15 := zk15 z14
  have z16 := v_Zr_sr (c := 0) (j := 5) (x := 15 + 1) z15 (by decide) (Or.inl (by decide))
  have z17 := v_Zr_up z16
  have z18 := zk24 z17
  have z19 := v_Zr_sr (c := 0) (j := 6) (x := 24 + 1) z18 (by decide) (Or.inl (by decide))
  have z20 := v_Zr_up z19
  have z21 := zk28 z20
  have z22 := v_Zr_sr (c := 0) (j := 7) (x := 28 + 1) z21 (by decide) (Or.inl (by decide))
  have z23 := v_Zr_up z22
  have z24 := zk32 z23
  have z25 := v_Zr_sr (c := 0) (j := 8) (x := 32 + 1) z24 (by decide) (Or.inl (by decide))
  have z26 := v_Zr_up z25
  have z27 := zk34 z26
  have z28 := v_Zr_sr (c := 0) (j := 9) (x := 34 + 1) z27 (by decide) (Or.inl (by decide))
  have z29 := v_Zr_up z28
  have z30 := zk36 z29
  have z31 := v_Zr_sr (c := 0) (j := 10) (x := 36 + 1) z30 (by decide) (Or.inl (by decide))
  have z32 := v_Zr_up z31
  have z33 := v_Zr_sr (c := 0) (j := 11) (x := 39 + 1) z32 (by decide) (Or.inl (by decide))
  have z34 := v_Zr_up z33
  have z35 := zk40 z34
  have z36 := v_Zr_sr (c := 4) (j := 0) (x := 40 + 1) z35 (by decide) (Or.inl (by decide))
  have z37 := v_Zr_up z36
  have z38 := v_Zr_up z37
  have z39 := zk47 z38
  have z40 := zk46 z39
  have z41 := v_Zr_sr (c := 5) (j := 0) (x := 46 + 1) z40 (by decide) (Or.inl (by decide))
  have z42 := v_Zr_up z41
  have z43 := zk55 z42
  have z44 := v_Zr_sr (c := 4) (j := 1) (x := 55 + 1) z43 (by decide) (Or.inl (by decide))
  have z45 := v_Zr_up z44
  have z46 := v_Zr_up z45
  have z47 := zk62 z46
  have z48 := zk61 z47
  have z49 := v_Zr_sr (c := 5) (j := 1) (x := 61 + 1) z48 (by decide) (Or.inl (by decide))
  have z50 := v_Zr_up z49
  have z51 := zk70 z50
  have z52 := v_Zr_sr (c := 4) (j := 2) (x := 70 + 1) z51 (by decide) (Or.inl (by decide))
  have z53 := v_Zr_up z52
  have z54 := v_Zr_up z53
  have z55 := zk77 z54
  have z56 := zk76 z55
  have z57 := v_Zr_sr (c := 5) (j := 2) (x := 76 + 1) z56 (by decide) (Or.inl (by decide))
  have z58 := v_Zr_up z57
  have z59 := zk85 z58
  have z60 := v_Zr_sr (c := 4) (j := 3) (x := 85 + 1) z59 (by decide) (Or.inl (by decide))
  have z61 := v_Zr_up z60
  have z62 := v_Zr_up z61
  have z63 := zk92 z62
  have z64 := zk91 z63
  have z65 := v_Zr_sr (c := 5) (j := 3) (x := 91 + 1) z64 (by decide) (Or.inl (by decide))
  have z66 := v_Zr_up z65
  have z67 := zk100 z66
  have z68 := v_Zr_sr (c := 4) (j := 4) (x := 100 + 1) z67 (by decide) (Or.inl (by decide))
  have z69 := v_Zr_up z68
  have z70 := v_Zr_up z69
  have z71 := zk107 z70
  have z72 := zk106 z71
  have z73 := v_Zr_sr (c := 5) (j := 4) (x := 106 + 1) z72 (by decide) (Or.inl (by decide))
  have z74 := v_Zr_up z73
  have z75 := zk115 z74
  have z76 := v_Zr_sr (c := 4) (j := 5) (x := 115 + 1) z75 (by decide) (Or.inl (by decide))
  have z77 := v_Zr_up z76
  have z78 := v_Zr_up z77
  have z79 := zk122 z78
  have z80 := zk121 z79
  have z81 := v_Zr_sr (c := 5) (j := 5) (x := 121 + 1) z80 (by decide) (Or.inl (by decide))
  have z82 := v_Zr_si (c := 0) (j := 13) (x := (-1)) z81 (by decide)
  exact z82
set_option maxRecDepth 20000 in
set_option maxHeartbeats 4000000 in
theorem ck0 {l : Launch} {D : va_G} {dA : Nat → ClassId} (M : vM) (z0 : v_Zr 1 M) : Ct l D dA sX10_init true 130 3 129 25921 1 [.ref 0] M (rV (mk0 M)) := by
  refine Ct_of (lv := [(0, .ref 0)]) (by decide +kernel) rfl (Nat.le_of_ble_eq_true rfl) rfl (fun _ => z0) ?_
  refine V_aload_n (k := 0) dX10_init_0 rfl rfl ?_
  refine V_objInit dX10_init_1 gw110 gw111 gw112 (Nat.le_of_ble_eq_true rfl) (by decide) ?_
  refine V_aload_n (k := 0) dX10_init_4 rfl rfl ?_
  refine V_new (cls := 8) (C := RX8) (T := TX8) (ty0 := tyX8) dX10_init_5 (by decide) rfl rfl inG8 tyX8_ok dfX8 gw113 gw114 gw81 (Nat.le_of_ble_eq_true rfl) (Nat.le_of_ble_eq_true rfl) rfl rfl ?_
  have z1 := v_Zr_up z0
  refine V_dup dX10_init_8 rfl ?_
  refine V_callIA (S' := sX8_init) (d' := 1) (mc' := 1) (ms' := 700) (kc' := 127) (ks' := 25219) (nf' := 3) (M1 := mk1 (M)) (st0 := [.ref 1, .ref 0]) dX10_init_9 lk_X10_11 rfl (ck1 _ z1) rfl rfl (Nat.le_of_ble_eq_true rfl) (by decide) (by decide) rfl (by decide) (zk1 z1) rfl rfl (Nat.le_of_ble_eq_true rfl) (Nat.le_of_ble_eq_true rfl) ?_
  have z2 := zk1 z1
  refine V_putr (k := 1) dX10_init_12 rfl (by decide) vf_X10_12 (by decide) (fun _ => ⟨rfl, rfl, rfl⟩) (fun a => ⟨rfl, rfl⟩) (Or.inl (by decide)) ?_
  have z3 := v_Zr_sr (c := 0) (j := 0) (x := 1 + 1) z2 (by decide) (Or.inl (by decide))
  refine V_aload_n (k := 0) dX10_init_15 rfl rfl ?_
  refine V_new (cls := 4) (C := RX4) (T := TX4) (ty0 := tyX4) dX10_init_16 (by decide) rfl rfl inG4 tyX4_ok dfX4 gw128 gw129 gw82 (Nat.le_of_ble_eq_true rfl) (Nat.le_of_ble_eq_true rfl) rfl rfl ?_
  have z4 := v_Zr_up z3
  refine V_dup dX10_init_19 rfl ?_
  refine V_aload_n (k := 0) dX10_init_20 rfl rfl ?_
  refine V_getr (k := 1) dX10_init_21 rfl (by decide) vf_X10_12 (by decide) rfl ?_
  refine V_callIA (S' := sX4_init) (d' := 1) (mc' := 0) (ms' := 0) (kc' := 126) (ks' := 25210) (nf' := 4) (M1 := mk3 (v_sr (mk1 (M)) 0 0 (1 + 1))) (st0 := [.ref 3, .ref 0]) dX10_init_24 lk_X10_18 rfl (ck3 _ z4) rfl rfl (Nat.le_of_ble_eq_true rfl) (by decide) (by decide) rfl (by decide) (zk3 z4) rfl rfl (Nat.le_of_ble_eq_true rfl) (Nat.le_of_ble_eq_true rfl) ?_
  have z5 := zk3 z4
  refine V_putr (k := 3) dX10_init_27 rfl (by decide) vf_X10_21 (by decide) (fun _ => ⟨rfl, rfl, rfl⟩) (fun a => ⟨rfl, rfl⟩) (Or.inl (by decide)) ?_
  have z6 := v_Zr_sr (c := 0) (j := 1) (x := 3 + 1) z5 (by decide) (Or.inl (by decide))
  refine V_aload_n (k := 0) dX10_init_30 rfl rfl ?_
  refine V_bipush (v := 6) dX10_init_31 rfl ?_
  refine V_anew (t := 4) (len := 6) dX10_init_33 (by decide) rfl ⟨by decide, by decide⟩ rfl (by decide) (Nat.le_of_ble_eq_true rfl) gw164 (fun h => h.2.2.2.2.2.2.2.1) (Nat.le_of_ble_eq_true rfl) (Nat.le_of_ble_eq_true rfl) rfl rfl ?_
  have z7 := v_Zr_up z6
  refine V_putr (k := 4) dX10_init_36 rfl (by decide) vf_X10_27 (by decide) (fun _ => ⟨rfl, rfl, rfl⟩) (fun a => ⟨rfl, rfl⟩) (Or.inl (by decide)) ?_
  have z8 := v_Zr_sr (c := 0) (j := 2) (x := 4 + 1) z7 (by decide) (Or.inl (by decide))
  refine V_aload_n (k := 0) dX10_init_39 rfl rfl ?_
  refine V_bipush (v := 6) dX10_init_40 rfl ?_
  refine V_anew (t := 5) (len := 6) dX10_init_42 (by decide) rfl ⟨by decide, by decide⟩ rfl (by decide) (Nat.le_of_ble_eq_true rfl) gw166 (fun h => h.2.2.2.2.2.2.2.2.1) (Nat.le_of_ble_eq_true rfl) (Nat.le_of_ble_eq_true rfl) rfl rfl ?_
  have z9 := v_Zr_up z8
  refine V_putr (k := 5) dX10_init_45 rfl (by decide) vf_X10_33 (by decide) (fun _ => ⟨rfl, rfl, rfl⟩) (fun a => ⟨rfl, rfl⟩) (Or.inl (by decide)) ?_
  have z10 := v_Zr_sr (c := 0) (j := 3) (x := 5 + 1) z9 (by decide) (Or.inl (by decide))
  refine V_aload_n (k := 0) dX10_init_48 rfl rfl ?_
  refine V_new (cls := 1) (C := RX1) (T := TX1) (ty0 := tyX1) dX10_init_49 (by decide) rfl rfl inG1 tyX1_ok dfX1 gw168 gw169 gw83 (Nat.le_of_ble_eq_true rfl) (Nat.le_of_ble_eq_true rfl) rfl rfl ?_
  have z11 := v_Zr_up z10
  refine V_dup dX10_init_52 rfl ?_
  refine V_callIA (S' := sX1_init) (d' := 2) (mc' := 8) (ms' := 1588) (kc' := 115) (ks' := 23601) (nf' := 15) (M1 := mk6 (v_sr (v_sr (v_sr (mk3 (v_sr (mk1 (M)) 0 0 (1 + 1))) 0 1 (3 + 1)) 0 2 (4 + 1)) 0 3 (5 + 1))) (st0 := [.ref 6, .ref 0]) dX10_init_53 lk_X10_39 rfl (ck6 _ z11) rfl rfl (Nat.le_of_ble_eq_true rfl) (by decide) (by decide) rfl (by decide) (zk6 z11) rfl rfl (Nat.le_of_ble_eq_true rfl) (Nat.le_of_ble_eq_true rfl) ?_
  have z12 := zk6 z11
  refine V_putr (k := 6) dX10_init_56 rfl (by decide) vf_X10_40 (by decide) (fun _ => ⟨rfl, rfl, rfl⟩) (fun a => ⟨rfl, rfl⟩) (Or.inl (by decide)) ?_
  have z13 := v_Zr_sr (c := 0) (j := 4) (x := 6 + 1) z12 (by decide) (Or.inl (by decide))
  refine V_aload_n (k := 0) dX10_init_59 rfl rfl ?_
  refine V_new (cls := 1) (C := RX1) (T := TX1) (ty0 := tyX1) dX10_init_60 (by decide) rfl rfl inG1 tyX1_ok dfX1 gw168 gw169 gw83 (Nat.le_of_ble_eq_true rfl) (Nat.le_of_ble_eq_true rfl) rfl rfl ?_
  have z14 := v_Zr_up z13
  refine V_dup dX10_init_63 rfl ?_
  refine V_callIA (S' := sX1_init) (d' := 2) (mc' := 8) (ms' := 1588) (kc' := 106) (ks' := 22004) (nf' := 24) (M1 := mk15 (v_sr (mk6 (v_sr (v_sr (v_sr (mk3 (v_sr (mk1 (M)) 0 0 (1 + 1))) 0 1 (3 + 1)) 0 2 (4 + 1)) 0 3 (5 + 1))) 0 4 (6 + 1))) (st0 := [.ref 15, .ref 0]) dX10_init_64 lk_X10_39 rfl (ck15 _ z14) rfl rfl (Nat.le_of_ble_eq_true rfl) (by decide) (by decide) rfl (by decide) (zk15 z14) rfl rfl (Nat.le_of_ble_eq_true rfl) (Nat.le_of_ble_eq_true rfl) ?_
  have z15 := zk15 z14
  refine V_putr (k := 15) dX10_init_67 rfl (by decide) vf_X10_44 (by decide) (fun _ => ⟨rfl, rfl, rfl⟩) (fun a => ⟨rfl, rfl⟩) (Or.inl (by decide)) ?_
  have z16 := v_Zr_sr (c := 0) (j := 5) (x := 15 + 1) z15 (by decide) (Or.inl (by decide))
  refine V_aload_n (k := 0) dX10_init_70 rfl rfl ?_
  refine V_new (cls := 7) (C := RX7) (T := TX7) (ty0 := tyX7) dX10_init_71 (by decide) rfl rfl inG7 tyX7_ok dfX7 gw207 gw208 gw85 (Nat.le_of_ble_eq_true rfl) (Nat.le_of_ble_eq_true rfl) rfl rfl ?_
  have z17 := v_Zr_up z16
  refine V_dup dX10_init_74 rfl ?_
  refine V_callIA (S' := sX7_init) (d' := 1) (mc' := 3) (ms' := 1659) (kc' := 102) (ks' := 20339) (nf' := 28) (M1 := mk24 (v_sr (mk15 (v_sr (mk6 (v_sr (v_sr (v_sr (mk3 (v_sr (mk1 (M)) 0 0 (1 + 1))) 0 1 (3 + 1)) 0 2 (4 + 1)) 0 3 (5 + 1))) 0 4 (6 + 1))) 0 5 (15 + 1))) (st0 := [.ref 24, .ref 0]) dX10_init_75 lk_X10_49 rfl (ck24 _ z17) rfl rfl (Nat.le_of_ble_eq_true rfl) (by decide) (by decide) rfl (by decide) (zk24 z17) rfl rfl (Nat.le_of_ble_eq_true rfl) (Nat.le_of_ble_eq_true rfl) ?_
  have z18 := zk24 z17
  refine V_putr (k := 24) dX10_init_78 rfl (by decide) vf_X10_50 (by decide) (fun _ => ⟨rfl, rfl, rfl⟩) (fun a => ⟨rfl, rfl⟩) (Or.inl (by decide)) ?_
  have z19 := v_Zr_sr (c := 0) (j := 6) (x := 24 + 1) z18 (by decide) (Or.inl (by decide))
  refine V_aload_n (k := 0) dX10_init_81 rfl rfl ?_
  refine V_new (cls := 6) (C := RX6) (T := TX6) (ty0 := tyX6) dX10_init_82 (by decide) rfl rfl inG6 tyX6_ok dfX6 gw237 gw238 gw86 (Nat.le_of_ble_eq_true rfl) (Nat.le_of_ble_eq_true rfl) rfl rfl ?_
  have z20 := v_Zr_up z19
  refine V_dup dX10_init_85 rfl ?_
  refine V_callIA (S' := sX6_init) (d' := 1) (mc' := 3) (ms' := 42) (kc' := 98) (ks' := 20290) (nf' := 32) (M1 := mk28 (v_sr (mk24 (v_sr (mk15 (v_sr (mk6 (v_sr (v_sr (v_sr (mk3 (v_sr (mk1 (M)) 0 0 (1 + 1))) 0 1 (3 + 1)) 0 2 (4 + 1)) 0 3 (5 + 1))) 0 4 (6 + 1))) 0 5 (15 + 1))) 0 6 (24 + 1))) (st0 := [.ref 28, .ref 0]) dX10_init_86 lk_X10_56 rfl (ck28 _ z20) rfl rfl (Nat.le_of_ble_eq_true rfl) (by decide) (by decide) rfl (by decide) (zk28 z20) rfl rfl (Nat.le_of_ble_eq_true rfl) (Nat.le_of_ble_eq_true rfl) ?_
  have z21 := zk28 z20
  refine V_putr (k := 28) dX10_init_89 rfl (by decide) vf_X10_57 (by decide) (fun _ => ⟨rfl, rfl, rfl⟩) (fun a => ⟨rfl, rfl⟩) (Or.inl (by decide)) ?_
  have z22 := v_Zr_sr (c := 0) (j := 7) (x := 28 + 1) z21 (by decide) (Or.inl (by decide))
  refine V_aload_n (k := 0) dX10_init_92 rfl rfl ?_
  refine V_new (cls := 0) (C := RX0) (T := TX0) (ty0 := tyX0) dX10_init_93 (by decide) rfl rfl inG0 tyX0_ok dfX0 gw268 gw269 gw87 (Nat.le_of_ble_eq_true rfl) (Nat.le_of_ble_eq_true rfl) rfl rfl ?_
  have z23 := v_Zr_up z22
  refine V_dup dX10_init_96 rfl ?_
  refine V_callIA (S' := sX0_init) (d' := 1) (mc' := 1) (ms' := 100) (kc' := 96) (ks' := 20189) (nf' := 34) (M1 := mk32 (v_sr (mk28 (v_sr (mk24 (v_sr (mk15 (v_sr (mk6 (v_sr (v_sr (v_sr (mk3 (v_sr (mk1 (M)) 0 0 (1 + 1))) 0 1 (3 + 1)) 0 2 (4 + 1)) 0 3 (5 + 1))) 0 4 (6 + 1))) 0 5 (15 + 1))) 0 6 (24 + 1))) 0 7 (28 + 1))) (st0 := [.ref 32, .ref 0]) dX10_init_97 lk_X10_63 rfl (ck32 _ z23) rfl rfl (Nat.le_of_ble_eq_true rfl) (by decide) (by decide) rfl (by decide) (zk32 z23) rfl rfl (Nat.le_of_ble_eq_true rfl) (Nat.le_of_ble_eq_true rfl) ?_
  have z24 := zk32 z23
  refine V_putr (k := 32) dX10_init_100 rfl (by decide) vf_X10_64 (by decide) (fun _ => ⟨rfl, rfl, rfl⟩) (fun a => ⟨rfl, rfl⟩) (Or.inl (by decide)) ?_
  have z25 := v_Zr_sr (c := 0) (j := 8) (x := 32 + 1) z24 (by decide) (Or.inl (by decide))
  refine V_aload_n (k := 0) dX10_init_103 rfl rfl ?_
  refine V_new (cls := 2) (C := RX2) (T := TX2) (ty0 := tyX2) dX10_init_104 (by decide) rfl rfl inG2 tyX2_ok dfX2 gw278 gw279 gw88 (Nat.le_of_ble_eq_true rfl) (Nat.le_of_ble_eq_true rfl) rfl rfl ?_
  have z26 := v_Zr_up z25
  refine V_dup dX10_init_107 rfl ?_
  refine V_callIA (S' := sX2_init) (d' := 1) (mc' := 1) (ms' := 12) (kc' := 94) (ks' := 20171) (nf' := 36) (M1 := mk34 (v_sr (mk32 (v_sr (mk28 (v_sr (mk24 (v_sr (mk15 (v_sr (mk6 (v_sr (v_sr (v_sr (mk3 (v_sr (mk1 (M)) 0 0 (1 + 1))) 0 1 (3 + 1)) 0 2 (4 + 1)) 0 3 (5 + 1))) 0 4 (6 + 1))) 0 5 (15 + 1))) 0 6 (24 + 1))) 0 7 (28 + 1))) 0 8 (32 + 1))) (st0 := [.ref 34, .ref 0]) dX10_init_108 lk_X10_70 rfl (ck34 _ z26) rfl rfl (Nat.le_of_ble_eq_true rfl) (by decide) (by decide) rfl (by decide) (zk34 z26) rfl rfl (Nat.le_of_ble_eq_true rfl) (Nat.le_of_ble_eq_true rfl) ?_
  have z27 := zk34 z26
  refine V_putr (k := 34) dX10_init_111 rfl (by decide) vf_X10_71 (by decide) (fun _ => ⟨rfl, rfl, rfl⟩) (fun a => ⟨rfl, rfl⟩) (Or.inl (by decide)) ?_
  have z28 := v_Zr_sr (c := 0) (j := 9) (x := 34 + 1) z27 (by decide) (Or.inl (by decide))
  refine V_aload_n (k := 0) dX10_init_114 rfl rfl ?_
  refine V_new (cls := 5) (C := RX5) (T := TX5) (ty0 := tyX5) dX10_init_115 (by decide) rfl rfl inG5 tyX5_ok dfX5 gw307 gw308 gw89 (Nat.le_of_ble_eq_true rfl) (Nat.le_of_ble_eq_true rfl) rfl rfl ?_
  have z29 := v_Zr_up z28
  refine V_dup dX10_init_118 rfl ?_
  refine V_callIA (S' := sX5_init) (d' := 1) (mc' := 2) (ms' := 24) (kc' := 91) (ks' := 20142) (nf' := 39) (M1 := mk36 (v_sr (mk34 (v_sr (mk32 (v_sr (mk28 (v_sr (mk24 (v_sr (mk15 (v_sr (mk6 (v_sr (v_sr (v_sr (mk3 (v_sr (mk1 (M)) 0 0 (1 + 1))) 0 1 (3 + 1)) 0 2 (4 + 1)) 0 3 (5 + 1))) 0 4 (6 + 1))) 0 5 (15 + 1))) 0 6 (24 + 1))) 0 7 (28 + 1))) 0 8 (32 + 1))) 0 9 (34 + 1))) (st0 := [.ref 36, .ref 0]) dX10_init_119 lk_X10_77 rfl (ck36 _ z29) rfl rfl (Nat.le_of_ble_eq_true rfl) (by decide) (by decide) rfl (by decide) (zk36 z29) rfl rfl (Nat.le_of_ble_eq_true rfl) (Nat.le_of_ble_eq_true rfl) ?_
  have z30 := zk36 z29
  refine V_putr (k := 36) dX10_init_122 rfl (by decide) vf_X10_78 (by decide) (fun _ => ⟨rfl, rfl, rfl⟩) (fun a => ⟨rfl, rfl⟩) (Or.inl (by decide)) ?_
  have z31 := v_Zr_sr (c := 0) (j := 10) (x := 36 + 1) z30 (by decide) (Or.inl (by decide))
  refine V_aload_n (k := 0) dX10_init_125 rfl rfl ?_
  refine V_sipush (v := 1458) dX10_init_126 rfl ?_
  refine V_newa (t := 3) (len := 1458) dX10_init_129 (by decide) rfl (by decide) rfl (by decide) (Nat.le_of_ble_eq_true rfl) gw235 (Nat.le_of_ble_eq_true rfl) (Nat.le_of_ble_eq_true rfl) rfl rfl ?_
  have z32 := v_Zr_up z31
  refine V_putr (k := 39) dX10_init_131 rfl (by decide) vf_X10_82 (by decide) (fun _ => ⟨rfl, rfl, rfl⟩) (fun a => ⟨rfl, rfl⟩) (Or.inl (by decide)) ?_
  have z33 := v_Zr_sr (c := 0) (j := 11) (x := 39 + 1) z32 (by decide) (Or.inl (by decide))
  refine V_iconst (v := 0) dX10_init_134 rfl ?_
  refine V_istore_n (lv' := [(1, .int 0), (0, .ref 0)]) dX10_init_135 rfl (by decide) rfl ?_
  refine V_iload_n (k := 0) dX10_init_136 rfl rfl ?_
  refine V_bipush (v := 6) dX10_init_137 rfl ?_
  refine V_icmpgeF (tgt := 181) dX10_init_139 (by decide) (by decide) ?_
  refine V_aload_n (k := 1) dX10_init_142 rfl rfl ?_
  refine V_getr (k := 4) dX10_init_143 rfl (by decide) vf_X10_27 (by decide) rfl ?_
  refine V_iload_n (k := 0) dX10_init_146 rfl rfl ?_
  refine V_new (cls := 3) (C := RX3) (T := TX3) (ty0 := tyX3) dX10_init_147 (by decide) rfl rfl inG3 tyX3_ok dfX3 gw164 gw332 gw90 (Nat.le_of_ble_eq_true rfl) (Nat.le_of_ble_eq_true rfl) rfl rfl ?_
  have z34 := v_Zr_up z33
  refine V_dup dX10_init_150 rfl ?_
  refine V_callIA (S' := sX3_init) (d' := 1) (mc' := 5) (ms' := 84) (kc' := 84) (ks' := 18588) (nf' := 46) (M1 := mk40 (v_sr (v_sr (mk36 (v_sr (mk34 (v_sr (mk32 (v_sr (mk28 (v_sr (mk24 (v_sr (mk15 (v_sr (mk6 (v_sr (v_sr (v_sr (mk3 (v_sr (mk1 (M)) 0 0 (1 + 1))) 0 1 (3 + 1)) 0 2 (4 + 1)) 0 3 (5 + 1))) 0 4 (6 + 1))) 0 5 (15 + 1))) 0 6 (24 + 1))) 0 7 (28 + 1))) 0 8 (32 + 1))) 0 9 (34 + 1))) 0 10 (36 + 1)) 0 11 (39 + 1))) (st0 := [.ref 40, .int 0, .ref 4]) dX10_init_151 lk_X10_86 rfl (ck40 _ z34) rfl rfl (Nat.le_of_ble_eq_true rfl) (by decide) (by decide) rfl (by decide) (zk40 z34) rfl rfl (Nat.le_of_ble_eq_true rfl) (Nat.le_of_ble_eq_true rfl) ?_
  have z35 := zk40 z34
  refine V_aastT (j := 0) (cls := 3) (q := (RX3, TX3, 12)) dX10_init_154 rfl (by decide) ⟨by decide, by decide⟩ rfl (by decide) rfl rfl (by decide) (by decide) ?_
  have z36 := v_Zr_sr (c := 4) (j := 0) (x := 40 + 1) z35 (by decide) (Or.inl (by decide))
  refine V_aload_n (k := 1) dX10_init_155 rfl rfl ?_
  refine V_getr (k := 5) dX10_init_156 rfl (by decide) vf_X10_33 (by decide) rfl ?_
  refine V_iload_n (k := 0) dX10_init_159 rfl rfl ?_
  refine V_new (cls := 9) (C := RX9) (T := TX9) (ty0 := tyX9) dX10_init_160 (by decide) rfl rfl inG9 tyX9_ok dfX9 gw166 gw394 gw91 (Nat.le_of_ble_eq_true rfl) (Nat.le_of_ble_eq_true rfl) rfl rfl ?_
  have z37 := v_Zr_up z36
  refine V_dup dX10_init_163 rfl ?_
  refine V_new (cls := 3) (C := RX3) (T := TX3) (ty0 := tyX3) dX10_init_164 (by decide) rfl rfl inG3 tyX3_ok dfX3 gw164 gw332 gw90 (Nat.le_of_ble_eq_true rfl) (Nat.le_of_ble_eq_true rfl) rfl rfl ?_
  have z38 := v_Zr_up z37
  refine V_dup dX10_init_167 rfl ?_
  refine V_callIA (S' := sX3_init) (d' := 1) (mc' := 5) (ms' := 84) (kc' := 77) (ks' := 18486) (nf' := 53) (M1 := mk47 (v_sr (mk40 (v_sr (v_sr (mk36 (v_sr (mk34 (v_sr (mk32 (v_sr (mk28 (v_sr (mk24 (v_sr (mk15 (v_sr (mk6 (v_sr (v_sr (v_sr (mk3 (v_sr (mk1 (M)) 0 0 (1 + 1))) 0 1 (3 + 1)) 0 2 (4 + 1)) 0 3 (5 + 1))) 0 4 (6 + 1))) 0 5 (15 + 1))) 0 6 (24 + 1))) 0 7 (28 + 1))) 0 8 (32 + 1))) 0 9 (34 + 1))) 0 10 (36 + 1)) 0 11 (39 + 1))) 4 0 (40 + 1))) (st0 := [.ref 47, .ref 46, .ref 46, .int 0, .ref 5]) dX10_init_168 lk_X10_86 rfl (ck47 _ z38) rfl rfl (Nat.le_of_ble_eq_true rfl) (by decide) (by decide) rfl (by decide) (zk47 z38) rfl rfl (Nat.le_of_ble_eq_true rfl) (Nat.le_of_ble_eq_true rfl) ?_
  have z39 := zk47 z38
  refine V_callIA (S' := sX9_init) (d' := 1) (mc' := 2) (ms' := 2916) (kc' := 75) (ks' := 15570) (nf' := 55) (M1 := mk46 (mk47 (v_sr (mk40 (v_sr (v_sr (mk36 (v_sr (mk34 (v_sr (mk32 (v_sr (mk28 (v_sr (mk24 (v_sr (mk15 (v_sr (mk6 (v_sr (v_sr (v_sr (mk3 (v_sr (mk1 (M)) 0 0 (1 + 1))) 0 1 (3 + 1)) 0 2 (4 + 1)) 0 3 (5 + 1))) 0 4 (6 + 1))) 0 5 (15 + 1))) 0 6 (24 + 1))) 0 7 (28 + 1))) 0 8 (32 + 1))) 0 9 (34 + 1))) 0 10 (36 + 1)) 0 11 (39 + 1))) 4 0 (40 + 1)))) (st0 := [.ref 46, .int 0, .ref 5]) dX10_init_171 lk_X10_87 rfl (ck46 _ z39) rfl rfl (Nat.le_of_ble_eq_true rfl) (by decide) (by decide) rfl (by decide) (zk46 z39) rfl rfl (Nat.le_of_ble_eq_true rfl) (Nat.le_of_ble_eq_true rfl) ?_
  have z40 := zk46 z39
  refine V_aastT (j := 0) (cls := 9) (q := (RX9, TX9, 6)) dX10_init_174 rfl (by decide) ⟨by decide, by decide⟩ rfl (by decide) rfl rfl (by decide) (by decide) ?_
  have z41 := v_Zr_sr (c := 5) (j := 0) (x := 46 + 1) z40 (by decide) (Or.inl (by decide))
  refine V_iinc (k := 0) (v := 1) (lv' := [(1, .int 1), (0, .ref 0)]) dX10_init_175 rfl (by decide) (by decide) rfl ?_
  refine V_goto (tgt := 136) dX10_init_178 (by decide) ?_
  refine V_iload_n (k := 0) dX10_init_136 rfl rfl ?_
  refine V_bipush (v := 6) dX10_init_137 rfl ?_
  refine V_icmpgeF (tgt := 181) dX10_init_139 (by decide) (by decide) ?_
  refine V_aload_n (k := 1) dX10_init_142 rfl rfl ?_
  refine V_getr (k := 4) dX10_init_143 rfl (by decide) vf_X10_27 (by decide) rfl ?_
  refine V_iload_n (k := 0) dX10_init_146 rfl rfl ?_
  refine V_new (cls := 3) (C := RX3) (T := TX3) (ty0 := tyX3) dX10_init_147 (by decide) rfl rfl inG3 tyX3_ok dfX3 gw164 gw332 gw90 (Nat.le_of_ble_eq_true rfl) (Nat.le_of_ble_eq_true rfl) rfl rfl ?_
  have z42 := v_Zr_up z41
  refine V_dup dX10_init_150 rfl ?_
  refine V_callIA (S' := sX3_init) (d' := 1) (mc' := 5) (ms' := 84) (kc' := 69) (ks' := 15474) (nf' := 61) (M1 := mk55 (v_sr (mk46 (mk47 (v_sr (mk40 (v_sr (v_sr (mk36 (v_sr (mk34 (v_sr (mk32 (v_sr (mk28 (v_sr (mk24 (v_sr (mk15 (v_sr (mk6 (v_sr (v_sr (v_sr (mk3 (v_sr (mk1 (M)) 0 0 (1 + 1))) 0 1 (3 + 1)) 0 2 (4 + 1)) 0 3 (5 + 1))) 0 4 (6 + 1))) 0 5 (15 + 1))) 0 6 (24 + 1))) 0 7 (28 + 1))) 0 8 (32 + 1))) 0 9 (34 + 1))) 0 10 (36 + 1)) 0 11 (39 + 1))) 4 0 (40 + 1)))) 5 0 (46 + 1))) (st0 := [.ref 55, .int 1, .ref 4]) dX10_init_151 lk_X10_86 rfl (ck55 _ z42) rfl rfl (Nat.le_of_ble_eq_true rfl) (by decide) (by decide) rfl (by decide) (zk55 z42) rfl rfl (Nat.le_of_ble_eq_true rfl) (Nat.le_of_ble_eq_true rfl) ?_
  have z43 := zk55 z42
  refine V_aastT (j := 1) (cls := 3) (q := (RX3, TX3, 12)) dX10_init_154 rfl (by decide) ⟨by decide, by decide⟩ rfl (by decide) rfl rfl (by decide) (by decide) ?_
  have z44 := v_Zr_sr (c := 4) (j := 1) (x := 55 + 1) z43 (by decide) (Or.inl (by decide))
  refine V_aload_n (k := 1) dX10_init_155 rfl rfl ?_
  refine V_getr (k := 5) dX10_init_156 rfl (by decide) vf_X10_33 (by decide) rfl ?_
  refine V_iload_n (k := 0) dX10_init_159 rfl rfl ?_
  refine V_new (cls := 9) (C := RX9) (T := TX9) (ty0 := tyX9) dX10_init_160 (by decide) rfl rfl inG9 tyX9_ok dfX9 gw166 gw394 gw91 (Nat.le_of_ble_eq_true rfl) (Nat.le_of_ble_eq_true rfl) rfl rfl ?_
  have z45 := v_Zr_up z44
  refine V_dup dX10_init_163 rfl ?_
  refine V_new (cls := 3) (C := RX3) (T := TX3) (ty0 := tyX3) dX10_init_164 (by decide) rfl rfl inG3 tyX3_ok dfX3 gw164 gw332 gw90 (Nat.le_of_ble_eq_true rfl) (Nat.le_of_ble_eq_true rfl) rfl rfl ?_
  have z46 := v_Zr_up z45
  refine V_dup dX10_init_167 rfl ?_
  refine V_callIA (S' := sX3_init) (d' := 1) (mc' := 5) (ms' := 84) (kc' := 62) (ks' := 15372) (nf' := 68) (M1 := mk62 (v_sr (mk55 (v_sr (mk46 (mk47 (v_sr (mk40 (v_sr (v_sr (mk36 (v_sr (mk34 (v_sr (mk32 (v_sr (mk28 (v_sr (mk24 (v_sr (mk15 (v_sr (mk6 (v_sr (v_sr (v_sr (mk3 (v_sr (mk1 (M)) 0 0 (1 + 1))) 0 1 (3 + 1)) 0 2 (4 + 1)) 0 3 (5 + 1))) 0 4 (6 + 1))) 0 5 (15 + 1))) 0 6 (24 + 1))) 0 7 (28 + 1))) 0 8 (32 + 1))) 0 9 (34 + 1))) 0 10 (36 + 1)) 0 11 (39 + 1))) 4 0 (40 + 1)))) 5 0 (46 + 1))) 4 1 (55 + 1))) (st0 := [.ref 62, .ref 61, .ref 61, .int 1, .ref 5]) dX10_init_168 lk_X10_86 rfl (ck62 _ z46) rfl rfl (Nat.le_of_ble_eq_true rfl) (by decide) (by decide) rfl (by decide) (zk62 z46) rfl rfl (Nat.le_of_ble_eq_true rfl) (Nat.le_of_ble_eq_true rfl) ?_
  have z47 := zk62 z46
  refine V_callIA (S' := sX9_init) (d' := 1) (mc' := 2) (ms' := 2916) (kc' := 60) (ks' := 12456) (nf' := 70) (M1 := mk61 (mk62 (v_sr (mk55 (v_sr (mk46 (mk47 (v_sr (mk40 (v_sr (v_sr (mk36 (v_sr (mk34 (v_sr (mk32 (v_sr (mk28 (v_sr (mk24 (v_sr (mk15 (v_sr (mk6 (v_sr (v_sr (v_sr (mk3 (v_sr (mk1 (M)) 0 0 (1 + 1))) 0 1 (3 + 1)) 0 2 (4 + 1)) 0 3 (5 + 1))) 0 4 (6 + 1))) 0 5 (15 + 1))) 0 6 (24 + 1))) 0 7 (28 + 1))) 0 8 (32 + 1))) 0 9 (34 + 1))) 0 10 (36 + 1)) 0 11 (39 + 1))) 4 0 (40 + 1)))) 5 0 (46 + 1))) 4 1 (55 + 1)))) (st0 := [.ref 61, .int 1, .ref 5]) dX10_init_171 lk_X10_87 rfl (ck61 _ z47) rfl rfl (Nat.le_of_ble_eq_true rfl) (by decide) (by decide) rfl (by decide) (zk61 z47) rfl rfl (Nat.le_of_ble_eq_true rfl) (Nat.le_of_ble_eq_true rfl) ?_
  have z48 := zk61 z47
  refine V_aastT (j := 1) (cls := 9) (q := (RX9, TX9, 6)) dX10_init_174 rfl (by decide) ⟨by decide, by decide⟩ rfl (by decide) rfl rfl (by decide) (by decide) ?_
  have z49 := v_Zr_sr (c := 5) (j := 1) (x := 61 + 1) z48 (by decide) (Or.inl (by decide))
  refine V_iinc (k := 0) (v := 2) (lv' := [(1, .int 2), (0, .ref 0)]) dX10_init_175 rfl (by decide) (by decide) rfl ?_
  refine V_goto (tgt := 136) dX10_init_178 (by decide) ?_
  refine V_iload_n (k := 0) dX10_init_136 rfl rfl ?_
  refine V_bipush (v := 6) dX10_init_137 rfl ?_
  refine V_icmpgeF (tgt := 181) dX10_init_139 (by decide) (by decide) ?_
  refine V_aload_n (k := 1) dX10_init_142 rfl rfl ?_
  refine V_getr (k := 4) dX10_init_143 rfl (by decide) vf_X10_27 (by decide) rfl ?_
  refine V_iload_n (k := 0) dX10_init_146 rfl rfl ?_
  refine V_new (cls := 3) (C := RX3) (T := TX3) (ty0 := tyX3) dX10_init_147 (by decide) rfl rfl inG3 tyX3_ok dfX3 gw164 gw332 gw90 (Nat.le_of_ble_eq_true rfl) (Nat.le_of_ble_eq_true rfl) rfl rfl ?_
  have z50 := v_Zr_up z49
  refine V_dup dX10_init_150 rfl ?_
  refine V_callIA (S' := sX3_init) (d' := 1) (mc' := 5) (ms' := 84) (kc' := 54) (ks' := 12360) (nf' := 76) (M1 := mk70 (v_sr (mk61 (mk62 (v_sr (mk55 (v_sr (mk46 (mk47 (v_sr (mk40 (v_sr (v_sr (mk36 (v_sr (mk34 (v_sr (mk32 (v_sr (mk28 (v_sr (mk24 (v_sr (mk15 (v_sr (mk6 (v_sr (v_sr (v_sr (mk3 (v_sr (mk1 (M)) 0 0 (1 + 1))) 0 1 (3 + 1)) 0 2 (4 + 1)) 0 3 (5 + 1))) 0 4 (6 + 1))) 0 5 (15 + 1))) 0 6 (24 + 1))) 0 7 (28 + 1))) 0 8 (32 + 1))) 0 9 (34 + 1))) 0 10 (36 + 1)) 0 11 (39 + 1))) 4 0 (40 + 1)))) 5 0 (46 + 1))) 4 1 (55 + 1)))) 5 1 (61 + 1))) (st0 := [.ref 70, .int 2, .ref 4]) dX10_init_151 lk_X10_86 rfl (ck70 _ z50) rfl rfl (Nat.le_of_ble_eq_true rfl) (by decide) (by decide) rfl (by decide) (zk70 z50) rfl rfl (Nat.le_of_ble_eq_true rfl) (Nat.le_of_ble_eq_true rfl) ?_
  have z51 := zk70 z50
  refine V_aastT (j := 2) (cls := 3) (q := (RX3, TX3, 12)) dX10_init_154 rfl (by decide) ⟨by decide, by decide⟩ rfl (by decide) rfl rfl (by decide) (by decide) ?_
  have z52 := v_Zr_sr (c := 4) (j := 2) (x := 70 + 1) z51 (by decide) (Or.inl (by decide))
  refine V_aload_n (k := 1) dX10_init_155 rfl rfl ?_
  refine V_getr (k := 5) dX10_init_156 rfl (by decide) vf_X10_33 (by decide) rfl ?_
  refine V_iload_n (k := 0) dX10_init_159 rfl rfl ?_
  refine V_new (cls := 9) (C := RX9) (T := TX9) (ty0 := tyX9) dX10_init_160 (by decide) rfl rfl inG9 tyX9_ok dfX9 gw166 gw394 gw91 (Nat.le_of_ble_eq_true rfl) (Nat.le_of_ble_eq_true rfl) rfl rfl ?_
  have z53 := v_Zr_up z52
  refine V_dup dX10_init_163 rfl ?_
  refine V_new (cls := 3) (C := RX3) (T := TX3) (ty0 := tyX3) dX10_init_164 (by decide) rfl rfl inG3 tyX3_ok dfX3 gw164 gw332 gw90 (Nat.le_of_ble_eq_true rfl) (Nat.le_of_ble_eq_true rfl) rfl rfl ?_
  have z54 := v_Zr_up z53
  refine V_dup dX10_init_167 rfl ?_
  refine V_callIA (S' := sX3_init) (d' := 1) (mc' := 5) (ms' := 84) (kc' := 47) (ks' := 12258) (nf' := 83) (M1 := mk77 (v_sr (mk70 (v_sr (mk61 (mk62 (v_sr (mk55 (v_sr (mk46 (mk47 (v_sr (mk40 (v_sr (v_sr (mk36 (v_sr (mk34 (v_sr (mk32 (v_sr (mk28 (v_sr (mk24 (v_sr (mk15 (v_sr (mk6 (v_sr (v_sr (v_sr (mk3 (v_sr (mk1 (M)) 0 0 (1 + 1))) 0 1 (3 + 1)) 0 2 (4 + 1)) 0 3 (5 + 1))) 0 4 (6 + 1))) 0 5 (15 + 1))) 0 6 (24 + 1))) 0 7 (28 + 1))) 0 8 (32 + 1))) 0 9 (34 + 1))) 0 10 (36 + 1)) 0 11 (39 + 1))) 4 0 (40 + 1)))) 5 0 (46 + 1))) 4 1 (55 + 1)))) 5 1 (61 + 1))) 4 2 (70 + 1))) (st0 := [.ref 77, .ref 76, .ref 76, .int 2, .ref 5]) dX10_init_168 lk_X10_86 rfl (ck77 _ z54) rfl rfl (Nat.le_of_ble_eq_true rfl) (by decide) (by decide) rfl (by decide) (zk77 z54) rfl rfl (Nat.le_of_ble_eq_true rfl) (Nat.le_of_ble_eq_true rfl) ?_
  have z55 := zk77 z54
  refine V_callIA (S' := sX9_init) (d' := 1) (mc' := 2) (ms' := 2916) (kc' := 45) (ks' := 9342) (nf' := 85) (M1 := mk76 (mk77 (v_sr (mk70 (v_sr (mk61 (mk62 (v_sr (mk55 (v_sr (mk46 (mk47 (v_sr (mk40 (v_sr (v_sr (mk36 (v_sr (mk34 (v_sr (mk32 (v_sr (mk28 (v_sr (mk24 (v_sr (mk15 (v_sr (mk6 (v_sr (v_sr (v_sr (mk3 (v_sr (mk1 (M)) 0 0 (1 + 1))) 0 1 (3 + 1)) 0 2 (4 + 1)) 0 3 (5 + 1))) 0 4 (6 + 1))) 0 5 (15 + 1))) 0 6 (24 + 1))) 0 7 (28 + 1))) 0 8 (32 + 1))) 0 9 (34 + 1))) 0 10 (36 + 1)) 0 11 (39 + 1))) 4 0 (40 + 1)))) 5 0 (46 + 1))) 4 1 (55 + 1)))) 5 1 (61 + 1))) 4 2 (70 + 1)))) (st0 := [.ref 76, .int 2, .ref 5]) dX10_init_171 lk_X10_87 rfl (ck76 _ z55) rfl rfl (Nat.le_of_ble_eq_true rfl) (by decide) (by decide) rfl (by decide) (zk76 z55) rfl rfl (Nat.le_of_ble_eq_true rfl) (Nat.le_of_ble_eq_true rfl) ?_
  have z56 := zk76 z55
  refine V_aastT (j := 2) (cls := 9) (q := (RX9, TX9, 6)) dX10_init_174 rfl (by decide) ⟨by decide, by decide⟩ rfl (by decide) rfl rfl (by decide) (by decide) ?_
  have z57 := v_Zr_sr (c := 5) (j := 2) (x := 76 + 1) z56 (by decide) (Or.inl (by decide))
  refine V_iinc (k := 0) (v := 3) (lv' := [(1, .int 3), (0, .ref 0)]) dX10_init_175 rfl (by decide) (by decide) rfl ?_
  refine V_goto (tgt := 136) dX10_init_178 (by decide) ?_
  refine V_iload_n (k := 0) dX10_init_136 rfl rfl ?_
  refine V_bipush (v := 6) dX10_init_137 rfl ?_
  refine V_icmpgeF (tgt := 181) dX10_init_139 (by decide) (by decide) ?_
  refine V_aload_n (k := 1) dX10_init_142 rfl rfl ?_
  refine V_getr (k := 4) dX10_init_143 rfl (by decide) vf_X10_27 (by decide) rfl ?_
  refine V_iload_n (k := 0) dX10_init_146 rfl rfl ?_
  refine V_new (cls := 3) (C := RX3) (T := TX3) (ty0 := tyX3) dX10_init_147 (by decide) rfl rfl inG3 tyX3_ok dfX3 gw164 gw332 gw90 (Nat.le_of_ble_eq_true rfl) (Nat.le_of_ble_eq_true rfl) rfl rfl ?_
  have z58 := v_Zr_up z57
  refine V_dup dX10_init_150 rfl ?_
  refine V_callIA (S' := sX3_init) (d' := 1) (mc' := 5) (ms' := 84) (kc' := 39) (ks' := 9246) (nf' := 91) (M1 := mk85 (v_sr (mk76 (mk77 (v_sr (mk70 (v_sr (mk61 (mk62 (v_sr (mk55 (v_sr (mk46 (mk47 (v_sr (mk40 (v_sr (v_sr (mk36 (v_sr (mk34 (v_sr (mk32 (v_sr (mk28 (v_sr (mk24 (v_sr (mk15 (v_sr (mk6 (v_sr (v_sr (v_sr (mk3 (v_sr (mk1 (M)) 0 0 (1 + 1))) 0 1 (3 + 1)) 0 2 (4 + 1)) 0 3 (5 + 1))) 0 4 (6 + 1))) 0 5 (15 + 1))) 0 6 (24 + 1))) 0 7 (28 + 1))) 0 8 (32 + 1))) 0 9 (34 + 1))) 0 10 (36 + 1)) 0 11 (39 + 1))) 4 0 (40 + 1)))) 5 0 (46 + 1))) 4 1 (55 + 1)))) 5 1 (61 + 1))) 4 2 (70 + 1)))) 5 2 (76 + 1))) (st0 := [.ref 85, .int 3, .ref 4]) dX10_init_151 lk_X10_86 rfl (ck85 _ z58) rfl rfl (Nat.le_of_ble_eq_true rfl) (by decide) (by decide) rfl (by decide) (zk85 z58) rfl rfl (Nat.le_of_ble_eq_true rfl) (Nat.le_of_ble_eq_true rfl) ?_
  have z59 := zk85 z58
  refine V_aastT (j := 3) (cls := 3) (q := (RX3, TX3, 12)) dX10_init_154 rfl (by decide) ⟨by decide, by decide⟩ rfl (by decide) rfl rfl (by decide) (by decide) ?_
  have z60 := v_Zr_sr (c := 4) (j := 3) (x := 85 + 1) z59 (by decide) (Or.inl (by decide))
  refine V_aload_n (k := 1) dX10_init_155 rfl rfl ?_
  refine V_getr (k := 5) dX10_init_156 rfl (by decide) vf_X10_33 (by decide) rfl ?_
  refine V_iload_n (k := 0) dX10_init_159 rfl rfl ?_
  refine V_new (cls := 9) (C := RX9) (T := TX9) (ty0 := tyX9) dX10_init_160 (by decide) rfl rfl inG9 tyX9_ok dfX9 gw166 gw394 gw91 (Nat.le_of_ble_eq_true rfl) (Nat.le_of_ble_eq_true rfl) rfl rfl ?_
  have z61 := v_Zr_up z60
  refine V_dup dX10_init_163 rfl ?_
  refine V_new (cls := 3) (C := RX3) (T := TX3) (ty0 := tyX3) dX10_init_164 (by decide) rfl rfl inG3 tyX3_ok dfX3 gw164 gw332 gw90 (Nat.le_of_ble_eq_true rfl) (Nat.le_of_ble_eq_true rfl) rfl rfl ?_
  have z62 := v_Zr_up z61
  refine V_dup dX10_init_167 rfl ?_
  refine V_callIA (S' := sX3_init) (d' := 1) (mc' := 5) (ms' := 84) (kc' := 32) (ks' := 9144) (nf' := 98) (M1 := mk92 (v_sr (mk85 (v_sr (mk76 (mk77 (v_sr (mk70 (v_sr (mk61 (mk62 (v_sr (mk55 (v_sr (mk46 (mk47 (v_sr (mk40 (v_sr (v_sr (mk36 (v_sr (mk34 (v_sr (mk32 (v_sr (mk28 (v_sr (mk24 (v_sr (mk15 (v_sr (mk6 (v_sr (v_sr (v_sr (mk3 (v_sr (mk1 (M)) 0 0 (1 + 1))) 0 1 (3 + 1)) 0 2 (4 + 1)) 0 3 (5 + 1))) 0 4 (6 + 1))) 0 5 (15 + 1))) 0 6 (24 + 1))) 0 7 (28 + 1))) 0 8 (32 + 1))) 0 9 (34 + 1))) 0 10 (36 + 1)) 0 11 (39 + 1))) 4 0 (40 + 1)))) 5 0 (46 + 1))) 4 1 (55 + 1)))) 5 1 (61 + 1))) 4 2 (70 + 1)))) 5 2 (76 + 1))) 4 3 (85 + 1))) (st0 := [.ref 92, .ref 91, .ref 91, .int 3, .ref 5]) dX10_init_168 lk_X10_86 rfl (ck92 _ z62) rfl rfl (Nat.le_of_ble_eq_true rfl) (by decide) (by decide) rfl (by decide) (zk92 z62) rfl rfl (Nat.le_of_ble_eq_true rfl) (Nat.le_of_ble_eq_true rfl) ?_
  have z63 := zk92 z62
  refine V_callIA (S' := sX9_init) (d' := 1) (mc' := 2) (ms' := 2916) (kc' := 30) (ks' := 6228) (nf' := 100) (M1 := mk91 (mk92 (v_sr (mk85 (v_sr (mk76 (mk77 (v_sr (mk70 (v_sr (mk61 (mk62 (v_sr (mk55 (v_sr (mk46 (mk47 (v_sr (mk40 (v_sr (v_sr (mk36 (v_sr (mk34 (v_sr (mk32 (v_sr (mk28 (v_sr (mk24 (v_sr (mk15 (v_sr (mk6 (v_sr (v_sr (v_sr (mk3 (v_sr (mk1 (M)) 0 0 (1 + 1))) 0 1 (3 + 1)) 0 2 (4 + 1)) 0 3 (5 + 1))) 0 4 (6 + 1))) 0 5 (15 + 1))) 0 6 (24 + 1))) 0 7 (28 + 1))) 0 8 (32 + 1))) 0 9 (34 + 1))) 0 10 (36 + 1)) 0 11 (39 + 1))) 4 0 (40 + 1)))) 5 0 (46 + 1))) 4 1 (55 + 1)))) 5 1 (61 + 1))) 4 2 (70 + 1)))) 5 2 (76 + 1))) 4 3 (85 + 1)))) (st0 := [.ref 91, .int 3, .ref 5]) dX10_init_171 lk_X10_87 rfl (ck91 _ z63) rfl rfl (Nat.le_of_ble_eq_true rfl) (by decide) (by decide) rfl (by decide) (zk91 z63) rfl rfl (Nat.le_of_ble_eq_true rfl) (Nat.le_of_ble_eq_true rfl) ?_
  have z64 := zk91 z63
  refine V_aastT (j := 3) (cls := 9) (q := (RX9, TX9, 6)) dX10_init_174 rfl (by decide) ⟨by decide, by decide⟩ rfl (by decide) rfl rfl (by decide) (by decide) ?_
  have z65 := v_Zr_sr (c := 5) (j := 3) (x := 91 + 1) z64 (by decide) (Or.inl (by decide))
  refine V_iinc (k := 0) (v := 4) (lv' := [(1, .int 4), (0, .ref 0)]) dX10_init_175 rfl (by decide) (by decide) rfl ?_
  refine V_goto (tgt := 136) dX10_init_178 (by decide) ?_
  refine V_iload_n (k := 0) dX10_init_136 rfl rfl ?_
  refine V_bipush (v := 6) dX10_init_137 rfl ?_
  refine V_icmpgeF (tgt := 181) dX10_init_139 (by decide) (by decide) ?_
  refine V_aload_n (k := 1) dX10_init_142 rfl rfl ?_
  refine V_getr (k := 4) dX10_init_143 rfl (by decide) vf_X10_27 (by decide) rfl ?_
  refine V_iload_n (k := 0) dX10_init_146 rfl rfl ?_
  refine V_new (cls := 3) (C := RX3) (T := TX3) (ty0 := tyX3) dX10_init_147 (by decide) rfl rfl inG3 tyX3_ok dfX3 gw164 gw332 gw90 (Nat.le_of_ble_eq_true rfl) (Nat.le_of_ble_eq_true rfl) rfl rfl ?_
  have z66 := v_Zr_up z65
  refine V_dup dX10_init_150 rfl ?_
  refine V_callIA (S' := sX3_init) (d' := 1) (mc' := 5) (ms' := 84) (kc' := 24) (ks' := 6132) (nf' := 106) (M1 := mk100 (v_sr (mk91 (mk92 (v_sr (mk85 (v_sr (mk76 (mk77 (v_sr (mk70 (v_sr (mk61 (mk62 (v_sr (mk55 (v_sr (mk46 (mk47 (v_sr (mk40 (v_sr (v_sr (mk36 (v_sr (mk34 (v_sr (mk32 (v_sr (mk28 (v_sr (mk24 (v_sr (mk15 (v_sr (mk6 (v_sr (v_sr (v_sr (mk3 (v_sr (mk1 (M)) 0 0 (1 + 1))) 0 1 (3 + 1)) 0 2 (4 + 1)) 0 3 (5 + 1))) 0 4 (6 + 1))) 0 5 (15 + 1))) 0 6 (24 + 1))) 0 7 (28 + 1))) 0 8 (32 + 1))) 0 9 (34 + 1))) 0 10 (36 + 1)) 0 11 (39 + 1))) 4 0 (40 + 1)))) 5 0 (46 + 1))) 4 1 (55 + 1)))) 5 1 (61 + 1))) 4 2 (70 + 1)))) 5 2 (76 + 1))) 4 3 (85 + 1)))) 5 3 (91 + 1))) (st0 := [.ref 100, .int 4, .ref 4]) dX10_init_151 lk_X10_86 rfl (ck100 _ z66) rfl rfl (Nat.le_of_ble_eq_true rfl) (by decide) (by decide) rfl (by decide) (zk100 z66) rfl rfl (Nat.le_of_ble_eq_true rfl) (Nat.le_of_ble_eq_true rfl) ?_
  have z67 := zk100 z66
  refine V_aastT (j := 4) (cls := 3) (q := (RX3, TX3, 12)) dX10_init_154 rfl (by decide) ⟨by decide, by decide⟩ rfl (by decide) rfl rfl (by decide) (by decide) ?_
  have z68 := v_Zr_sr (c := 4) (j := 4) (x := 100 + 1) z67 (by decide) (Or.inl (by decide))
  refine V_aload_n (k := 1) dX10_init_155 rfl rfl ?_
  refine V_getr (k := 5) dX10_init_156 rfl (by decide) vf_X10_33 (by decide) rfl ?_
  refine V_iload_n (k := 0) dX10_init_159 rfl rfl ?_
  refine V_new (cls := 9) (C := RX9) (T := TX9) (ty0 := tyX9) dX10_init_160 (by decide) rfl rfl inG9 tyX9_ok dfX9 gw166 gw394 gw91 (Nat.le_of_ble_eq_true rfl) (Nat.le_of_ble_eq_true rfl) rfl rfl ?_
  have z69 := v_Zr_up z68
  refine V_dup dX10_init_163 rfl ?_
  refine V_new (cls := 3) (C := RX3) (T := TX3) (ty0 := tyX3) dX10_init_164 (by decide) rfl rfl inG3 tyX3_ok dfX3 gw164 gw332 gw90 (Nat.le_of_ble_eq_true rfl) (Nat.le_of_ble_eq_true rfl) rfl rfl ?_
  have z70 := v_Zr_up z69
  refine V_dup dX10_init_167 rfl ?_
  refine V_callIA (S' := sX3_init) (d' := 1) (mc' := 5) (ms' := 84) (kc' := 17) (ks' := 6030) (nf' := 113) (M1 := mk107 (v_sr (mk100 (v_sr (mk91 (mk92 (v_sr (mk85 (v_sr (mk76 (mk77 (v_sr (mk70 (v_sr (mk61 (mk62 (v_sr (mk55 (v_sr (mk46 (mk47 (v_sr (mk40 (v_sr (v_sr (mk36 (v_sr (mk34 (v_sr (mk32 (v_sr (mk28 (v_sr (mk24 (v_sr (mk15 (v_sr (mk6 (v_sr (v_sr (v_sr (mk3 (v_sr (mk1 (M)) 0 0 (1 + 1))) 0 1 (3 + 1)) 0 2 (4 + 1)) 0 3 (5 + 1))) 0 4 (6 + 1))) 0 5 (15 + 1))) 0 6 (24 + 1))) 0 7 (28 + 1))) 0 8 (32 + 1))) 0 9 (34 + 1))) 0 10 (36 + 1)) 0 11 (39 + 1))) 4 0 (40 + 1)))) 5 0 (46 + 1))) 4 1 (55 + 1)))) 5 1 (61 + 1))) 4 2 (70 + 1)))) 5 2 (76 + 1))) 4 3 (85 + 1)))) 5 3 (91 + 1))) 4 4 (100 + 1))) (st0 := [.ref 107, .ref 106, .ref 106, .int 4, .ref 5]) dX10_init_168 lk_X10_86 rfl (ck107 _ z70) rfl rfl (Nat.le_of_ble_eq_true rfl) (by decide) (by decide) rfl (by decide) (zk107 z70) rfl rfl (Nat.le_of_ble_eq_true rfl) (Nat.le_of_ble_eq_true rfl) ?_
  have z71 := zk107 z70
  refine V_callIA (S' := sX9_init) (d' := 1) (mc' := 2) (ms' := 2916) (kc' := 15) (ks' := 3114) (nf' := 115) (M1 := mk106 (mk107 (v_sr (mk100 (v_sr (mk91 (mk92 (v_sr (mk85 (v_sr (mk76 (mk77 (v_sr (mk70 (v_sr (mk61 (mk62 (v_sr (mk55 (v_sr (mk46 (mk47 (v_sr (mk40 (v_sr (v_sr (mk36 (v_sr (mk34 (v_sr (mk32 (v_sr (mk28 (v_sr (mk24 (v_sr (mk15 (v_sr (mk6 (v_sr (v_sr (v_sr (mk3 (v_sr (mk1 (M)) 0 0 (1 + 1))) 0 1 (3 + 1)) 0 2 (4 + 1)) 0 3 (5 + 1))) 0 4 (6 + 1))) 0 5 (15 + 1))) 0 6 (24 + 1))) 0 7 (28 + 1))) 0 8 (32 + 1))) 0 9 (34 + 1))) 0 10 (36 + 1)) 0 11 (39 + 1))) 4 0 (40 + 1)))) 5 0 (46 + 1))) 4 1 (55 + 1)))) 5 1 (61 + 1))) 4 2 (70 + 1)))) 5 2 (76 + 1))) 4 3 (85 + 1)))) 5 3 (91 + 1))) 4 4 (100 + 1)))) (st0 := [.ref 106, .int 4, .ref 5]) dX10_init_171 lk_X10_87 rfl (ck106 _ z71) rfl rfl (Nat.le_of_ble_eq_true rfl) (by decide) (by decide) rfl (by decide) (zk106 z71) rfl rfl (Nat.le_of_ble_eq_true rfl) (Nat.le_of_ble_eq_true rfl) ?_
  have z72 := zk106 z71
  refine V_aastT (j := 4) (cls := 9) (q := (RX9, TX9, 6)) dX10_init_174 rfl (by decide) ⟨by decide, by decide⟩ rfl (by decide) rfl rfl (by decide) (by decide) ?_
  have z73 := v_Zr_sr (c := 5) (j := 4) (x := 106 + 1) z72 (by decide) (Or.inl (by decide))
  refine V_iinc (k := 0) (v := 5) (lv' := [(1, .int 5), (0, .ref 0)]) dX10_init_175 rfl (by decide) (by decide) rfl ?_
  refine V_goto (tgt := 136) dX10_init_178 (by decide) ?_
  refine V_iload_n (k := 0) dX10_init_136 rfl rfl ?_
  refine V_bipush (v := 6) dX10_init_137 rfl ?_
  refine V_icmpgeF (tgt := 181) dX10_init_139 (by decide) (by decide) ?_
  refine V_aload_n (k := 1) dX10_init_142 rfl rfl ?_
  refine V_getr (k := 4) dX10_init_143 rfl (by decide) vf_X10_27 (by decide) rfl ?_
  refine V_iload_n (k := 0) dX10_init_146 rfl rfl ?_
  refine V_new (cls := 3) (C := RX3) (T := TX3) (ty0 := tyX3) dX10_init_147 (by decide) rfl rfl inG3 tyX3_ok dfX3 gw164 gw332 gw90 (Nat.le_of_ble_eq_true rfl) (Nat.le_of_ble_eq_true rfl) rfl rfl ?_
  have z74 := v_Zr_up z73
  refine V_dup dX10_init_150 rfl ?_
  refine V_callIA (S' := sX3_init) (d' := 1) (mc' := 5) (ms' := 84) (kc' := 9) (ks' := 3018) (nf' := 121) (M1 := mk115 (v_sr (mk106 (mk107 (v_sr (mk100 (v_sr (mk91 (mk92 (v_sr (mk85 (v_sr (mk76 (mk77 (v_sr (mk70 (v_sr (mk61 (mk62 (v_sr (mk55 (v_sr (mk46 (mk47 (v_sr (mk40 (v_sr (v_sr (mk36 (v_sr (mk34 (v_sr (mk32 (v_sr (mk28 (v_sr (mk24 (v_sr (mk15 (v_sr (mk6 (v_sr (v_sr (v_sr (mk3 (v_sr (mk1 (M)) 0 0 (1 + 1))) 0 1 (3 + 1)) 0 2 (4 + 1)) 0 3 (5 + 1))) 0 4 (6 + 1))) 0 5 (15 + 1))) 0 6 (24 + 1))) 0 7 (28 + 1))) 0 8 (32 + 1))) 0 9 (34 + 1))) 0 10 (36 + 1)) 0 11 (39 + 1))) 4 0 (40 + 1)))) 5 0 (46 + 1))) 4 1 (55 + 1)))) 5 1 (61 + 1))) 4 2 (70 + 1)))) 5 2 (76 + 1))) 4 3 (85 + 1)))) 5 3 (91 + 1))) 4 4 (100 + 1)))) 5 4 (106 + 1))) (st0 := [.ref 115, .int 5, .ref 4]) dX10_init_151 lk_X10_86 rfl (ck115 _ z74) rfl rfl (Nat.le_of_ble_eq_true rfl) (by decide) (by decide) rfl (by decide) (zk115 z74) rfl rfl (Nat.le_of_ble_eq_true rfl) (Nat.le_of_ble_eq_true rfl) ?_
  have z75 := zk115 z74
  refine V_aastT (j := 5) (cls := 3) (q := (RX3, TX3, 12)) dX10_init_154 rfl (by decide) ⟨by decide, by decide⟩ rfl (by decide) rfl rfl (by decide) (by decide) ?_
  have z76 := v_Zr_sr (c := 4) (j := 5) (x := 115 + 1) z75 (by decide) (Or.inl (by decide))
  refine V_aload_n (k := 1) dX10_init_155 rfl rfl ?_
  refine V_getr (k := 5) dX10_init_156 rfl (by decide) vf_X10_33 (by decide) rfl ?_
  refine V_iload_n (k := 0) dX10_init_159 rfl rfl ?_
  refine V_new (cls := 9) (C := RX9) (T := TX9) (ty0 := tyX9) dX10_init_160 (by decide) rfl rfl inG9 tyX9_ok dfX9 gw166 gw394 gw91 (Nat.le_of_ble_eq_true rfl) (Nat.le_of_ble_eq_true rfl) rfl rfl ?_
  have z77 := v_Zr_up z76
  refine V_dup dX10_init_163 rfl ?_
  refine V_new (cls := 3) (C := RX3) (T := TX3) (ty0 := tyX3) dX10_init_164 (by decide) rfl rfl inG3 tyX3_ok dfX3 gw164 gw332 gw90 (Nat.le_of_ble_eq_true rfl) (Nat.le_of_ble_eq_true rfl) rfl rfl ?_
  have z78 := v_Zr_up z77
  refine V_dup dX10_init_167 rfl ?_
  refine V_callIA (S' := sX3_init) (d' := 1) (mc' := 5) (ms' := 84) (kc' := 2) (ks' := 2916) (nf' := 128) (M1 := mk122 (v_sr (mk115 (v_sr (mk106 (mk107 (v_sr (mk100 (v_sr (mk91 (mk92 (v_sr (mk85 (v_sr (mk76 (mk77 (v_sr (mk70 (v_sr (mk61 (mk62 (v_sr (mk55 (v_sr (mk46 (mk47 (v_sr (mk40 (v_sr (v_sr (mk36 (v_sr (mk34 (v_sr (mk32 (v_sr (mk28 (v_sr (mk24 (v_sr (mk15 (v_sr (mk6 (v_sr (v_sr (v_sr (mk3 (v_sr (mk1 (M)) 0 0 (1 + 1))) 0 1 (3 + 1)) 0 2 (4 + 1)) 0 3 (5 + 1))) 0 4 (6 + 1))) 0 5 (15 + 1))) 0 6 (24 + 1))) 0 7 (28 + 1))) 0 8 (32 + 1))) 0 9 (34 + 1))) 0 10 (36 + 1)) 0 11 (39 + 1))) 4 0 (40 + 1)))) 5 0 (46 + 1))) 4 1 (55 + 1)))) 5 1 (61 + 1))) 4 2 (70 + 1)))) 5 2 (76 + 1))) 4 3 (85 + 1)))) 5 3 (91 + 1))) 4 4 (100 + 1)))) 5 4 (106 + 1))) 4 5 (115 + 1))) (st0 := [.ref 122, .ref 121, .ref 121, .int 5, .ref 5]) dX10_init_168 lk_X10_86 rfl (ck122 _ z78) rfl rfl (Nat.le_of_ble_eq_true rfl) (by decide) (by decide) rfl (by decide) (zk122 z78) rfl rfl (Nat.le_of_ble_eq_true rfl) (Nat.le_of_ble_eq_true rfl) ?_
  have z79 := zk122 z78
  refine V_callIA (S' := sX9_init) (d' := 1) (mc' := 2) (ms' := 2916) (kc' := 0) (ks' := 0) (nf' := 130) (M1 := mk121 (mk122 (v_sr (mk115 (v_sr (mk106 (mk107 (v_sr (mk100 (v_sr (mk91 (mk92 (v_sr (mk85 (v_sr (mk76 (mk77 (v_sr (mk70 (v_sr (mk61 (mk62 (v_sr (mk55 (v_sr (mk46 (mk47 (v_sr (mk40 (v_sr (v_sr (mk36 (v_sr (mk34 (v_sr (mk32 (v_sr (mk28 (v_sr (mk24 (v_sr (mk15 (v_sr (mk6 (v_sr (v_sr (v_sr (mk3 (v_sr (mk1 (M)) 0 0 (1 + 1))) 0 1 (3 + 1)) 0 2 (4 + 1)) 0 3 (5 + 1))) 0 4 (6 + 1))) 0 5 (15 + 1))) 0 6 (24 + 1))) 0 7 (28 + 1))) 0 8 (32 + 1))) 0 9 (34 + 1))) 0 10 (36 + 1)) 0 11 (39 + 1))) 4 0 (40 + 1)))) 5 0 (46 + 1))) 4 1 (55 + 1)))) 5 1 (61 + 1))) 4 2 (70 + 1)))) 5 2 (76 + 1))) 4 3 (85 + 1)))) 5 3 (91 + 1))) 4 4 (100 + 1)))) 5 4 (106 + 1))) 4 5 (115 + 1)))) (st0 := [.ref 121, .int 5, .ref 5]) dX10_init_171 lk_X10_87 rfl (ck121 _ z79) rfl rfl (Nat.le_of_ble_eq_true rfl) (by decide) (by decide) rfl (by decide) (zk121 z79) rfl rfl (Nat.le_of_ble_eq_true rfl) (Nat.le_of_ble_eq_true rfl) ?_
  have z80 := zk121 z79
  refine V_aastT (j := 5) (cls := 9) (q := (RX9, TX9, 6)) dX10_init_174 rfl (by decide) ⟨by decide, by decide⟩ rfl (by decide) rfl rfl (by decide) (by decide) ?_
  have z81 := v_Zr_sr (c := 5) (j := 5) (x := 121 + 1) z80 (by decide) (Or.inl (by decide))
  refine V_iinc (k := 0) (v := 6) (lv' := [(1, .int 6), (0, .ref 0)]) dX10_init_175 rfl (by decide) (by decide) rfl ?_
  refine V_goto (tgt := 136) dX10_init_178 (by decide) ?_
  refine V_iload_n (k := 0) dX10_init_136 rfl rfl ?_
  refine V_bipush (v := 6) dX10_init_137 rfl ?_
  refine V_icmpgeT (tgt := 181) dX10_init_139 (by decide) (by decide) ?_
  refine V_aload_n (k := 1) dX10_init_181 rfl rfl ?_
  refine V_iconst (v := (-1)) dX10_init_182 rfl ?_
  refine V_puti dX10_init_183 rfl (by decide) vf_X10_90 (by decide) rfl rfl ?_
  have z82 := v_Zr_si (c := 0) (j := 13) (x := (-1)) z81 (by decide)
  exact V_ret (fun h => by cases h) (Or.inl ⟨rfl, rfl⟩) dX10_init_186 (fun ty x h1 h2 => by cases h1) rfl
theorem cM_loop {l : Launch} {D : va_G} {dA : Nat → ClassId} {n kc ks : Nat} {M : vM} (hc : 155 < n) (hr : M.2.2 130 28 = 155 + 1) (hn : 130 < n) : ∀ (q k : Nat), k + q = 100 → V l D dA sX11_init true n 1 kc ks 386 [(1, .int (nI k)), (0, .ref 130)] [] n (v_fl M 155 k 1) (rV (v_fl M 155 100 1)) := by
  intro q
  induction q with
  | zero =>
    intro k hk
    have e : k = 100 := by omega
    subst e
    refine V_iload_n (k := 0) dX11_init_386 rfl rfl ?_
    refine V_bipush (v := 100) dX11_init_387 rfl ?_
    refine V_icmpgeT (tgt := 405) dX11_init_389 (by decide) (by decide) ?_
    exact V_ret (fun h => by cases h) (Or.inl ⟨rfl, rfl⟩) dX11_init_405 (fun ty x h1 h2 => by cases h1) rfl
  | succ q ih =>
    intro k hk
    have hnl : ¬ (100 : Int32) ≤ nI k := by
      intro h
      have h2 : nI 100 ≤ nI k := h
      have := (nI_leI (by decide) (by omega)).mp h2
      omega
    refine V_iload_n (k := 0) dX11_init_386 rfl rfl ?_
    refine V_bipush (v := 100) dX11_init_387 rfl ?_
    refine V_icmpgeF (tgt := 405) dX11_init_389 (by decide) hnl ?_
    refine V_aload_n (k := 1) dX11_init_392 rfl rfl ?_
    refine V_getr (k := 155) dX11_init_393 rfl hn vf_X11_92 (by decide) hr ?_
    refine V_iload_n (k := 0) dX11_init_396 rfl rfl ?_
    refine V_iconst (v := 1) dX11_init_397 rfl ?_
    refine V_iastT (j := k) dX11_init_398 rfl hc (v_in_nI (by omega) (by decide)) (nI_clamp (by omega)) ?_
    refine V_iinc (k := 0) (v := nI (k + 1)) (lv' := [(1, .int (nI (k + 1))), (0, .ref 130)]) dX11_init_399 rfl (nI_1 k) (by decide) rfl ?_
    refine V_goto (tgt := 386) dX11_init_402 (by decide) ?_
    rw [v_fl_s]
    exact ih (k + 1) (by omega)
def mk130 (M : vM) : vM := v_fl (v_sr (v_sr (v_sr (v_sr (v_sr (v_sr (v_sr (v_sr (v_sr (v_sr (v_sr (v_sr (v_sr (v_sr (v_sr (v_sr (v_si (v_sr (v_sr (v_sr (v_sr (v_sr (v_sr (v_sr (v_sr (v_sr (v_sr (v_sr (v_sr (v_sr (v_sr (v_sr (v_sr (v_sr (v_sr (v_sr (v_sr (v_sr (v_sr (v_sr (v_sr (v_sr (v_sr (v_sr (v_sr (v_sr (v_sr (M) 131 0 (1000 + 0 + 1)) 131 1 (1000 + 1 + 1)) 131 2 (1000 + 2 + 1)) 130 0 (131 + 1)) 130 4 (132 + 1)) 130 5 (133 + 1)) 130 6 (134 + 1)) 130 7 (135 + 1)) 130 8 (136 + 1)) 130 9 (137 + 1)) 130 10 (138 + 1)) 130 11 (139 + 1)) 130 12 (140 + 1)) 130 13 (141 + 1)) 130 14 (142 + 1)) 130 15 (143 + 1)) 130 16 (144 + 1)) 130 17 (145 + 1)) 130 18 (146 + 1)) 130 19 (147 + 1)) 130 20 (148 + 1)) 130 22 (149 + 1)) 130 23 (150 + 1)) 130 24 (151 + 1)) 130 25 (152 + 1)) 130 26 (153 + 1)) 130 27 (154 + 1)) 130 28 (155 + 1)) 130 29 (156 + 1)) 130 30 (157 + 1)) 130 40 (-1)) 130 41 (158 + 1)) 130 42 (159 + 1)) 130 43 (160 + 1)) 130 45 (161 + 1)) 130 46 (162 + 1)) 130 47 (163 + 1)) 130 48 (164 + 1)) 130 49 (165 + 1)) 130 53 (166 + 1)) 130 54 (167 + 1)) 130 55 (168 + 1)) 130 56 (169 + 1)) 130 57 (170 + 1)) 130 58 (171 + 1)) 130 59 (172 + 1)) 130 60 (173 + 1)) 155 100 1
theorem zk130 {M : vM} (z0 : v_Zr 131 M) : v_Zr 174 (mk130 M) := by
  have z1 := v_Zr_up z0
  have z2 := v_Zr_sr (c := 131) (j := 0) (x := 1000 + 0 + 1) z1 (by decide) (Or.inr (by decide))
  have z3 := v_Zr_sr (c := 131) (j := 1) (x := 1000 + 1 + 1) z2 (by decide) (Or.inr (by decide))
  have z4 := v_Zr_sr (c := 131) (j := 2) (x := 1000 + 2 + 1) z3 (by decide) (Or.inr (by decide))
  have z5 := v_Zr_sr (c := 130) (j := 0) (x := 131 + 1) z4 (by decide) (Or.inl (by decide))
  have z6 := v_Zr_up z5
  have z7 := v_Zr_sr (c := 130) (j := 4) (x := 132 + 1) z6 (by decide) (Or.inl (by decide))
  have z8 := v_Zr_up z7
  have z9 := v_Zr_sr (c := 130) (j := 5) (x := 133 + 1) z8 (by decide) (Or.inl (by decide))
  have z10 := v_Zr_up z9
  have z11 := v_Zr_sr (c := 130) (j := 6) (x := 134 + 1) z10 (by decide) (Or.inl (by decide))
  have z12 := v_Zr_up z11
  have z13 := v_Zr_sr (c := 130) (j := 7) (x := 135 + 1) z12 (by decide) (Or.inl (by decide))
  have z14 := v_Zr_up z13
  have z15 := v_Zr_sr (c := 130) (j := 8) (x := 136 + 1) z14 (by decide) (Or.inl (by decide))
  have z16 := v_Zr_up z15
  have z17 := v_Zr_sr (c := 130) (j := 9) (x := 137 + 1) z16 (by decide) (Or.inl (by decide))
  have z18 := v_Zr_up z17
  have z19 := v_Zr_sr (c := 130) (j := 10) (x := 138 + 1) z18 (by decide) (Or.inl (by decide))
  have z20 := v_Zr_up z19
  have z21 := v_Zr_sr (c := 130) (j := 11) (x := 139 + 1) z20 (by decide) (Or.inl (by decide))
  have z22 := v_Zr_up z21
  have z23 := v_Zr_sr (c := 130) (j := 12) (x := 140 + 1) z22 (by decide) (Or.inl (by decide))
  have z24 := v_Zr_up z23
  have z25 := v_Zr_sr (c := 130) (j := 13) (x := 141 + 1) z24 (by decide) (Or.inl (by decide))
  have z26 := v_Zr_up z25
  have z27 := v_Zr_sr (c := 130) (j := 14) (x := 142 + 1) z26 (by decide) (Or.inl (by decide))
  have z28 := v_Zr_up z27
  have z29 := v_Zr_sr (c := 130) (j := 15) (x := 143 + 1) z28 (by decide) (Or.inl (by decide))
  have z30 := v_Zr_up z29
  have z31 := v_Zr_sr (c := 130) (j := 16) (x := 144 + 1) z30 (by decide) (Or.inl (by decide))
  have z32 := v_Zr_up z31
  have z33 := v_Zr_sr (c := 130) (j := 17) (x := 145 + 1) z32 (by decide) (Or.inl (by decide))
  have z34 := v_Zr_up z33
  have z35 := v_Zr_sr (c := 130) (j := 18) (x := 146 + 1) z34 (by decide) (Or.inl (by decide))
  have z36 := v_Zr_up z35
  have z37 := v_Zr_sr (c := 130) (j := 19) (x := 147 + 1) z36 (by decide) (Or.inl (by decide))
  have z38 := v_Zr_up z37
  have z39 := v_Zr_sr (c := 130) (j := 20) (x := 148 + 1) z38 (by decide) (Or.inl (by decide))
  have z40 := v_Zr_up z39
  have z41 := v_Zr_sr (c := 130) (j := 22) (x := 149 + 1) z40 (by decide) (Or.inl (by decide))
  have z42 := v_Zr_up z41
  have z43 := v_Zr_sr (c := 130) (j := 23) (x := 150 + 1) z42 (by decide) (Or.inl (by decide))
  have z44 := v_Zr_up z43
  have z45 := v_Zr_sr (c := 130) (j := 24) (x := 151 + 1) z44 (by decide) (Or.inl (by decide))
  have z46 := v_Zr_up z45
  have z47 := v_Zr_sr (c := 130) (j := 25) (x := 152 + 1) z46 (by decide) (Or.inl (by decide))
  have z48 := v_Zr_up z47
  have z49 := v_Zr_sr (c := 130) (j := 26) (x := 153 + 1) z48 (by decide) (Or.inl (by decide))
  have z50 := v_Zr_up z49
  have z51 := v_Zr_sr (c := 130) (j := 27) (x := 154 + 1) z50 (by decide) (Or.inl (by decide))
  have z52 := v_Zr_up z51
  have z53 := v_Zr_sr (c := 130) (j := 28) (x := 155 + 1) z52 (by decide) (Or.inl (by decide))
  have z54 := v_Zr_up z53
  have z55 := v_Zr_sr (c := 130) (j := 29) (x := 156 + 1) z54 (by decide) (Or.inl (by decide))
  have z56 := v_Zr_up z55
  have z57 := v_Zr_sr (c := 130) (j := 30) (x := 157 + 1) z56 (by decide) (Or.inl (by decide))
  have z58 := v_Zr_si (c := 130) (j := 40) (x := (-1)) z57 (by decide)
  have z59 := v_Zr_up z58
  have z60 := v_Zr_sr (c := 130) (j := 41) (x := 158 + 1) z59 (by decide) (Or.inl (by decide))
  have z61 := v_Zr_up z60
  have z62 := v_Zr_sr (c := 130) (j := 42) (x := 159 + 1) z61 (by decide) (Or.inl (by decide))
  have z63 := v_Zr_up z62
  have z64 := v_Zr_sr (c := 130) (j := 43) (x := 160 + 1) z63 (by decide) (Or.inl (by decide))
  have z65 := v_Zr_up z64
  have z66 := v_Zr_sr (c := 130) (j := 45) (x := 161 + 1) z65 (by decide) (Or.inl (by decide))
  have z67 := v_Zr_up z66
  have z68 := v_Zr_sr (c := 130) (j := 46) (x := 162 + 1) z67 (by decide) (Or.inl (by decide))
  have z69 := v_Zr_up z68
  have z70 := v_Zr_sr (c := 130) (j := 47) (x := 163 + 1) z69 (by decide) (Or.inl (by decide))
  have z71 := v_Zr_up z70
  have z72 := v_Zr_sr (c := 130) (j := 48) (x := 164 + 1) z71 (by decide) (Or.inl (by decide))
  have z73 := v_Zr_up z72
  have z74 := v_Zr_sr (c := 130) (j := 49) (x := 165 + 1) z73 (by decide) (Or.inl (by decide))
  have z75 := v_Zr_up z74
  have z76 := v_Zr_sr (c := 130) (j := 53) (x := 166 + 1) z75 (by decide) (Or.inl (by decide))
  have z77 := v_Zr_up z76
  have z78 := v_Zr_sr (c := 130) (j := 54) (x := 167 + 1) z77 (by decide) (Or.inl (by decide))
  have z79 := v_Zr_up z78
  have z80 := v_Zr_sr (c := 130) (j := 55) (x := 168 + 1) z79 (by decide) (Or.inl (by decide))
  have z81 := v_Zr_up z80
  have z82 := v_Zr_sr (c := 130) (j := 56) (x := 169 + 1) z81 (by decide) (Or.inl (by decide))
  have z83 := v_Zr_up z82
  have z84 := v_Zr_sr (c := 130) (j := 57) (x := 170 + 1) z83 (by decide) (Or.inl (by decide))
  have z85 := v_Zr_up z84
  have z86 := v_Zr_sr (c := 130) (j := 58) (x := 171 + 1) z85 (by decide) (Or.inl (by decide))
  have z87 := v_Zr_up z86
  have z88 := v_Zr_sr (c := 130) (j := 59) (x := 172 + 1) z87 (by decide) (Or.inl (by decide))
  have z89 := v_Zr_up z88
  have z90 := v_Zr_sr (c := 130) (j := 60) (x := 173 + 1) z89 (by decide) (Or.inl (by decide))
  have z91 := v_Zr_fl (c := 155) (k := 100) (x := 1) z90 (by decide)
  exact z91
set_option maxRecDepth 20000 in
set_option maxHeartbeats 4000000 in
theorem ck130 {l : Launch} {D : va_G} {dA : Nat → ClassId} (M : vM) (z0 : v_Zr 131 M) : Ct l D dA sX11_init true 174 1 43 45373 131 [.ref 130] M (rV (mk130 M)) := by
  refine Ct_of (lv := [(0, .ref 130)]) (by decide +kernel) rfl (Nat.le_of_ble_eq_true rfl) rfl (fun _ => z0) ?_
  refine V_aload_n (k := 0) dX11_init_0 rfl rfl ?_
  refine V_objInit dX11_init_1 gw1240 gw111 gw112 (Nat.le_of_ble_eq_true rfl) (by decide) ?_
  refine V_aload_n (k := 0) dX11_init_4 rfl rfl ?_
  refine V_iconst (v := 3) dX11_init_5 rfl ?_
  refine V_anew (t := 6) (len := 3) dX11_init_6 (by decide) rfl ⟨by decide, by decide⟩ rfl (by decide) (Nat.le_of_ble_eq_true rfl) gw1241 (fun h => h.2.2.2.2.2.2.2.2.2.1) (Nat.le_of_ble_eq_true rfl) (Nat.le_of_ble_eq_true rfl) rfl rfl ?_
  have z1 := v_Zr_up z0
  refine V_dup dX11_init_9 rfl ?_
  refine V_iconst (v := 0) dX11_init_10 rfl ?_
  refine V_ldcS (sid := 0) (tx := "net") dX11_init_11 (by decide +kernel) ?_
  refine V_aastS (j := 0) (len := 3) dX11_init_13 rfl (by decide) (by decide) (by decide) (by decide) ?_
  have z2 := v_Zr_sr (c := 131) (j := 0) (x := 1000 + 0 + 1) z1 (by decide) (Or.inr (by decide))
  refine V_dup dX11_init_14 rfl ?_
  refine V_iconst (v := 1) dX11_init_15 rfl ?_
  refine V_ldcS (sid := 1) (tx := "set") dX11_init_16 (by decide +kernel) ?_
  refine V_aastS (j := 1) (len := 3) dX11_init_18 rfl (by decide) (by decide) (by decide) (by decide) ?_
  have z3 := v_Zr_sr (c := 131) (j := 1) (x := 1000 + 1 + 1) z2 (by decide) (Or.inr (by decide))
  refine V_dup dX11_init_19 rfl ?_
  refine V_iconst (v := 2) dX11_init_20 rfl ?_
  refine V_ldcS (sid := 2) (tx := "order") dX11_init_21 (by decide +kernel) ?_
  refine V_aastS (j := 2) (len := 3) dX11_init_23 rfl (by decide) (by decide) (by decide) (by decide) ?_
  have z4 := v_Zr_sr (c := 131) (j := 2) (x := 1000 + 2 + 1) z3 (by decide) (Or.inr (by decide))
  refine V_putr (k := 131) dX11_init_24 rfl (by decide) vf_X11_15 (by decide) (fun _ => ⟨rfl, rfl, rfl⟩) (fun a => ⟨rfl, rfl⟩) (Or.inl (by decide)) ?_
  have z5 := v_Zr_sr (c := 130) (j := 0) (x := 131 + 1) z4 (by decide) (Or.inl (by decide))
  refine V_aload_n (k := 0) dX11_init_27 rfl rfl ?_
  refine V_bipush (v := 12) dX11_init_28 rfl ?_
  refine V_newa (t := 0) (len := 12) dX11_init_30 (by decide) rfl (by decide) rfl (by decide) (Nat.le_of_ble_eq_true rfl) gw206 (Nat.le_of_ble_eq_true rfl) (Nat.le_of_ble_eq_true rfl) rfl rfl ?_
  have z6 := v_Zr_up z5
  refine V_putr (k := 132) dX11_init_32 rfl (by decide) vf_X11_21 (by decide) (fun _ => ⟨rfl, rfl, rfl⟩) (fun a => ⟨rfl, rfl⟩) (Or.inl (by decide)) ?_
  have z7 := v_Zr_sr (c := 130) (j := 4) (x := 132 + 1) z6 (by decide) (Or.inl (by decide))
  refine V_aload_n (k := 0) dX11_init_35 rfl rfl ?_
  refine V_bipush (v := 12) dX11_init_36 rfl ?_
  refine V_newa (t := 0) (len := 12) dX11_init_38 (by decide) rfl (by decide) rfl (by decide) (Nat.le_of_ble_eq_true rfl) gw206 (Nat.le_of_ble_eq_true rfl) (Nat.le_of_ble_eq_true rfl) rfl rfl ?_
  have z8 := v_Zr_up z7
  refine V_putr (k := 133) dX11_init_40 rfl (by decide) vf_X11_25 (by decide) (fun _ => ⟨rfl, rfl, rfl⟩) (fun a => ⟨rfl, rfl⟩) (Or.inl (by decide)) ?_
  have z9 := v_Zr_sr (c := 130) (j := 5) (x := 133 + 1) z8 (by decide) (Or.inl (by decide))
  refine V_aload_n (k := 0) dX11_init_43 rfl rfl ?_
  refine V_bipush (v := 12) dX11_init_44 rfl ?_
  refine V_newa (t := 0) (len := 12) dX11_init_46 (by decide) rfl (by decide) rfl (by decide) (Nat.le_of_ble_eq_true rfl) gw206 (Nat.le_of_ble_eq_true rfl) (Nat.le_of_ble_eq_true rfl) rfl rfl ?_
  have z10 := v_Zr_up z9
  refine V_putr (k := 134) dX11_init_48 rfl (by decide) vf_X11_28 (by decide) (fun _ => ⟨rfl, rfl, rfl⟩) (fun a => ⟨rfl, rfl⟩) (Or.inl (by decide)) ?_
  have z11 := v_Zr_sr (c := 130) (j := 6) (x := 134 + 1) z10 (by decide) (Or.inl (by decide))
  refine V_aload_n (k := 0) dX11_init_51 rfl rfl ?_
  refine V_bipush (v := 12) dX11_init_52 rfl ?_
  refine V_newa (t := 0) (len := 12) dX11_init_54 (by decide) rfl (by decide) rfl (by decide) (Nat.le_of_ble_eq_true rfl) gw206 (Nat.le_of_ble_eq_true rfl) (Nat.le_of_ble_eq_true rfl) rfl rfl ?_
  have z12 := v_Zr_up z11
  refine V_putr (k := 135) dX11_init_56 rfl (by decide) vf_X11_31 (by decide) (fun _ => ⟨rfl, rfl, rfl⟩) (fun a => ⟨rfl, rfl⟩) (Or.inl (by decide)) ?_
  have z13 := v_Zr_sr (c := 130) (j := 7) (x := 135 + 1) z12 (by decide) (Or.inl (by decide))
  refine V_aload_n (k := 0) dX11_init_59 rfl rfl ?_
  refine V_bipush (v := 12) dX11_init_60 rfl ?_
  refine V_newa (t := 0) (len := 12) dX11_init_62 (by decide) rfl (by decide) rfl (by decide) (Nat.le_of_ble_eq_true rfl) gw206 (Nat.le_of_ble_eq_true rfl) (Nat.le_of_ble_eq_true rfl) rfl rfl ?_
  have z14 := v_Zr_up z13
  refine V_putr (k := 136) dX11_init_64 rfl (by decide) vf_X11_34 (by decide) (fun _ => ⟨rfl, rfl, rfl⟩) (fun a => ⟨rfl, rfl⟩) (Or.inl (by decide)) ?_
  have z15 := v_Zr_sr (c := 130) (j := 8) (x := 136 + 1) z14 (by decide) (Or.inl (by decide))
  refine V_aload_n (k := 0) dX11_init_67 rfl rfl ?_
  refine V_bipush (v := 12) dX11_init_68 rfl ?_
  refine V_newa (t := 0) (len := 12) dX11_init_70 (by decide) rfl (by decide) rfl (by decide) (Nat.le_of_ble_eq_true rfl) gw206 (Nat.le_of_ble_eq_true rfl) (Nat.le_of_ble_eq_true rfl) rfl rfl ?_
  have z16 := v_Zr_up z15
  refine V_putr (k := 137) dX11_init_72 rfl (by decide) vf_X11_37 (by decide) (fun _ => ⟨rfl, rfl, rfl⟩) (fun a => ⟨rfl, rfl⟩) (Or.inl (by decide)) ?_
  have z17 := v_Zr_sr (c := 130) (j := 9) (x := 137 + 1) z16 (by decide) (Or.inl (by decide))
  refine V_aload_n (k := 0) dX11_init_75 rfl rfl ?_
  refine V_bipush (v := 12) dX11_init_76 rfl ?_
  refine V_newa (t := 0) (len := 12) dX11_init_78 (by decide) rfl (by decide) rfl (by decide) (Nat.le_of_ble_eq_true rfl) gw206 (Nat.le_of_ble_eq_true rfl) (Nat.le_of_ble_eq_true rfl) rfl rfl ?_
  have z18 := v_Zr_up z17
  refine V_putr (k := 138) dX11_init_80 rfl (by decide) vf_X11_40 (by decide) (fun _ => ⟨rfl, rfl, rfl⟩) (fun a => ⟨rfl, rfl⟩) (Or.inl (by decide)) ?_
  have z19 := v_Zr_sr (c := 130) (j := 10) (x := 138 + 1) z18 (by decide) (Or.inl (by decide))
  refine V_aload_n (k := 0) dX11_init_83 rfl rfl ?_
  refine V_sipush (v := 240) dX11_init_84 rfl ?_
  refine V_newa (t := 0) (len := 240) dX11_init_87 (by decide) rfl (by decide) rfl (by decide) (Nat.le_of_ble_eq_true rfl) gw206 (Nat.le_of_ble_eq_true rfl) (Nat.le_of_ble_eq_true rfl) rfl rfl ?_
  have z20 := v_Zr_up z19
  refine V_putr (k := 139) dX11_init_89 rfl (by decide) vf_X11_43 (by decide) (fun _ => ⟨rfl, rfl, rfl⟩) (fun a => ⟨rfl, rfl⟩) (Or.inl (by decide)) ?_
  have z21 := v_Zr_sr (c := 130) (j := 11) (x := 139 + 1) z20 (by decide) (Or.inl (by decide))
  refine V_aload_n (k := 0) dX11_init_92 rfl rfl ?_
  refine V_sipush (v := 240) dX11_init_93 rfl ?_
  refine V_newa (t := 0) (len := 240) dX11_init_96 (by decide) rfl (by decide) rfl (by decide) (Nat.le_of_ble_eq_true rfl) gw206 (Nat.le_of_ble_eq_true rfl) (Nat.le_of_ble_eq_true rfl) rfl rfl ?_
  have z22 := v_Zr_up z21
  refine V_putr (k := 140) dX11_init_98 rfl (by decide) vf_X11_46 (by decide) (fun _ => ⟨rfl, rfl, rfl⟩) (fun a => ⟨rfl, rfl⟩) (Or.inl (by decide)) ?_
  have z23 := v_Zr_sr (c := 130) (j := 12) (x := 140 + 1) z22 (by decide) (Or.inl (by decide))
  refine V_aload_n (k := 0) dX11_init_101 rfl rfl ?_
  refine V_sipush (v := 240) dX11_init_102 rfl ?_
  refine V_newa (t := 0) (len := 240) dX11_init_105 (by decide) rfl (by decide) rfl (by decide) (Nat.le_of_ble_eq_true rfl) gw206 (Nat.le_of_ble_eq_true rfl) (Nat.le_of_ble_eq_true rfl) rfl rfl ?_
  have z24 := v_Zr_up z23
  refine V_putr (k := 141) dX11_init_107 rfl (by decide) vf_X11_49 (by decide) (fun _ => ⟨rfl, rfl, rfl⟩) (fun a => ⟨rfl, rfl⟩) (Or.inl (by decide)) ?_
  have z25 := v_Zr_sr (c := 130) (j := 13) (x := 141 + 1) z24 (by decide) (Or.inl (by decide))
  refine V_aload_n (k := 0) dX11_init_110 rfl rfl ?_
  refine V_sipush (v := 144) dX11_init_111 rfl ?_
  refine V_newa (t := 0) (len := 144) dX11_init_114 (by decide) rfl (by decide) rfl (by decide) (Nat.le_of_ble_eq_true rfl) gw206 (Nat.le_of_ble_eq_true rfl) (Nat.le_of_ble_eq_true rfl) rfl rfl ?_
  have z26 := v_Zr_up z25
  refine V_putr (k := 142) dX11_init_116 rfl (by decide) vf_X11_52 (by decide) (fun _ => ⟨rfl, rfl, rfl⟩) (fun a => ⟨rfl, rfl⟩) (Or.inl (by decide)) ?_
  have z27 := v_Zr_sr (c := 130) (j := 14) (x := 142 + 1) z26 (by decide) (Or.inl (by decide))
  refine V_aload_n (k := 0) dX11_init_119 rfl rfl ?_
  refine V_sipush (v := 144) dX11_init_120 rfl ?_
  refine V_newa (t := 0) (len := 144) dX11_init_123 (by decide) rfl (by decide) rfl (by decide) (Nat.le_of_ble_eq_true rfl) gw206 (Nat.le_of_ble_eq_true rfl) (Nat.le_of_ble_eq_true rfl) rfl rfl ?_
  have z28 := v_Zr_up z27
  refine V_putr (k := 143) dX11_init_125 rfl (by decide) vf_X11_55 (by decide) (fun _ => ⟨rfl, rfl, rfl⟩) (fun a => ⟨rfl, rfl⟩) (Or.inl (by decide)) ?_
  have z29 := v_Zr_sr (c := 130) (j := 15) (x := 143 + 1) z28 (by decide) (Or.inl (by decide))
  refine V_aload_n (k := 0) dX11_init_128 rfl rfl ?_
  refine V_sipush (v := 144) dX11_init_129 rfl ?_
  refine V_newa (t := 0) (len := 144) dX11_init_132 (by decide) rfl (by decide) rfl (by decide) (Nat.le_of_ble_eq_true rfl) gw206 (Nat.le_of_ble_eq_true rfl) (Nat.le_of_ble_eq_true rfl) rfl rfl ?_
  have z30 := v_Zr_up z29
  refine V_putr (k := 144) dX11_init_134 rfl (by decide) vf_X11_58 (by decide) (fun _ => ⟨rfl, rfl, rfl⟩) (fun a => ⟨rfl, rfl⟩) (Or.inl (by decide)) ?_
  have z31 := v_Zr_sr (c := 130) (j := 16) (x := 144 + 1) z30 (by decide) (Or.inl (by decide))
  refine V_aload_n (k := 0) dX11_init_137 rfl rfl ?_
  refine V_bipush (v := 6) dX11_init_138 rfl ?_
  refine V_newa (t := 0) (len := 6) dX11_init_140 (by decide) rfl (by decide) rfl (by decide) (Nat.le_of_ble_eq_true rfl) gw206 (Nat.le_of_ble_eq_true rfl) (Nat.le_of_ble_eq_true rfl) rfl rfl ?_
  have z32 := v_Zr_up z31
  refine V_putr (k := 145) dX11_init_142 rfl (by decide) vf_X11_61 (by decide) (fun _ => ⟨rfl, rfl, rfl⟩) (fun a => ⟨rfl, rfl⟩) (Or.inl (by decide)) ?_
  have z33 := v_Zr_sr (c := 130) (j := 17) (x := 145 + 1) z32 (by decide) (Or.inl (by decide))
  refine V_aload_n (k := 0) dX11_init_145 rfl rfl ?_
  refine V_sipush (v := 12000) dX11_init_146 rfl ?_
  refine V_newa (t := 0) (len := 12000) dX11_init_149 (by decide) rfl (by decide) rfl (by decide) (Nat.le_of_ble_eq_true rfl) gw206 (Nat.le_of_ble_eq_true rfl) (Nat.le_of_ble_eq_true rfl) rfl rfl ?_
  have z34 := v_Zr_up z33
  refine V_putr (k := 146) dX11_init_151 rfl (by decide) vf_X11_64 (by decide) (fun _ => ⟨rfl, rfl, rfl⟩) (fun a => ⟨rfl, rfl⟩) (Or.inl (by decide)) ?_
  have z35 := v_Zr_sr (c := 130) (j := 18) (x := 146 + 1) z34 (by decide) (Or.inl (by decide))
  refine V_aload_n (k := 0) dX11_init_154 rfl rfl ?_
  refine V_sipush (v := 12000) dX11_init_155 rfl ?_
  refine V_newa (t := 0) (len := 12000) dX11_init_158 (by decide) rfl (by decide) rfl (by decide) (Nat.le_of_ble_eq_true rfl) gw206 (Nat.le_of_ble_eq_true rfl) (Nat.le_of_ble_eq_true rfl) rfl rfl ?_
  have z36 := v_Zr_up z35
  refine V_putr (k := 147) dX11_init_160 rfl (by decide) vf_X11_67 (by decide) (fun _ => ⟨rfl, rfl, rfl⟩) (fun a => ⟨rfl, rfl⟩) (Or.inl (by decide)) ?_
  have z37 := v_Zr_sr (c := 130) (j := 19) (x := 147 + 1) z36 (by decide) (Or.inl (by decide))
  refine V_aload_n (k := 0) dX11_init_163 rfl rfl ?_
  refine V_sipush (v := 12000) dX11_init_164 rfl ?_
  refine V_newa (t := 3) (len := 12000) dX11_init_167 (by decide) rfl (by decide) rfl (by decide) (Nat.le_of_ble_eq_true rfl) gw235 (Nat.le_of_ble_eq_true rfl) (Nat.le_of_ble_eq_true rfl) rfl rfl ?_
  have z38 := v_Zr_up z37
  refine V_putr (k := 148) dX11_init_169 rfl (by decide) vf_X11_70 (by decide) (fun _ => ⟨rfl, rfl, rfl⟩) (fun a => ⟨rfl, rfl⟩) (Or.inl (by decide)) ?_
  have z39 := v_Zr_sr (c := 130) (j := 20) (x := 148 + 1) z38 (by decide) (Or.inl (by decide))
  refine V_aload_n (k := 0) dX11_init_172 rfl rfl ?_
  refine V_sipush (v := 400) dX11_init_173 rfl ?_
  refine V_newa (t := 0) (len := 400) dX11_init_176 (by decide) rfl (by decide) rfl (by decide) (Nat.le_of_ble_eq_true rfl) gw206 (Nat.le_of_ble_eq_true rfl) (Nat.le_of_ble_eq_true rfl) rfl rfl ?_
  have z40 := v_Zr_up z39
  refine V_putr (k := 149) dX11_init_178 rfl (by decide) vf_X11_74 (by decide) (fun _ => ⟨rfl, rfl, rfl⟩) (fun a => ⟨rfl, rfl⟩) (Or.inl (by decide)) ?_
  have z41 := v_Zr_sr (c := 130) (j := 22) (x := 149 + 1) z40 (by decide) (Or.inl (by decide))
  refine V_aload_n (k := 0) dX11_init_181 rfl rfl ?_
  refine V_sipush (v := 400) dX11_init_182 rfl ?_
  refine V_newa (t := 0) (len := 400) dX11_init_185 (by decide) rfl (by decide) rfl (by decide) (Nat.le_of_ble_eq_true rfl) gw206 (Nat.le_of_ble_eq_true rfl) (Nat.le_of_ble_eq_true rfl) rfl rfl ?_
  have z42 := v_Zr_up z41
  refine V_putr (k := 150) dX11_init_187 rfl (by decide) vf_X11_77 (by decide) (fun _ => ⟨rfl, rfl, rfl⟩) (fun a => ⟨rfl, rfl⟩) (Or.inl (by decide)) ?_
  have z43 := v_Zr_sr (c := 130) (j := 23) (x := 150 + 1) z42 (by decide) (Or.inl (by decide))
  refine V_aload_n (k := 0) dX11_init_190 rfl rfl ?_
  refine V_bipush (v := 6) dX11_init_191 rfl ?_
  refine V_newa (t := 0) (len := 6) dX11_init_193 (by decide) rfl (by decide) rfl (by decide) (Nat.le_of_ble_eq_true rfl) gw206 (Nat.le_of_ble_eq_true rfl) (Nat.le_of_ble_eq_true rfl) rfl rfl ?_
  have z44 := v_Zr_up z43
  refine V_putr (k := 151) dX11_init_195 rfl (by decide) vf_X11_80 (by decide) (fun _ => ⟨rfl, rfl, rfl⟩) (fun a => ⟨rfl, rfl⟩) (Or.inl (by decide)) ?_
  have z45 := v_Zr_sr (c := 130) (j := 24) (x := 151 + 1) z44 (by decide) (Or.inl (by decide))
  refine V_aload_n (k := 0) dX11_init_198 rfl rfl ?_
  refine V_sipush (v := 600) dX11_init_199 rfl ?_
  refine V_newa (t := 0) (len := 600) dX11_init_202 (by decide) rfl (by decide) rfl (by decide) (Nat.le_of_ble_eq_true rfl) gw206 (Nat.le_of_ble_eq_true rfl) (Nat.le_of_ble_eq_true rfl) rfl rfl ?_
  have z46 := v_Zr_up z45
  refine V_putr (k := 152) dX11_init_204 rfl (by decide) vf_X11_83 (by decide) (fun _ => ⟨rfl, rfl, rfl⟩) (fun a => ⟨rfl, rfl⟩) (Or.inl (by decide)) ?_
  have z47 := v_Zr_sr (c := 130) (j := 25) (x := 152 + 1) z46 (by decide) (Or.inl (by decide))
  refine V_aload_n (k := 0) dX11_init_207 rfl rfl ?_
  refine V_bipush (v := 6) dX11_init_208 rfl ?_
  refine V_newa (t := 0) (len := 6) dX11_init_210 (by decide) rfl (by decide) rfl (by decide) (Nat.le_of_ble_eq_true rfl) gw206 (Nat.le_of_ble_eq_true rfl) (Nat.le_of_ble_eq_true rfl) rfl rfl ?_
  have z48 := v_Zr_up z47
  refine V_putr (k := 153) dX11_init_212 rfl (by decide) vf_X11_86 (by decide) (fun _ => ⟨rfl, rfl, rfl⟩) (fun a => ⟨rfl, rfl⟩) (Or.inl (by decide)) ?_
  have z49 := v_Zr_sr (c := 130) (j := 26) (x := 153 + 1) z48 (by decide) (Or.inl (by decide))
  refine V_aload_n (k := 0) dX11_init_215 rfl rfl ?_
  refine V_bipush (v := 72) dX11_init_216 rfl ?_
  refine V_newa (t := 0) (len := 72) dX11_init_218 (by decide) rfl (by decide) rfl (by decide) (Nat.le_of_ble_eq_true rfl) gw206 (Nat.le_of_ble_eq_true rfl) (Nat.le_of_ble_eq_true rfl) rfl rfl ?_
  have z50 := v_Zr_up z49
  refine V_putr (k := 154) dX11_init_220 rfl (by decide) vf_X11_89 (by decide) (fun _ => ⟨rfl, rfl, rfl⟩) (fun a => ⟨rfl, rfl⟩) (Or.inl (by decide)) ?_
  have z51 := v_Zr_sr (c := 130) (j := 27) (x := 154 + 1) z50 (by decide) (Or.inl (by decide))
  refine V_aload_n (k := 0) dX11_init_223 rfl rfl ?_
  refine V_bipush (v := 100) dX11_init_224 rfl ?_
  refine V_newa (t := 0) (len := 100) dX11_init_226 (by decide) rfl (by decide) rfl (by decide) (Nat.le_of_ble_eq_true rfl) gw206 (Nat.le_of_ble_eq_true rfl) (Nat.le_of_ble_eq_true rfl) rfl rfl ?_
  have z52 := v_Zr_up z51
  refine V_putr (k := 155) dX11_init_228 rfl (by decide) vf_X11_92 (by decide) (fun _ => ⟨rfl, rfl, rfl⟩) (fun a => ⟨rfl, rfl⟩) (Or.inl (by decide)) ?_
  have z53 := v_Zr_sr (c := 130) (j := 28) (x := 155 + 1) z52 (by decide) (Or.inl (by decide))
  refine V_aload_n (k := 0) dX11_init_231 rfl rfl ?_
  refine V_iconst (v := 4) dX11_init_232 rfl ?_
  refine V_newa (t := 0) (len := 4) dX11_init_233 (by decide) rfl (by decide) rfl (by decide) (Nat.le_of_ble_eq_true rfl) gw206 (Nat.le_of_ble_eq_true rfl) (Nat.le_of_ble_eq_true rfl) rfl rfl ?_
  have z54 := v_Zr_up z53
  refine V_putr (k := 156) dX11_init_235 rfl (by decide) vf_X11_95 (by decide) (fun _ => ⟨rfl, rfl, rfl⟩) (fun a => ⟨rfl, rfl⟩) (Or.inl (by decide)) ?_
  have z55 := v_Zr_sr (c := 130) (j := 29) (x := 156 + 1) z54 (by decide) (Or.inl (by decide))
  refine V_aload_n (k := 0) dX11_init_238 rfl rfl ?_
  refine V_sipush (v := 700) dX11_init_239 rfl ?_
  refine V_newa (t := 0) (len := 700) dX11_init_242 (by decide) rfl (by decide) rfl (by decide) (Nat.le_of_ble_eq_true rfl) gw206 (Nat.le_of_ble_eq_true rfl) (Nat.le_of_ble_eq_true rfl) rfl rfl ?_
  have z56 := v_Zr_up z55
  refine V_putr (k := 157) dX11_init_244 rfl (by decide) vf_X11_98 (by decide) (fun _ => ⟨rfl, rfl, rfl⟩) (fun a => ⟨rfl, rfl⟩) (Or.inl (by decide)) ?_
  have z57 := v_Zr_sr (c := 130) (j := 30) (x := 157 + 1) z56 (by decide) (Or.inl (by decide))
  refine V_aload_n (k := 0) dX11_init_247 rfl rfl ?_
  refine V_iconst (v := (-1)) dX11_init_248 rfl ?_
  refine V_puti dX11_init_249 rfl (by decide) vf_X11_101 (by decide) rfl rfl ?_
  have z58 := v_Zr_si (c := 130) (j := 40) (x := (-1)) z57 (by decide)
  refine V_aload_n (k := 0) dX11_init_252 rfl rfl ?_
  refine V_bipush (v := 14) dX11_init_253 rfl ?_
  refine V_newa (t := 0) (len := 14) dX11_init_255 (by decide) rfl (by decide) rfl (by decide) (Nat.le_of_ble_eq_true rfl) gw206 (Nat.le_of_ble_eq_true rfl) (Nat.le_of_ble_eq_true rfl) rfl rfl ?_
  have z59 := v_Zr_up z58
  refine V_putr (k := 158) dX11_init_257 rfl (by decide) vf_X11_105 (by decide) (fun _ => ⟨rfl, rfl, rfl⟩) (fun a => ⟨rfl, rfl⟩) (Or.inl (by decide)) ?_
  have z60 := v_Zr_sr (c := 130) (j := 41) (x := 158 + 1) z59 (by decide) (Or.inl (by decide))
  refine V_aload_n (k := 0) dX11_init_260 rfl rfl ?_
  refine V_sipush (v := 2000) dX11_init_261 rfl ?_
  refine V_newa (t := 3) (len := 2000) dX11_init_264 (by decide) rfl (by decide) rfl (by decide) (Nat.le_of_ble_eq_true rfl) gw235 (Nat.le_of_ble_eq_true rfl) (Nat.le_of_ble_eq_true rfl) rfl rfl ?_
  have z61 := v_Zr_up z60
  refine V_putr (k := 159) dX11_init_266 rfl (by decide) vf_X11_108 (by decide) (fun _ => ⟨rfl, rfl, rfl⟩) (fun a => ⟨rfl, rfl⟩) (Or.inl (by decide)) ?_
  have z62 := v_Zr_sr (c := 130) (j := 42) (x := 159 + 1) z61 (by decide) (Or.inl (by decide))
  refine V_aload_n (k := 0) dX11_init_269 rfl rfl ?_
  refine V_sipush (v := 2000) dX11_init_270 rfl ?_
  refine V_newa (t := 0) (len := 2000) dX11_init_273 (by decide) rfl (by decide) rfl (by decide) (Nat.le_of_ble_eq_true rfl) gw206 (Nat.le_of_ble_eq_true rfl) (Nat.le_of_ble_eq_true rfl) rfl rfl ?_
  have z63 := v_Zr_up z62
  refine V_putr (k := 160) dX11_init_275 rfl (by decide) vf_X11_111 (by decide) (fun _ => ⟨rfl, rfl, rfl⟩) (fun a => ⟨rfl, rfl⟩) (Or.inl (by decide)) ?_
  have z64 := v_Zr_sr (c := 130) (j := 43) (x := 160 + 1) z63 (by decide) (Or.inl (by decide))
  refine V_aload_n (k := 0) dX11_init_278 rfl rfl ?_
  refine V_bipush (v := 101) dX11_init_279 rfl ?_
  refine V_newa (t := 1) (len := 101) dX11_init_281 (by decide) rfl (by decide) rfl (by decide) (Nat.le_of_ble_eq_true rfl) gw236 (Nat.le_of_ble_eq_true rfl) (Nat.le_of_ble_eq_true rfl) rfl rfl ?_
  have z65 := v_Zr_up z64
  refine V_putr (k := 161) dX11_init_283 rfl (by decide) vf_X11_114 (by decide) (fun _ => ⟨rfl, rfl, rfl⟩) (fun a => ⟨rfl, rfl⟩) (Or.inl (by decide)) ?_
  have z66 := v_Zr_sr (c := 130) (j := 45) (x := 161 + 1) z65 (by decide) (Or.inl (by decide))
  refine V_aload_n (k := 0) dX11_init_286 rfl rfl ?_
  refine V_bipush (v := 101) dX11_init_287 rfl ?_
  refine V_newa (t := 1) (len := 101) dX11_init_289 (by decide) rfl (by decide) rfl (by decide) (Nat.le_of_ble_eq_true rfl) gw236 (Nat.le_of_ble_eq_true rfl) (Nat.le_of_ble_eq_true rfl) rfl rfl ?_
  have z67 := v_Zr_up z66
  refine V_putr (k := 162) dX11_init_291 rfl (by decide) vf_X11_118 (by decide) (fun _ => ⟨rfl, rfl, rfl⟩) (fun a => ⟨rfl, rfl⟩) (Or.inl (by decide)) ?_
  have z68 := v_Zr_sr (c := 130) (j := 46) (x := 162 + 1) z67 (by decide) (Or.inl (by decide))
  refine V_aload_n (k := 0) dX11_init_294 rfl rfl ?_
  refine V_bipush (v := 12) dX11_init_295 rfl ?_
  refine V_newa (t := 0) (len := 12) dX11_init_297 (by decide) rfl (by decide) rfl (by decide) (Nat.le_of_ble_eq_true rfl) gw206 (Nat.le_of_ble_eq_true rfl) (Nat.le_of_ble_eq_true rfl) rfl rfl ?_
  have z69 := v_Zr_up z68
  refine V_putr (k := 163) dX11_init_299 rfl (by decide) vf_X11_121 (by decide) (fun _ => ⟨rfl, rfl, rfl⟩) (fun a => ⟨rfl, rfl⟩) (Or.inl (by decide)) ?_
  have z70 := v_Zr_sr (c := 130) (j := 47) (x := 163 + 1) z69 (by decide) (Or.inl (by decide))
  refine V_aload_n (k := 0) dX11_init_302 rfl rfl ?_
  refine V_bipush (v := 12) dX11_init_303 rfl ?_
  refine V_newa (t := 0) (len := 12) dX11_init_305 (by decide) rfl (by decide) rfl (by decide) (Nat.le_of_ble_eq_true rfl) gw206 (Nat.le_of_ble_eq_true rfl) (Nat.le_of_ble_eq_true rfl) rfl rfl ?_
  have z71 := v_Zr_up z70
  refine V_putr (k := 164) dX11_init_307 rfl (by decide) vf_X11_124 (by decide) (fun _ => ⟨rfl, rfl, rfl⟩) (fun a => ⟨rfl, rfl⟩) (Or.inl (by decide)) ?_
  have z72 := v_Zr_sr (c := 130) (j := 48) (x := 164 + 1) z71 (by decide) (Or.inl (by decide))
  refine V_aload_n (k := 0) dX11_init_310 rfl rfl ?_
  refine V_bipush (v := 12) dX11_init_311 rfl ?_
  refine V_newa (t := 0) (len := 12) dX11_init_313 (by decide) rfl (by decide) rfl (by decide) (Nat.le_of_ble_eq_true rfl) gw206 (Nat.le_of_ble_eq_true rfl) (Nat.le_of_ble_eq_true rfl) rfl rfl ?_
  have z73 := v_Zr_up z72
  refine V_putr (k := 165) dX11_init_315 rfl (by decide) vf_X11_127 (by decide) (fun _ => ⟨rfl, rfl, rfl⟩) (fun a => ⟨rfl, rfl⟩) (Or.inl (by decide)) ?_
  have z74 := v_Zr_sr (c := 130) (j := 49) (x := 165 + 1) z73 (by decide) (Or.inl (by decide))
  refine V_aload_n (k := 0) dX11_init_318 rfl rfl ?_
  refine V_sipush (v := 400) dX11_init_319 rfl ?_
  refine V_newa (t := 0) (len := 400) dX11_init_322 (by decide) rfl (by decide) rfl (by decide) (Nat.le_of_ble_eq_true rfl) gw206 (Nat.le_of_ble_eq_true rfl) (Nat.le_of_ble_eq_true rfl) rfl rfl ?_
  have z75 := v_Zr_up z74
  refine V_putr (k := 166) dX11_init_324 rfl (by decide) vf_X11_130 (by decide) (fun _ => ⟨rfl, rfl, rfl⟩) (fun a => ⟨rfl, rfl⟩) (Or.inl (by decide)) ?_
  have z76 := v_Zr_sr (c := 130) (j := 53) (x := 166 + 1) z75 (by decide) (Or.inl (by decide))
  refine V_aload_n (k := 0) dX11_init_327 rfl rfl ?_
  refine V_sipush (v := 400) dX11_init_328 rfl ?_
  refine V_newa (t := 0) (len := 400) dX11_init_331 (by decide) rfl (by decide) rfl (by decide) (Nat.le_of_ble_eq_true rfl) gw206 (Nat.le_of_ble_eq_true rfl) (Nat.le_of_ble_eq_true rfl) rfl rfl ?_
  have z77 := v_Zr_up z76
  refine V_putr (k := 167) dX11_init_333 rfl (by decide) vf_X11_133 (by decide) (fun _ => ⟨rfl, rfl, rfl⟩) (fun a => ⟨rfl, rfl⟩) (Or.inl (by decide)) ?_
  have z78 := v_Zr_sr (c := 130) (j := 54) (x := 167 + 1) z77 (by decide) (Or.inl (by decide))
  refine V_aload_n (k := 0) dX11_init_336 rfl rfl ?_
  refine V_bipush (v := 6) dX11_init_337 rfl ?_
  refine V_newa (t := 0) (len := 6) dX11_init_339 (by decide) rfl (by decide) rfl (by decide) (Nat.le_of_ble_eq_true rfl) gw206 (Nat.le_of_ble_eq_true rfl) (Nat.le_of_ble_eq_true rfl) rfl rfl ?_
  have z79 := v_Zr_up z78
  refine V_putr (k := 168) dX11_init_341 rfl (by decide) vf_X11_136 (by decide) (fun _ => ⟨rfl, rfl, rfl⟩) (fun a => ⟨rfl, rfl⟩) (Or.inl (by decide)) ?_
  have z80 := v_Zr_sr (c := 130) (j := 55) (x := 168 + 1) z79 (by decide) (Or.inl (by decide))
  refine V_aload_n (k := 0) dX11_init_344 rfl rfl ?_
  refine V_sipush (v := 600) dX11_init_345 rfl ?_
  refine V_newa (t := 0) (len := 600) dX11_init_348 (by decide) rfl (by decide) rfl (by decide) (Nat.le_of_ble_eq_true rfl) gw206 (Nat.le_of_ble_eq_true rfl) (Nat.le_of_ble_eq_true rfl) rfl rfl ?_
  have z81 := v_Zr_up z80
  refine V_putr (k := 169) dX11_init_350 rfl (by decide) vf_X11_139 (by decide) (fun _ => ⟨rfl, rfl, rfl⟩) (fun a => ⟨rfl, rfl⟩) (Or.inl (by decide)) ?_
  have z82 := v_Zr_sr (c := 130) (j := 56) (x := 169 + 1) z81 (by decide) (Or.inl (by decide))
  refine V_aload_n (k := 0) dX11_init_353 rfl rfl ?_
  refine V_bipush (v := 6) dX11_init_354 rfl ?_
  refine V_newa (t := 0) (len := 6) dX11_init_356 (by decide) rfl (by decide) rfl (by decide) (Nat.le_of_ble_eq_true rfl) gw206 (Nat.le_of_ble_eq_true rfl) (Nat.le_of_ble_eq_true rfl) rfl rfl ?_
  have z83 := v_Zr_up z82
  refine V_putr (k := 170) dX11_init_358 rfl (by decide) vf_X11_142 (by decide) (fun _ => ⟨rfl, rfl, rfl⟩) (fun a => ⟨rfl, rfl⟩) (Or.inl (by decide)) ?_
  have z84 := v_Zr_sr (c := 130) (j := 57) (x := 170 + 1) z83 (by decide) (Or.inl (by decide))
  refine V_aload_n (k := 0) dX11_init_361 rfl rfl ?_
  refine V_bipush (v := 72) dX11_init_362 rfl ?_
  refine V_newa (t := 0) (len := 72) dX11_init_364 (by decide) rfl (by decide) rfl (by decide) (Nat.le_of_ble_eq_true rfl) gw206 (Nat.le_of_ble_eq_true rfl) (Nat.le_of_ble_eq_true rfl) rfl rfl ?_
  have z85 := v_Zr_up z84
  refine V_putr (k := 171) dX11_init_366 rfl (by decide) vf_X11_145 (by decide) (fun _ => ⟨rfl, rfl, rfl⟩) (fun a => ⟨rfl, rfl⟩) (Or.inl (by decide)) ?_
  have z86 := v_Zr_sr (c := 130) (j := 58) (x := 171 + 1) z85 (by decide) (Or.inl (by decide))
  refine V_aload_n (k := 0) dX11_init_369 rfl rfl ?_
  refine V_bipush (v := 100) dX11_init_370 rfl ?_
  refine V_newa (t := 0) (len := 100) dX11_init_372 (by decide) rfl (by decide) rfl (by decide) (Nat.le_of_ble_eq_true rfl) gw206 (Nat.le_of_ble_eq_true rfl) (Nat.le_of_ble_eq_true rfl) rfl rfl ?_
  have z87 := v_Zr_up z86
  refine V_putr (k := 172) dX11_init_374 rfl (by decide) vf_X11_148 (by decide) (fun _ => ⟨rfl, rfl, rfl⟩) (fun a => ⟨rfl, rfl⟩) (Or.inl (by decide)) ?_
  have z88 := v_Zr_sr (c := 130) (j := 59) (x := 172 + 1) z87 (by decide) (Or.inl (by decide))
  refine V_aload_n (k := 0) dX11_init_377 rfl rfl ?_
  refine V_iconst (v := 4) dX11_init_378 rfl ?_
  refine V_newa (t := 0) (len := 4) dX11_init_379 (by decide) rfl (by decide) rfl (by decide) (Nat.le_of_ble_eq_true rfl) gw206 (Nat.le_of_ble_eq_true rfl) (Nat.le_of_ble_eq_true rfl) rfl rfl ?_
  have z89 := v_Zr_up z88
  refine V_putr (k := 173) dX11_init_381 rfl (by decide) vf_X11_151 (by decide) (fun _ => ⟨rfl, rfl, rfl⟩) (fun a => ⟨rfl, rfl⟩) (Or.inl (by decide)) ?_
  have z90 := v_Zr_sr (c := 130) (j := 60) (x := 173 + 1) z89 (by decide) (Or.inl (by decide))
  refine V_iconst (v := 0) dX11_init_384 rfl ?_
  refine V_istore_n (lv' := [(1, .int 0), (0, .ref 130)]) dX11_init_385 rfl (by decide) rfl ?_
  have hl := cM_loop (l := l) (D := D) (dA := dA) (kc := 0) (ks := 0) (n := 174) (M := v_sr (v_sr (v_sr (v_sr (v_sr (v_sr (v_sr (v_sr (v_sr (v_sr (v_sr (v_sr (v_sr (v_sr (v_sr (v_sr (v_si (v_sr (v_sr (v_sr (v_sr (v_sr (v_sr (v_sr (v_sr (v_sr (v_sr (v_sr (v_sr (v_sr (v_sr (v_sr (v_sr (v_sr (v_sr (v_sr (v_sr (v_sr (v_sr (v_sr (v_sr (v_sr (v_sr (v_sr (v_sr (v_sr (v_sr (M) 131 0 (1000 + 0 + 1)) 131 1 (1000 + 1 + 1)) 131 2 (1000 + 2 + 1)) 130 0 (131 + 1)) 130 4 (132 + 1)) 130 5 (133 + 1)) 130 6 (134 + 1)) 130 7 (135 + 1)) 130 8 (136 + 1)) 130 9 (137 + 1)) 130 10 (138 + 1)) 130 11 (139 + 1)) 130 12 (140 + 1)) 130 13 (141 + 1)) 130 14 (142 + 1)) 130 15 (143 + 1)) 130 16 (144 + 1)) 130 17 (145 + 1)) 130 18 (146 + 1)) 130 19 (147 + 1)) 130 20 (148 + 1)) 130 22 (149 + 1)) 130 23 (150 + 1)) 130 24 (151 + 1)) 130 25 (152 + 1)) 130 26 (153 + 1)) 130 27 (154 + 1)) 130 28 (155 + 1)) 130 29 (156 + 1)) 130 30 (157 + 1)) 130 40 (-1)) 130 41 (158 + 1)) 130 42 (159 + 1)) 130 43 (160 + 1)) 130 45 (161 + 1)) 130 46 (162 + 1)) 130 47 (163 + 1)) 130 48 (164 + 1)) 130 49 (165 + 1)) 130 53 (166 + 1)) 130 54 (167 + 1)) 130 55 (168 + 1)) 130 56 (169 + 1)) 130 57 (170 + 1)) 130 58 (171 + 1)) 130 59 (172 + 1)) 130 60 (173 + 1)) (by decide) rfl (by decide) 100 0 rfl
  rw [v_fl_0] at hl
  exact V_kc (kc1 := 0) (ks1 := 0) (Nat.le_of_ble_eq_true rfl) (Nat.le_of_ble_eq_true rfl) hl
