def fX11_areApart_13 (k3 : vM → Int32 → Int32 → Int32 → Int32 → Option (vR × vM)) : Nat → vM → Int32 → Int32 → Int32 → Int32 → Int32 → Option (vR × vM)
  | 0, _, _, _, _, _, _ => none
  | n9 + 1, M, x1, x2, x3, x4, x5 => if x4 ≤ x5 then k3 M x1 x2 x3 (x4 + 1) else if ((x2 >>> (x4 &&& (31 : Int32))) &&& 1) = 1 then if ((x2 >>> (x5 &&& (31 : Int32))) &&& 1) = 1 then if v_in x4 14 = true then bi (fX11_markOf M x1 (M.1 158 (Int32.toNatClampNeg x4))) fun y12 M13 => if v_in x5 14 = true then bi (fX11_markOf M13 x1 (M13.1 158 (Int32.toNatClampNeg x5))) fun y17 M18 => bi (fX11_bitsOf M18 (y12 ^^^ y17)) fun y21 M22 => if x3 ≤ y21 then fX11_areApart_13 k3 n9 M22 x1 x2 x3 x4 (x5 + 1) else rI 0 M22 else none else none else fX11_areApart_13 k3 n9 M x1 x2 x3 x4 (x5 + 1) else k3 M x1 x2 x3 (x4 + 1)
set_option maxRecDepth 20000 in
set_option maxHeartbeats 2000000 in
theorem vX11_areApart_13 {l : Launch} {D : va_G} {dA : Nat → ClassId} {k3 : vM → Int32 → Int32 → Int32 → Int32 → Option (vR × vM)} (hk3 : ∀ (M : vM) (x1 : Int32) (x2 : Int32) (x3 : Int32) (x4 : Int32), v_WT M.2.2 → V l D dA sX11_areApart false 175 2 0 0 3 [(0, .ref 130), (1, .int x1), (2, .int x2), (3, .int x3), (4, .int x4)] [] 175 M (k3 M x1 x2 x3 x4)) : ∀ (n9 : Nat) (M : vM) (x1 : Int32) (x2 : Int32) (x3 : Int32) (x4 : Int32) (x5 : Int32), v_WT M.2.2 → V l D dA sX11_areApart false 175 2 0 0 13 [(0, .ref 130), (1, .int x1), (2, .int x2), (3, .int x3), (4, .int x4), (5, .int x5)] [] 175 M (fX11_areApart_13 k3 n9 M x1 x2 x3 x4 x5) := by
  intro n9
  induction n9 with
  | zero => intros; exact V_none
  | succ n9 ih =>
    intro M x1 x2 x3 x4 x5 hI
    refine V_iload (k := 5) dX11_areApart_13 rfl ?_
    refine V_iload (k := 4) dX11_areApart_15 rfl ?_
    refine V_icmpge (tgt := 80) dX11_areApart_17 (by decide) (fun h8 => ?_) (fun h8 => ?_)
    · refine V_iinc (k := 4) (v := x4 + 1) (lv' := [(4, .int (x4 + 1)), (0, .ref 130), (1, .int x1), (2, .int x2), (3, .int x3), (5, .int x5)]) dX11_areApart_80 rfl rfl (by decide) rfl ?_
      refine V_goto (tgt := 3) dX11_areApart_83 (by decide) ?_
      refine V_sub [1, 2, 3, 4, 0] rfl ?_
      exact hk3 M x1 x2 x3 (x4 + 1) hI
    · refine V_iload_n (k := 2) dX11_areApart_20 rfl rfl ?_
      refine V_iload (k := 4) dX11_areApart_21 rfl ?_
      refine V_ishr dX11_areApart_23 ?_
      refine V_iconst (v := 1) dX11_areApart_24 rfl ?_
      refine V_iand dX11_areApart_25 ?_
      refine V_iconst (v := 1) dX11_areApart_26 rfl ?_
      refine V_icmpne (tgt := 80) dX11_areApart_27 (by decide) (fun h9 => ?_) (fun h9 => ?_)
      · refine V_iinc (k := 4) (v := x4 + 1) (lv' := [(4, .int (x4 + 1)), (0, .ref 130), (1, .int x1), (2, .int x2), (3, .int x3), (5, .int x5)]) dX11_areApart_80 rfl rfl (by decide) rfl ?_
        refine V_goto (tgt := 3) dX11_areApart_83 (by decide) ?_
        refine V_sub [1, 2, 3, 4, 0] rfl ?_
        exact hk3 M x1 x2 x3 (x4 + 1) hI
      · refine V_iload_n (k := 2) dX11_areApart_30 rfl rfl ?_
        refine V_iload (k := 5) dX11_areApart_31 rfl ?_
        refine V_ishr dX11_areApart_33 ?_
        refine V_iconst (v := 1) dX11_areApart_34 rfl ?_
        refine V_iand dX11_areApart_35 ?_
        refine V_iconst (v := 1) dX11_areApart_36 rfl ?_
        refine V_icmpne (tgt := 74) dX11_areApart_37 (by decide) (fun h10 => ?_) (fun h10 => ?_)
        · refine V_iinc (k := 5) (v := x5 + 1) (lv' := [(5, .int (x5 + 1)), (0, .ref 130), (1, .int x1), (2, .int x2), (3, .int x3), (4, .int x4)]) dX11_areApart_74 rfl rfl (by decide) rfl ?_
          refine V_goto (tgt := 13) dX11_areApart_77 (by decide) ?_
          refine V_sub [1, 2, 3, 4, 5, 0] rfl ?_
          exact ih M x1 x2 x3 x4 (x5 + 1) hI
        · refine V_aload_n (k := 0) dX11_areApart_40 rfl rfl ?_
          refine V_iload_n (k := 1) dX11_areApart_41 rfl rfl ?_
          refine V_aload_n (k := 0) dX11_areApart_42 rfl rfl ?_
          refine V_getr (k := 158) dX11_areApart_43 rfl (by decide) vf_X11_105 (by decide) (v_fin hI 145 rfl) ?_
          refine V_iload (k := 4) dX11_areApart_46 rfl ?_
          refine V_iald dX11_areApart_48 rfl (by decide) (fun h11 => ?_)
          refine V_callVi (q := (RX11, TX11, 61)) (cls := 11) (st0 := []) (kc' := 0) (ks' := 0) dX11_areApart_49 lk_X11_349 rfl (by decide) rfl rfl rfl (cX11_markOf_ok M x1 (M.1 158 (Int32.toNatClampNeg x4)) hI) rfl rfl (by decide) (by decide) (Nat.le_of_ble_eq_true rfl) (Or.inl rfl) rfl rfl (by decide) (by decide) (fun y12 M13 e14 hI15 => ?_)
          refine V_aload_n (k := 0) dX11_areApart_52 rfl rfl ?_
          refine V_iload_n (k := 1) dX11_areApart_53 rfl rfl ?_
          refine V_aload_n (k := 0) dX11_areApart_54 rfl rfl ?_
          refine V_getr (k := 158) dX11_areApart_55 rfl (by decide) vf_X11_105 (by decide) (v_fin hI15 145 rfl) ?_
          refine V_iload (k := 5) dX11_areApart_58 rfl ?_
          refine V_iald dX11_areApart_60 rfl (by decide) (fun h16 => ?_)
          refine V_callVi (q := (RX11, TX11, 61)) (cls := 11) (st0 := [.int y12]) (kc' := 0) (ks' := 0) dX11_areApart_61 lk_X11_349 rfl (by decide) rfl rfl rfl (cX11_markOf_ok M13 x1 (M13.1 158 (Int32.toNatClampNeg x5)) hI15) rfl rfl (by decide) (by decide) (Nat.le_of_ble_eq_true rfl) (Or.inl rfl) rfl rfl (by decide) (by decide) (fun y17 M18 e19 hI20 => ?_)
          refine V_ixor dX11_areApart_64 ?_
          refine V_callSi (st0 := []) (kc' := 0) (ks' := 0) dX11_areApart_65 lk_X11_324 rfl (cX11_bitsOf_ok M18 (y12 ^^^ y17) hI20) rfl rfl (by decide) (by decide) (Nat.le_of_ble_eq_true rfl) (Or.inl rfl) rfl rfl (by decide) (by decide) (fun y21 M22 e23 hI24 => ?_)
          refine V_iload_n (k := 3) dX11_areApart_68 rfl rfl ?_
          refine V_icmpge (tgt := 74) dX11_areApart_69 (by decide) (fun h25 => ?_) (fun h25 => ?_)
          · refine V_iinc (k := 5) (v := x5 + 1) (lv' := [(5, .int (x5 + 1)), (0, .ref 130), (1, .int x1), (2, .int x2), (3, .int x3), (4, .int x4)]) dX11_areApart_74 rfl rfl (by decide) rfl ?_
            refine V_goto (tgt := 13) dX11_areApart_77 (by decide) ?_
            refine V_sub [1, 2, 3, 4, 5, 0] rfl ?_
            exact ih M22 x1 x2 x3 x4 (x5 + 1) hI24
          · refine V_iconst (v := 0) dX11_areApart_72 rfl ?_
            exact V_ret (fun _ => hI24) (Or.inr (Or.inr (Or.inl ⟨rfl, _, rfl⟩))) dX11_areApart_73 (fun ty x h1 h2 => by cases h1; cases h2; rfl) rfl
def fX11_areApart_3 : Nat → vM → Int32 → Int32 → Int32 → Int32 → Option (vR × vM)
  | 0, _, _, _, _, _ => none
  | n9 + 1, M, x1, x2, x3, x4 => if 14 ≤ x4 then rI 1 M else fX11_areApart_13 (fX11_areApart_3 n9) FU M x1 x2 x3 x4 0
set_option maxRecDepth 20000 in
set_option maxHeartbeats 2000000 in
theorem vX11_areApart_3 {l : Launch} {D : va_G} {dA : Nat → ClassId} : ∀ (n9 : Nat) (M : vM) (x1 : Int32) (x2 : Int32) (x3 : Int32) (x4 : Int32), v_WT M.2.2 → V l D dA sX11_areApart false 175 2 0 0 3 [(0, .ref 130), (1, .int x1), (2, .int x2), (3, .int x3), (4, .int x4)] [] 175 M (fX11_areApart_3 n9 M x1 x2 x3 x4) := by
  intro n9
  induction n9 with
  | zero => intros; exact V_none
  | succ n9 ih =>
    intro M x1 x2 x3 x4 hI
    refine V_iload (k := 4) dX11_areApart_3 rfl ?_
    refine V_bipush (v := 14) dX11_areApart_5 rfl ?_
    refine V_icmpge (tgt := 86) dX11_areApart_7 (by decide) (fun h26 => ?_) (fun h26 => ?_)
    · refine V_iconst (v := 1) dX11_areApart_86 rfl ?_
      exact V_ret (fun _ => hI) (Or.inr (Or.inr (Or.inl ⟨rfl, _, rfl⟩))) dX11_areApart_87 (fun ty x h1 h2 => by cases h1; cases h2; rfl) rfl
    · refine V_iconst (v := 0) dX11_areApart_10 rfl ?_
      refine V_istore (lv' := [(5, .int 0), (0, .ref 130), (1, .int x1), (2, .int x2), (3, .int x3), (4, .int x4)]) dX11_areApart_11 (by decide) rfl ?_
      refine V_sub [1, 2, 3, 4, 5, 0] rfl ?_
      exact vX11_areApart_13 (ih) FU M x1 x2 x3 x4 0 hI
def fX11_areApart (M : vM) (x1 : Int32) (x2 : Int32) (x3 : Int32) : Option (vR × vM) := fX11_areApart_3 FU M x1 x2 x3 0
set_option maxRecDepth 20000 in
set_option maxHeartbeats 2000000 in
theorem cX11_areApart_ok {l : Launch} {D : va_G} {dA : Nat → ClassId} (M : vM) (x1 : Int32) (x2 : Int32) (x3 : Int32) (hI : v_WT M.2.2) : Ct l D dA sX11_areApart false 175 2 0 0 175 [.ref 130, .int x1, .int x2, .int x3] M (fX11_areApart M x1 x2 x3) := by
  refine Ct_of (lv := [(0, .ref 130), (1, .int x1), (2, .int x2), (3, .int x3)]) (by decide +kernel) rfl (Nat.le_of_ble_eq_true rfl) rfl (fun h => by cases h) ?_
  refine V_iconst (v := 0) dX11_areApart_0 rfl ?_
  refine V_istore (lv' := [(4, .int 0), (0, .ref 130), (1, .int x1), (2, .int x2), (3, .int x3)]) dX11_areApart_1 (by decide) rfl ?_
  refine V_sub [1, 2, 3, 4, 0] rfl ?_
  exact vX11_areApart_3 FU M x1 x2 x3 0 hI
def fX11_apart_22 (M : vM) : Option (vR × vM) := bi (fX11_fail M 1) fun y16 M17 => rI y16 M17
set_option maxRecDepth 20000 in
set_option maxHeartbeats 2000000 in
theorem vX11_apart_22 {l : Launch} {D : va_G} {dA : Nat → ClassId} : ∀ (M : vM), v_WT M.2.2 → V l D dA sX11_apart false 175 3 0 0 22 [(0, .ref 130)] [] 175 M (fX11_apart_22 M) := by
  intro M hI
  refine V_aload_n (k := 0) dX11_apart_22 rfl rfl ?_
  refine V_iconst (v := 1) dX11_apart_23 rfl ?_
  refine V_callVi (q := (RX11, TX11, 61)) (cls := 11) (st0 := []) (kc' := 0) (ks' := 0) dX11_apart_24 lk_X11_287 rfl (by decide) rfl rfl rfl (cX11_fail_ok M 1 hI) rfl rfl (by decide) (by decide) (Nat.le_of_ble_eq_true rfl) (Or.inl rfl) rfl rfl (by decide) (by decide) (fun y16 M17 e18 hI19 => ?_)
  exact V_ret (fun _ => hI19) (Or.inr (Or.inl ⟨rfl, _, rfl⟩)) dX11_apart_27 (fun ty x h1 h2 => by cases h1; rfl) rfl
def fX11_apart_141 (k98 : vM → Int32 → Int32 → Int32 → Int32 → Int32 → Int32 → Int32 → Int32 → Option (vR × vM)) : Nat → vM → Int32 → Int32 → Int32 → Int32 → Int32 → Int32 → Int32 → Int32 → Int32 → Int32 → Int32 → Option (vR × vM)
  | 0, _, _, _, _, _, _, _, _, _, _, _, _ => none
  | n9 + 1, M, x1, x2, x3, x4, x5, x6, x7, x8, x9, x10, x11 => if x4 ≤ x11 then if x9 = x6 then if x10 < x7 then k98 M x1 x2 x3 x4 x8 x9 x10 (x8 + 1) else k98 M x1 x2 x3 x4 x5 x6 x7 (x8 + 1) else k98 M x1 x2 x3 x4 x8 x9 x10 (x8 + 1) else if v_in x11 14 = true then if v_in ((2000 * x1) + (M.1 158 (Int32.toNatClampNeg x11))) 12000 = true then fX11_apart_141 k98 n9 M x1 x2 x3 x4 x5 x6 x7 x8 x9 (x10 + (((x8 >>> (x11 &&& (31 : Int32))) &&& 1) * (M.1 146 (Int32.toNatClampNeg ((2000 * x1) + (M.1 158 (Int32.toNatClampNeg x11))))))) (x11 + 1) else none else none
set_option maxRecDepth 20000 in
set_option maxHeartbeats 2000000 in
theorem vX11_apart_141 {l : Launch} {D : va_G} {dA : Nat → ClassId} {k98 : vM → Int32 → Int32 → Int32 → Int32 → Int32 → Int32 → Int32 → Int32 → Option (vR × vM)} (hk98 : ∀ (M : vM) (x1 : Int32) (x2 : Int32) (x3 : Int32) (x4 : Int32) (x5 : Int32) (x6 : Int32) (x7 : Int32) (x8 : Int32), v_WT M.2.2 → V l D dA sX11_apart false 175 3 0 0 98 [(0, .ref 130), (1, .int x1), (2, .int x2), (3, .int x3), (4, .int x4), (5, .int x5), (6, .int x6), (7, .int x7), (8, .int x8)] [] 175 M (k98 M x1 x2 x3 x4 x5 x6 x7 x8)) : ∀ (n9 : Nat) (M : vM) (x1 : Int32) (x2 : Int32) (x3 : Int32) (x4 : Int32) (x5 : Int32) (x6 : Int32) (x7 : Int32) (x8 : Int32) (x9 : Int32) (x10 : Int32) (x11 : Int32), v_WT M.2.2 → V l D dA sX11_apart false 175 3 0 0 141 [(0, .ref 130), (1, .int x1), (2, .int x2), (3, .int x3), (4, .int x4), (5, .int x5), (6, .int x6), (7, .int x7), (8, .int x8), (9, .int x9), (10, .int x10), (11, .int x11)] [] 175 M (fX11_apart_141 k98 n9 M x1 x2 x3 x4 x5 x6 x7 x8 x9 x10 x11) := by
  intro n9
  induction n9 with
  | zero => intros; exact V_none
  | succ n9 ih =>
    intro M x1 x2 x3 x4 x5 x6 x7 x8 x9 x10 x11 hI
    refine V_iload (k := 11) dX11_apart_141 rfl ?_
    refine V_iload (k := 4) dX11_apart_143 rfl ?_
    refine V_icmpge (tgt := 185) dX11_apart_145 (by decide) (fun h20 => ?_) (fun h20 => ?_)
    · refine V_iload (k := 9) dX11_apart_185 rfl ?_
      refine V_iload (k := 6) dX11_apart_187 rfl ?_
      refine V_icmpne (tgt := 202) dX11_apart_189 (by decide) (fun h21 => ?_) (fun h21 => ?_)
      · refine V_iload (k := 8) dX11_apart_202 rfl ?_
        refine V_istore (lv' := [(5, .int x8), (0, .ref 130), (1, .int x1), (2, .int x2), (3, .int x3), (4, .int x4), (6, .int x6), (7, .int x7), (8, .int x8), (9, .int x9), (10, .int x10), (11, .int x11)]) dX11_apart_204 (by decide) rfl ?_
        refine V_iload (k := 9) dX11_apart_206 rfl ?_
        refine V_istore (lv' := [(6, .int x9), (5, .int x8), (0, .ref 130), (1, .int x1), (2, .int x2), (3, .int x3), (4, .int x4), (7, .int x7), (8, .int x8), (9, .int x9), (10, .int x10), (11, .int x11)]) dX11_apart_208 (by decide) rfl ?_
        refine V_iload (k := 10) dX11_apart_210 rfl ?_
        refine V_istore (lv' := [(7, .int x10), (6, .int x9), (5, .int x8), (0, .ref 130), (1, .int x1), (2, .int x2), (3, .int x3), (4, .int x4), (8, .int x8), (9, .int x9), (10, .int x10), (11, .int x11)]) dX11_apart_212 (by decide) rfl ?_
        refine V_iinc (k := 8) (v := x8 + 1) (lv' := [(8, .int (x8 + 1)), (7, .int x10), (6, .int x9), (5, .int x8), (0, .ref 130), (1, .int x1), (2, .int x2), (3, .int x3), (4, .int x4), (9, .int x9), (10, .int x10), (11, .int x11)]) dX11_apart_214 rfl rfl (by decide) rfl ?_
        refine V_goto (tgt := 98) dX11_apart_217 (by decide) ?_
        refine V_sub [4, 5, 6, 7, 8, 3, 2, 1, 0] rfl ?_
        exact hk98 M x1 x2 x3 x4 x8 x9 x10 (x8 + 1) hI
      · refine V_iload (k := 10) dX11_apart_192 rfl ?_
        refine V_iload (k := 7) dX11_apart_194 rfl ?_
        refine V_icmplt (tgt := 202) dX11_apart_196 (by decide) (fun h22 => ?_) (fun h22 => ?_)
        · refine V_iload (k := 8) dX11_apart_202 rfl ?_
          refine V_istore (lv' := [(5, .int x8), (0, .ref 130), (1, .int x1), (2, .int x2), (3, .int x3), (4, .int x4), (6, .int x6), (7, .int x7), (8, .int x8), (9, .int x9), (10, .int x10), (11, .int x11)]) dX11_apart_204 (by decide) rfl ?_
          refine V_iload (k := 9) dX11_apart_206 rfl ?_
          refine V_istore (lv' := [(6, .int x9), (5, .int x8), (0, .ref 130), (1, .int x1), (2, .int x2), (3, .int x3), (4, .int x4), (7, .int x7), (8, .int x8), (9, .int x9), (10, .int x10), (11, .int x11)]) dX11_apart_208 (by decide) rfl ?_
          refine V_iload (k := 10) dX11_apart_210 rfl ?_
          refine V_istore (lv' := [(7, .int x10), (6, .int x9), (5, .int x8), (0, .ref 130), (1, .int x1), (2, .int x2), (3, .int x3), (4, .int x4), (8, .int x8), (9, .int x9), (10, .int x10), (11, .int x11)]) dX11_apart_212 (by decide) rfl ?_
          refine V_iinc (k := 8) (v := x8 + 1) (lv' := [(8, .int (x8 + 1)), (7, .int x10), (6, .int x9), (5, .int x8), (0, .ref 130), (1, .int x1), (2, .int x2), (3, .int x3), (4, .int x4), (9, .int x9), (10, .int x10), (11, .int x11)]) dX11_apart_214 rfl rfl (by decide) rfl ?_
          refine V_goto (tgt := 98) dX11_apart_217 (by decide) ?_
          refine V_sub [4, 5, 6, 7, 8, 3, 2, 1, 0] rfl ?_
          exact hk98 M x1 x2 x3 x4 x8 x9 x10 (x8 + 1) hI
        · refine V_goto (tgt := 214) dX11_apart_199 (by decide) ?_
          refine V_iinc (k := 8) (v := x8 + 1) (lv' := [(8, .int (x8 + 1)), (0, .ref 130), (1, .int x1), (2, .int x2), (3, .int x3), (4, .int x4), (5, .int x5), (6, .int x6), (7, .int x7), (9, .int x9), (10, .int x10), (11, .int x11)]) dX11_apart_214 rfl rfl (by decide) rfl ?_
          refine V_goto (tgt := 98) dX11_apart_217 (by decide) ?_
          refine V_sub [1, 2, 3, 4, 5, 6, 7, 8, 0] rfl ?_
          exact hk98 M x1 x2 x3 x4 x5 x6 x7 (x8 + 1) hI
    · refine V_iload (k := 10) dX11_apart_148 rfl ?_
      refine V_iload (k := 8) dX11_apart_150 rfl ?_
      refine V_iload (k := 11) dX11_apart_152 rfl ?_
      refine V_ishr dX11_apart_154 ?_
      refine V_iconst (v := 1) dX11_apart_155 rfl ?_
      refine V_iand dX11_apart_156 ?_
      refine V_aload_n (k := 0) dX11_apart_157 rfl rfl ?_
      refine V_getr (k := 146) dX11_apart_158 rfl (by decide) vf_X11_64 (by decide) (v_fin hI 133 rfl) ?_
      refine V_sipush (v := 2000) dX11_apart_161 rfl ?_
      refine V_iload_n (k := 1) dX11_apart_164 rfl rfl ?_
      refine V_imul dX11_apart_165 ?_
      refine V_aload_n (k := 0) dX11_apart_166 rfl rfl ?_
      refine V_getr (k := 158) dX11_apart_167 rfl (by decide) vf_X11_105 (by decide) (v_fin hI 145 rfl) ?_
      refine V_iload (k := 11) dX11_apart_170 rfl ?_
      refine V_iald dX11_apart_172 rfl (by decide) (fun h23 => ?_)
      refine V_iadd dX11_apart_173 ?_
      refine V_iald dX11_apart_174 rfl (by decide) (fun h24 => ?_)
      refine V_imul dX11_apart_175 ?_
      refine V_iadd dX11_apart_176 ?_
      refine V_istore (lv' := [(10, .int (x10 + (((x8 >>> (x11 &&& (31 : Int32))) &&& 1) * (M.1 146 (Int32.toNatClampNeg ((2000 * x1) + (M.1 158 (Int32.toNatClampNeg x11)))))))), (0, .ref 130), (1, .int x1), (2, .int x2), (3, .int x3), (4, .int x4), (5, .int x5), (6, .int x6), (7, .int x7), (8, .int x8), (9, .int x9), (11, .int x11)]) dX11_apart_177 (by decide) rfl ?_
      refine V_iinc (k := 11) (v := x11 + 1) (lv' := [(11, .int (x11 + 1)), (10, .int (x10 + (((x8 >>> (x11 &&& (31 : Int32))) &&& 1) * (M.1 146 (Int32.toNatClampNeg ((2000 * x1) + (M.1 158 (Int32.toNatClampNeg x11)))))))), (0, .ref 130), (1, .int x1), (2, .int x2), (3, .int x3), (4, .int x4), (5, .int x5), (6, .int x6), (7, .int x7), (8, .int x8), (9, .int x9)]) dX11_apart_179 rfl rfl (by decide) rfl ?_
      refine V_goto (tgt := 141) dX11_apart_182 (by decide) ?_
      refine V_sub [2, 3, 4, 5, 6, 7, 8, 9, 10, 11, 1, 0] rfl ?_
      exact ih M x1 x2 x3 x4 x5 x6 x7 x8 x9 (x10 + (((x8 >>> (x11 &&& (31 : Int32))) &&& 1) * (M.1 146 (Int32.toNatClampNeg ((2000 * x1) + (M.1 158 (Int32.toNatClampNeg x11))))))) (x11 + 1) hI
def fX11_apart_98 : Nat → vM → Int32 → Int32 → Int32 → Int32 → Int32 → Int32 → Int32 → Int32 → Option (vR × vM)
  | 0, _, _, _, _, _, _, _, _, _ => none
  | n9 + 1, M, x1, x2, x3, x4, x5, x6, x7, x8 => if (1 <<< (x4 &&& (31 : Int32))) ≤ x8 then if x3 = 0 then rI x6 M else if x3 = 1 then rI x7 M else rI x5 M else bi (fX11_bitsOf M x8) fun y28 M29 => if y28 < x6 then fX11_apart_98 n9 M29 x1 x2 x3 x4 x5 x6 x7 (x8 + 1) else bi (fX11_areApart M29 x1 x8 x2) fun y33 M34 => if y33 = 0 then fX11_apart_98 n9 M34 x1 x2 x3 x4 x5 x6 x7 (x8 + 1) else fX11_apart_141 (fX11_apart_98 n9) FU M34 x1 x2 x3 x4 x5 x6 x7 x8 y28 0 0
set_option maxRecDepth 20000 in
set_option maxHeartbeats 2000000 in
theorem vX11_apart_98 {l : Launch} {D : va_G} {dA : Nat → ClassId} : ∀ (n9 : Nat) (M : vM) (x1 : Int32) (x2 : Int32) (x3 : Int32) (x4 : Int32) (x5 : Int32) (x6 : Int32) (x7 : Int32) (x8 : Int32), v_WT M.2.2 → V l D dA sX11_apart false 175 3 0 0 98 [(0, .ref 130), (1, .int x1), (2, .int x2), (3, .int x3), (4, .int x4), (5, .int x5), (6, .int x6), (7, .int x7), (8, .int x8)] [] 175 M (fX11_apart_98 n9 M x1 x2 x3 x4 x5 x6 x7 x8) := by
  intro n9
  induction n9 with
  | zero => intros; exact V_none
  | succ n9 ih =>
    intro M x1 x2 x3 x4 x5 x6 x7 x8 hI
    refine V_iload (k := 8) dX11_apart_98 rfl ?_
    refine V_iconst (v := 1) dX11_apart_100 rfl ?_
    refine V_iload (k := 4) dX11_apart_101 rfl ?_
    refine V_ishl dX11_apart_103 ?_
    refine V_icmpge (tgt := 220) dX11_apart_104 (by decide) (fun h25 => ?_) (fun h25 => ?_)
    · refine V_iload_n (k := 3) dX11_apart_220 rfl rfl ?_
      refine V_ifne (tgt := 229) dX11_apart_221 (by decide) (fun h26 => ?_) (fun h26 => ?_)
      · refine V_iload_n (k := 3) dX11_apart_229 rfl rfl ?_
        refine V_iconst (v := 1) dX11_apart_230 rfl ?_
        refine V_icmpne (tgt := 239) dX11_apart_231 (by decide) (fun h27 => ?_) (fun h27 => ?_)
        · refine V_iload (k := 5) dX11_apart_239 rfl ?_
          exact V_ret (fun _ => hI) (Or.inr (Or.inl ⟨rfl, _, rfl⟩)) dX11_apart_241 (fun ty x h1 h2 => by cases h1; rfl) rfl
        · refine V_iload (k := 7) dX11_apart_234 rfl ?_
          refine V_goto (tgt := 241) dX11_apart_236 (by decide) ?_
          exact V_ret (fun _ => hI) (Or.inr (Or.inl ⟨rfl, _, rfl⟩)) dX11_apart_241 (fun ty x h1 h2 => by cases h1; rfl) rfl
      · refine V_iload (k := 6) dX11_apart_224 rfl ?_
        refine V_goto (tgt := 241) dX11_apart_226 (by decide) ?_
        exact V_ret (fun _ => hI) (Or.inr (Or.inl ⟨rfl, _, rfl⟩)) dX11_apart_241 (fun ty x h1 h2 => by cases h1; rfl) rfl
    · refine V_iload (k := 8) dX11_apart_107 rfl ?_
      refine V_callSi (st0 := []) (kc' := 0) (ks' := 0) dX11_apart_109 lk_X11_324 rfl (cX11_bitsOf_ok M x8 hI) rfl rfl (by decide) (by decide) (Nat.le_of_ble_eq_true rfl) (Or.inl rfl) rfl rfl (by decide) (by decide) (fun y28 M29 e30 hI31 => ?_)
      refine V_istore (lv' := [(9, .int y28), (0, .ref 130), (1, .int x1), (2, .int x2), (3, .int x3), (4, .int x4), (5, .int x5), (6, .int x6), (7, .int x7), (8, .int x8)]) dX11_apart_112 (by decide) rfl ?_
      refine V_iload (k := 0) dX11_apart_114 rfl ?_
      refine V_iload (k := 7) dX11_apart_116 rfl ?_
      refine V_icmplt (tgt := 214) dX11_apart_118 (by decide) (fun h32 => ?_) (fun h32 => ?_)
      · refine V_iinc (k := 9) (v := x8 + 1) (lv' := [(8, .int (x8 + 1)), (9, .int y28), (0, .ref 130), (1, .int x1), (2, .int x2), (3, .int x3), (4, .int x4), (5, .int x5), (6, .int x6), (7, .int x7)]) dX11_apart_214 rfl rfl (by decide) rfl ?_
        refine V_goto (tgt := 98) dX11_apart_217 (by decide) ?_
        refine V_sub [2, 3, 4, 5, 6, 7, 8, 9, 0] rfl ?_
        exact ih M29 x1 x2 x3 x4 x5 x6 x7 (x8 + 1) hI31
      · refine V_aload_n (k := 1) dX11_apart_121 rfl rfl ?_
        refine V_iload_n (k := 2) dX11_apart_122 rfl rfl ?_
        refine V_iload (k := 9) dX11_apart_123 rfl ?_
        refine V_iload_n (k := 3) dX11_apart_125 rfl rfl ?_
        refine V_callVi (q := (RX11, TX11, 61)) (cls := 11) (st0 := []) (kc' := 0) (ks' := 0) dX11_apart_126 lk_X11_381 rfl (by decide) rfl rfl rfl (cX11_areApart_ok M29 x1 x8 x2 hI31) rfl rfl (by decide) (by decide) (Nat.le_of_ble_eq_true rfl) (Or.inl rfl) rfl rfl (by decide) (by decide) (fun y33 M34 e35 hI36 => ?_)
        refine V_ifne (tgt := 135) dX11_apart_129 (by decide) (fun h37 => ?_) (fun h37 => ?_)
        · refine V_iconst (v := 0) dX11_apart_135 rfl ?_
          refine V_istore (lv' := [(10, .int 0), (9, .int y28), (0, .ref 130), (1, .int x1), (2, .int x2), (3, .int x3), (4, .int x4), (5, .int x5), (6, .int x6), (7, .int x7), (8, .int x8)]) dX11_apart_136 (by decide) rfl ?_
          refine V_iconst (v := 0) dX11_apart_138 rfl ?_
          refine V_istore (lv' := [(11, .int 0), (10, .int 0), (9, .int y28), (0, .ref 130), (1, .int x1), (2, .int x2), (3, .int x3), (4, .int x4), (5, .int x5), (6, .int x6), (7, .int x7), (8, .int x8)]) dX11_apart_139 (by decide) rfl ?_
          refine V_sub [3, 4, 5, 6, 7, 8, 9, 10, 11, 2, 1, 0] rfl ?_
          exact vX11_apart_141 (ih) FU M34 x1 x2 x3 x4 x5 x6 x7 x8 y28 0 0 hI36
        · refine V_goto (tgt := 214) dX11_apart_132 (by decide) ?_
          refine V_iinc (k := 9) (v := x8 + 1) (lv' := [(8, .int (x8 + 1)), (9, .int y28), (0, .ref 130), (1, .int x1), (2, .int x2), (3, .int x3), (4, .int x4), (5, .int x5), (6, .int x6), (7, .int x7)]) dX11_apart_214 rfl rfl (by decide) rfl ?_
          refine V_goto (tgt := 98) dX11_apart_217 (by decide) ?_
          refine V_sub [2, 3, 4, 5, 6, 7, 8, 9, 0] rfl ?_
          exact ih M34 x1 x2 x3 x4 x5 x6 x7 (x8 + 1) hI36
def fX11_apart_59 : Nat → vM → Int32 → Int32 → Int32 → Int32 → Int32 → Option (vR × vM)
  | 0, _, _, _, _, _, _ => none
  | n9 + 1, M, x1, x2, x3, x4, x5 => if x4 ≤ x5 then fX11_apart_98 FU M x1 x2 x3 x4 0 0 0 1 else bi (fX11_leftAt M x1 x5) fun y39 M40 => if v_in x5 14 = true then fX11_apart_59 n9 (v_si M40 158 (Int32.toNatClampNeg x5) y39) x1 x2 x3 x4 (x5 + 1) else none
set_option maxRecDepth 20000 in
set_option maxHeartbeats 2000000 in
theorem vX11_apart_59 {l : Launch} {D : va_G} {dA : Nat → ClassId} : ∀ (n9 : Nat) (M : vM) (x1 : Int32) (x2 : Int32) (x3 : Int32) (x4 : Int32) (x5 : Int32), v_WT M.2.2 → V l D dA sX11_apart false 175 3 0 0 59 [(0, .ref 130), (1, .int x1), (2, .int x2), (3, .int x3), (4, .int x4), (5, .int x5)] [] 175 M (fX11_apart_59 n9 M x1 x2 x3 x4 x5) := by
  intro n9
  induction n9 with
  | zero => intros; exact V_none
  | succ n9 ih =>
    intro M x1 x2 x3 x4 x5 hI
    refine V_iload (k := 5) dX11_apart_59 rfl ?_
    refine V_iload (k := 4) dX11_apart_61 rfl ?_
    refine V_icmpge (tgt := 86) dX11_apart_63 (by decide) (fun h38 => ?_) (fun h38 => ?_)
    · refine V_iconst (v := 0) dX11_apart_86 rfl ?_
      refine V_istore (lv' := [(5, .int 0), (0, .ref 130), (1, .int x1), (2, .int x2), (3, .int x3), (4, .int x4)]) dX11_apart_87 (by decide) rfl ?_
      refine V_iconst (v := 0) dX11_apart_89 rfl ?_
      refine V_istore (lv' := [(6, .int 0), (5, .int 0), (0, .ref 130), (1, .int x1), (2, .int x2), (3, .int x3), (4, .int x4)]) dX11_apart_90 (by decide) rfl ?_
      refine V_iconst (v := 0) dX11_apart_92 rfl ?_
      refine V_istore (lv' := [(7, .int 0), (6, .int 0), (5, .int 0), (0, .ref 130), (1, .int x1), (2, .int x2), (3, .int x3), (4, .int x4)]) dX11_apart_93 (by decide) rfl ?_
      refine V_iconst (v := 1) dX11_apart_95 rfl ?_
      refine V_istore (lv' := [(8, .int 1), (7, .int 0), (6, .int 0), (5, .int 0), (0, .ref 130), (1, .int x1), (2, .int x2), (3, .int x3), (4, .int x4)]) dX11_apart_96 (by decide) rfl ?_
      refine V_sub [4, 5, 6, 7, 8, 3, 2, 1, 0] rfl ?_
      exact vX11_apart_98 FU M x1 x2 x3 x4 0 0 0 1 hI
    · refine V_aload_n (k := 0) dX11_apart_66 rfl rfl ?_
      refine V_getr (k := 158) dX11_apart_67 rfl (by decide) vf_X11_105 (by decide) (v_fin hI 145 rfl) ?_
      refine V_iload (k := 5) dX11_apart_70 rfl ?_
      refine V_aload_n (k := 0) dX11_apart_72 rfl rfl ?_
      refine V_iload_n (k := 1) dX11_apart_73 rfl rfl ?_
      refine V_iload (k := 5) dX11_apart_74 rfl ?_
      refine V_callVi (q := (RX11, TX11, 61)) (cls := 11) (st0 := [.int x5, .ref 158]) (kc' := 0) (ks' := 0) dX11_apart_76 lk_X11_378 rfl (by decide) rfl rfl rfl (cX11_leftAt_ok M x1 x5 hI) rfl rfl (by decide) (by decide) (Nat.le_of_ble_eq_true rfl) (Or.inl rfl) rfl rfl (by decide) (by decide) (fun y39 M40 e41 hI42 => ?_)
      refine V_iast dX11_apart_79 rfl (by decide) (fun h43 => ?_)
      refine V_iinc (k := 5) (v := x5 + 1) (lv' := [(5, .int (x5 + 1)), (0, .ref 130), (1, .int x1), (2, .int x2), (3, .int x3), (4, .int x4)]) dX11_apart_80 rfl rfl (by decide) rfl ?_
      refine V_goto (tgt := 59) dX11_apart_83 (by decide) ?_
      refine V_sub [1, 2, 3, 4, 5, 0] rfl ?_
      exact ih (v_si M40 158 (Int32.toNatClampNeg x5) y39) x1 x2 x3 x4 (x5 + 1) hI42
def fX11_apart (M : vM) (x1 : Int32) (x2 : Int32) (x3 : Int32) : Option (vR × vM) := bi (fX11_isWork (v_si M 130 1 0) x1) fun y44 M45 => if y44 = 0 then fX11_apart_22 M45 else bi (fX11_isIn M45 x3 0 2) fun y49 M50 => if y49 = 0 then fX11_apart_22 M50 else bi (fX11_isIn M50 x2 0 30) fun y54 M55 => if y54 = 0 then bi (fX11_fail M55 2) fun y63 M64 => rI y63 M64 else bi (fX11_leftOf M55 x1) fun y59 M60 => fX11_apart_59 FU M60 x1 x2 x3 (if y59 < 14 then y59 else 14) 0
set_option maxRecDepth 20000 in
set_option maxHeartbeats 2000000 in
theorem cX11_apart_ok {l : Launch} {D : va_G} {dA : Nat → ClassId} (M : vM) (x1 : Int32) (x2 : Int32) (x3 : Int32) (hI : v_WT M.2.2) : Ct l D dA sX11_apart false 175 3 0 0 175 [.ref 130, .int x1, .int x2, .int x3] M (fX11_apart M x1 x2 x3) := by
  refine Ct_of (lv := [(0, .ref 130), (1, .int x1), (2, .int x2), (3, .int x3)]) (by decide +kernel) rfl (Nat.le_of_ble_eq_true rfl) rfl (fun h => by cases h) ?_
  refine V_aload_n (k := 0) dX11_apart_0 rfl rfl ?_
  refine V_iconst (v := 0) dX11_apart_1 rfl ?_
  refine V_puti dX11_apart_2 rfl (by decide) vf_X11_154 (by decide) rfl rfl ?_
  refine V_aload_n (k := 0) dX11_apart_5 rfl rfl ?_
  refine V_iload_n (k := 1) dX11_apart_6 rfl rfl ?_
  refine V_callVi (q := (RX11, TX11, 61)) (cls := 11) (st0 := []) (kc' := 0) (ks' := 0) dX11_apart_7 lk_X11_164 rfl (by decide) rfl rfl rfl (cX11_isWork_ok (v_si M 130 1 0) x1 hI) rfl rfl (by decide) (by decide) (Nat.le_of_ble_eq_true rfl) (Or.inl rfl) rfl rfl (by decide) (by decide) (fun y44 M45 e46 hI47 => ?_)
  refine V_ifeq (tgt := 22) dX11_apart_10 (by decide) (fun h48 => ?_) (fun h48 => ?_)
  · refine V_sub [0] rfl ?_
    exact vX11_apart_22 M45 hI47
  · refine V_iload_n (k := 3) dX11_apart_13 rfl rfl ?_
    refine V_iconst (v := 0) dX11_apart_14 rfl ?_
    refine V_iconst (v := 2) dX11_apart_15 rfl ?_
    refine V_callSi (st0 := []) (kc' := 0) (ks' := 0) dX11_apart_16 lk_X11_160 rfl (cX11_isIn_ok M45 x3 0 2 hI47) rfl rfl (by decide) (by decide) (Nat.le_of_ble_eq_true rfl) (Or.inl rfl) rfl rfl (by decide) (by decide) (fun y49 M50 e51 hI52 => ?_)
    refine V_ifne (tgt := 28) dX11_apart_19 (by decide) (fun h53 => ?_) (fun h53 => ?_)
    · refine V_iload_n (k := 2) dX11_apart_28 rfl rfl ?_
      refine V_iconst (v := 0) dX11_apart_29 rfl ?_
      refine V_bipush (v := 30) dX11_apart_30 rfl ?_
      refine V_callSi (st0 := []) (kc' := 0) (ks' := 0) dX11_apart_32 lk_X11_160 rfl (cX11_isIn_ok M50 x2 0 30 hI52) rfl rfl (by decide) (by decide) (Nat.le_of_ble_eq_true rfl) (Or.inl rfl) rfl rfl (by decide) (by decide) (fun y54 M55 e56 hI57 => ?_)
      refine V_ifne (tgt := 44) dX11_apart_35 (by decide) (fun h58 => ?_) (fun h58 => ?_)
      · refine V_bipush (v := 14) dX11_apart_44 rfl ?_
        refine V_aload_n (k := 0) dX11_apart_46 rfl rfl ?_
        refine V_iload_n (k := 1) dX11_apart_47 rfl rfl ?_
        refine V_callVi (q := (RX11, TX11, 61)) (cls := 11) (st0 := [.int 14]) (kc' := 0) (ks' := 0) dX11_apart_48 lk_X11_356 rfl (by decide) rfl rfl rfl (cX11_leftOf_ok M55 x1 hI57) rfl rfl (by decide) (by decide) (Nat.le_of_ble_eq_true rfl) (Or.inl rfl) rfl rfl (by decide) (by decide) (fun y59 M60 e61 hI62 => ?_)
        refine V_mmin dX11_apart_51 gw1461 gw793 gw101 gw794 (by decide) (Nat.le_of_ble_eq_true rfl) ?_
        refine V_istore (lv' := [(4, .int (if y59 < 14 then y59 else 14)), (0, .ref 130), (1, .int x1), (2, .int x2), (3, .int x3)]) dX11_apart_54 (by decide) rfl ?_
        refine V_iconst (v := 0) dX11_apart_56 rfl ?_
        refine V_istore (lv' := [(5, .int 0), (4, .int (if y59 < 14 then y59 else 14)), (0, .ref 130), (1, .int x1), (2, .int x2), (3, .int x3)]) dX11_apart_57 (by decide) rfl ?_
        refine V_sub [2, 3, 4, 5, 1, 0] rfl ?_
        exact vX11_apart_59 FU M60 x1 x2 x3 (if y59 < 14 then y59 else 14) 0 hI62
      · refine V_aload_n (k := 0) dX11_apart_38 rfl rfl ?_
        refine V_iconst (v := 2) dX11_apart_39 rfl ?_
        refine V_callVi (q := (RX11, TX11, 61)) (cls := 11) (st0 := []) (kc' := 0) (ks' := 0) dX11_apart_40 lk_X11_287 rfl (by decide) rfl rfl rfl (cX11_fail_ok M55 2 hI57) rfl rfl (by decide) (by decide) (Nat.le_of_ble_eq_true rfl) (Or.inl rfl) rfl rfl (by decide) (by decide) (fun y63 M64 e65 hI66 => ?_)
        exact V_ret (fun _ => hI66) (Or.inr (Or.inl ⟨rfl, _, rfl⟩)) dX11_apart_43 (fun ty x h1 h2 => by cases h1; rfl) rfl
    · refine V_sub [0] rfl ?_
      exact vX11_apart_22 M50 hI52
def fX11_mayNow_6 : Nat → vM → Int32 → Int32 → Int32 → Int32 → Option (vR × vM)
  | 0, _, _, _, _, _ => none
  | n9 + 1, M, x1, x2, x3, x4 => if v_in x1 12 = true then if ((12 * x1) + (M.1 138 (Int32.toNatClampNeg x1))) ≤ x4 then rI 1 M else if v_in x4 144 = true then if (M.1 144 (Int32.toNatClampNeg x4)) = x2 then if v_in x4 144 = true then if ((x3 >>> ((M.1 143 (Int32.toNatClampNeg x4)) &&& (31 : Int32))) &&& 1) = 0 then rI 0 M else fX11_mayNow_6 n9 M x1 x2 x3 (x4 + 1) else none else fX11_mayNow_6 n9 M x1 x2 x3 (x4 + 1) else none else none
set_option maxRecDepth 20000 in
set_option maxHeartbeats 2000000 in
theorem vX11_mayNow_6 {l : Launch} {D : va_G} {dA : Nat → ClassId} : ∀ (n9 : Nat) (M : vM) (x1 : Int32) (x2 : Int32) (x3 : Int32) (x4 : Int32), v_WT M.2.2 → V l D dA sX11_mayNow false 175 1 0 0 6 [(0, .ref 130), (1, .int x1), (2, .int x2), (3, .int x3), (4, .int x4)] [] 175 M (fX11_mayNow_6 n9 M x1 x2 x3 x4) := by
  intro n9
  induction n9 with
  | zero => intros; exact V_none
  | succ n9 ih =>
    intro M x1 x2 x3 x4 hI
    refine V_iload (k := 4) dX11_mayNow_6 rfl ?_
    refine V_bipush (v := 12) dX11_mayNow_8 rfl ?_
    refine V_iload_n (k := 1) dX11_mayNow_10 rfl rfl ?_
    refine V_imul dX11_mayNow_11 ?_
    refine V_aload_n (k := 0) dX11_mayNow_12 rfl rfl ?_
    refine V_getr (k := 138) dX11_mayNow_13 rfl (by decide) vf_X11_40 (by decide) (v_fin hI 125 rfl) ?_
    refine V_iload_n (k := 1) dX11_mayNow_16 rfl rfl ?_
    refine V_iald dX11_mayNow_17 rfl (by decide) (fun h7 => ?_)
    refine V_iadd dX11_mayNow_18 ?_
    refine V_icmpge (tgt := 55) dX11_mayNow_19 (by decide) (fun h8 => ?_) (fun h8 => ?_)
    · refine V_iconst (v := 1) dX11_mayNow_55 rfl ?_
      exact V_ret (fun _ => hI) (Or.inr (Or.inr (Or.inl ⟨rfl, _, rfl⟩))) dX11_mayNow_56 (fun ty x h1 h2 => by cases h1; cases h2; rfl) rfl
    · refine V_aload_n (k := 0) dX11_mayNow_22 rfl rfl ?_
      refine V_getr (k := 144) dX11_mayNow_23 rfl (by decide) vf_X11_58 (by decide) (v_fin hI 131 rfl) ?_
      refine V_iload (k := 4) dX11_mayNow_26 rfl ?_
      refine V_iald dX11_mayNow_28 rfl (by decide) (fun h9 => ?_)
      refine V_iload_n (k := 2) dX11_mayNow_29 rfl rfl ?_
      refine V_icmpne (tgt := 49) dX11_mayNow_30 (by decide) (fun h10 => ?_) (fun h10 => ?_)
      · refine V_iinc (k := 4) (v := x4 + 1) (lv' := [(4, .int (x4 + 1)), (0, .ref 130), (1, .int x1), (2, .int x2), (3, .int x3)]) dX11_mayNow_49 rfl rfl (by decide) rfl ?_
        refine V_goto (tgt := 6) dX11_mayNow_52 (by decide) ?_
        refine V_sub [1, 2, 3, 4, 0] rfl ?_
        exact ih M x1 x2 x3 (x4 + 1) hI
      · refine V_iload_n (k := 3) dX11_mayNow_33 rfl rfl ?_
        refine V_aload_n (k := 0) dX11_mayNow_34 rfl rfl ?_
        refine V_getr (k := 143) dX11_mayNow_35 rfl (by decide) vf_X11_55 (by decide) (v_fin hI 130 rfl) ?_
        refine V_iload (k := 4) dX11_mayNow_38 rfl ?_
        refine V_iald dX11_mayNow_40 rfl (by decide) (fun h11 => ?_)
        refine V_ishr dX11_mayNow_41 ?_
        refine V_iconst (v := 1) dX11_mayNow_42 rfl ?_
        refine V_iand dX11_mayNow_43 ?_
        refine V_ifne (tgt := 49) dX11_mayNow_44 (by decide) (fun h12 => ?_) (fun h12 => ?_)
        · refine V_iinc (k := 4) (v := x4 + 1) (lv' := [(4, .int (x4 + 1)), (0, .ref 130), (1, .int x1), (2, .int x2), (3, .int x3)]) dX11_mayNow_49 rfl rfl (by decide) rfl ?_
          refine V_goto (tgt := 6) dX11_mayNow_52 (by decide) ?_
          refine V_sub [1, 2, 3, 4, 0] rfl ?_
          exact ih M x1 x2 x3 (x4 + 1) hI
        · refine V_iconst (v := 0) dX11_mayNow_47 rfl ?_
          exact V_ret (fun _ => hI) (Or.inr (Or.inr (Or.inl ⟨rfl, _, rfl⟩))) dX11_mayNow_48 (fun ty x h1 h2 => by cases h1; cases h2; rfl) rfl
def fX11_mayNow (M : vM) (x1 : Int32) (x2 : Int32) (x3 : Int32) : Option (vR × vM) := fX11_mayNow_6 FU M x1 x2 x3 (12 * x1)
set_option maxRecDepth 20000 in
set_option maxHeartbeats 2000000 in
theorem cX11_mayNow_ok {l : Launch} {D : va_G} {dA : Nat → ClassId} (M : vM) (x1 : Int32) (x2 : Int32) (x3 : Int32) (hI : v_WT M.2.2) : Ct l D dA sX11_mayNow false 175 1 0 0 175 [.ref 130, .int x1, .int x2, .int x3] M (fX11_mayNow M x1 x2 x3) := by
  refine Ct_of (lv := [(0, .ref 130), (1, .int x1), (2, .int x2), (3, .int x3)]) (by decide +kernel) rfl (Nat.le_of_ble_eq_true rfl) rfl (fun h => by cases h) ?_
  refine V_bipush (v := 12) dX11_mayNow_0 rfl ?_
  refine V_iload_n (k := 1) dX11_mayNow_2 rfl rfl ?_
  refine V_imul dX11_mayNow_3 ?_
  refine V_istore (lv' := [(4, .int (12 * x1)), (0, .ref 130), (1, .int x1), (2, .int x2), (3, .int x3)]) dX11_mayNow_4 (by decide) rfl ?_
  refine V_sub [1, 2, 3, 4, 0] rfl ?_
  exact vX11_mayNow_6 FU M x1 x2 x3 (12 * x1) hI
def fX11_arrange_68 (self : vM → Int32 → Int32 → Int32 → Int32 → Int32 → Option (vR × vM)) (k23 : vM → Int32 → Int32 → Int32 → Int32 → Int32 → Int32 → Option (vR × vM)) : Nat → vM → Int32 → Int32 → Int32 → Int32 → Int32 → Int32 → Int32 → Int32 → Option (vR × vM)
  | 0, _, _, _, _, _, _, _, _, _ => none
  | n9 + 1, M, x1, x2, x3, x4, x5, x6, x7, x8 => if v_in x1 12 = true then if (M.1 136 (Int32.toNatClampNeg x1)) ≤ x8 then if v_in ((20 * x1) + x6) 240 = true then bv (self M x1 (x2 ||| (1 <<< (x6 &&& (31 : Int32)))) (x3 + 1) (x4 + ((M.1 141 (Int32.toNatClampNeg ((20 * x1) + x6))) * (x3 + 1))) x7) fun M14 => k23 M14 x1 x2 x3 x4 x5 (x6 + 1) else none else if ((x2 >>> (x8 &&& (31 : Int32))) &&& 1) = 0 then bi (fX11_couple M x6 x8) fun y18 M19 => fX11_arrange_68 self k23 n9 M19 x1 x2 x3 x4 x5 x6 (x7 ||| (1 <<< (y18 &&& (31 : Int32)))) (x8 + 1) else fX11_arrange_68 self k23 n9 M x1 x2 x3 x4 x5 x6 x7 (x8 + 1) else none
set_option maxRecDepth 20000 in
set_option maxHeartbeats 2000000 in
theorem vX11_arrange_68 {l : Launch} {D : va_G} {dA : Nat → ClassId} {dd : Nat} {self : vM → Int32 → Int32 → Int32 → Int32 → Int32 → Option (vR × vM)} (hself : ∀ (M : vM) (x1 : Int32) (x2 : Int32) (x3 : Int32) (x4 : Int32) (x5 : Int32), v_WT M.2.2 → Ct l D dA sX11_arrange false 175 (2 + dd) 0 0 175 [.ref 130, .int x1, .int x2, .int x3, .int x4, .int x5] M (self M x1 x2 x3 x4 x5)) {k23 : vM → Int32 → Int32 → Int32 → Int32 → Int32 → Int32 → Option (vR × vM)} (hk23 : ∀ (M : vM) (x1 : Int32) (x2 : Int32) (x3 : Int32) (x4 : Int32) (x5 : Int32) (x6 : Int32), v_WT M.2.2 → V l D dA sX11_arrange false 175 (2 + dd + 1) 0 0 23 [(0, .ref 130), (1, .int x1), (2, .int x2), (3, .int x3), (4, .int x4), (5, .int x5), (6, .int x6)] [] 175 M (k23 M x1 x2 x3 x4 x5 x6)) : ∀ (n9 : Nat) (M : vM) (x1 : Int32) (x2 : Int32) (x3 : Int32) (x4 : Int32) (x5 : Int32) (x6 : Int32) (x7 : Int32) (x8 : Int32), v_WT M.2.2 → V l D dA sX11_arrange false 175 (2 + dd + 1) 0 0 68 [(0, .ref 130), (1, .int x1), (2, .int x2), (3, .int x3), (4, .int x4), (5, .int x5), (6, .int x6), (7, .int x7), (8, .int x8)] [] 175 M (fX11_arrange_68 self k23 n9 M x1 x2 x3 x4 x5 x6 x7 x8) := by
  intro n9
  induction n9 with
  | zero => intros; exact V_none
  | succ n9 ih =>
    intro M x1 x2 x3 x4 x5 x6 x7 x8 hI
    refine V_iload (k := 8) dX11_arrange_68 rfl ?_
    refine V_aload_n (k := 0) dX11_arrange_70 rfl rfl ?_
    refine V_getr (k := 136) dX11_arrange_71 rfl (by decide) vf_X11_34 (by decide) (v_fin hI 123 rfl) ?_
    refine V_iload_n (k := 1) dX11_arrange_74 rfl rfl ?_
    refine V_iald dX11_arrange_75 rfl (by decide) (fun h11 => ?_)
    refine V_icmpge (tgt := 108) dX11_arrange_76 (by decide) (fun h12 => ?_) (fun h12 => ?_)
    · refine V_aload_n (k := 0) dX11_arrange_108 rfl rfl ?_
      refine V_iload_n (k := 1) dX11_arrange_109 rfl rfl ?_
      refine V_iload_n (k := 2) dX11_arrange_110 rfl rfl ?_
      refine V_iconst (v := 1) dX11_arrange_111 rfl ?_
      refine V_iload (k := 6) dX11_arrange_112 rfl ?_
      refine V_ishl dX11_arrange_114 ?_
      refine V_ior dX11_arrange_115 ?_
      refine V_iload_n (k := 3) dX11_arrange_116 rfl rfl ?_
      refine V_iconst (v := 1) dX11_arrange_117 rfl ?_
      refine V_iadd dX11_arrange_118 ?_
      refine V_iload (k := 4) dX11_arrange_119 rfl ?_
      refine V_aload_n (k := 0) dX11_arrange_121 rfl rfl ?_
      refine V_getr (k := 141) dX11_arrange_122 rfl (by decide) vf_X11_49 (by decide) (v_fin hI 128 rfl) ?_
      refine V_bipush (v := 20) dX11_arrange_125 rfl ?_
      refine V_iload_n (k := 1) dX11_arrange_127 rfl rfl ?_
      refine V_imul dX11_arrange_128 ?_
      refine V_iload (k := 6) dX11_arrange_129 rfl ?_
      refine V_iadd dX11_arrange_131 ?_
      refine V_iald dX11_arrange_132 rfl (by decide) (fun h13 => ?_)
      refine V_iload_n (k := 3) dX11_arrange_133 rfl rfl ?_
      refine V_iconst (v := 1) dX11_arrange_134 rfl ?_
      refine V_iadd dX11_arrange_135 ?_
      refine V_imul dX11_arrange_136 ?_
      refine V_iadd dX11_arrange_137 ?_
      refine V_iload (k := 7) dX11_arrange_138 rfl ?_
      refine V_callVv (q := (RX11, TX11, 61)) (cls := 11) (st0 := []) (kc' := 0) (ks' := 0) dX11_arrange_140 lk_X11_310 rfl (by decide) rfl rfl rfl (hself M x1 (x2 ||| (1 <<< (x6 &&& (31 : Int32)))) (x3 + 1) (x4 + ((M.1 141 (Int32.toNatClampNeg ((20 * x1) + x6))) * (x3 + 1))) x7 hI) rfl rfl (by omega) (by decide) (Nat.le_of_ble_eq_true rfl) (Or.inl rfl) rfl rfl (by decide) (by decide) (fun  M14 e15 hI16 => ?_)
      refine V_iinc (k := 6) (v := x6 + 1) (lv' := [(6, .int (x6 + 1)), (0, .ref 130), (1, .int x1), (2, .int x2), (3, .int x3), (4, .int x4), (5, .int x5), (7, .int x7), (8, .int x8)]) dX11_arrange_143 rfl rfl (by decide) rfl ?_
      refine V_goto (tgt := 23) dX11_arrange_146 (by decide) ?_
      refine V_sub [1, 2, 3, 4, 5, 6, 0] rfl ?_
      exact hk23 M14 x1 x2 x3 x4 x5 (x6 + 1) hI16
    · refine V_iload_n (k := 2) dX11_arrange_79 rfl rfl ?_
      refine V_iload (k := 8) dX11_arrange_80 rfl ?_
      refine V_ishr dX11_arrange_82 ?_
      refine V_iconst (v := 1) dX11_arrange_83 rfl ?_
      refine V_iand dX11_arrange_84 ?_
      refine V_ifne (tgt := 102) dX11_arrange_85 (by decide) (fun h17 => ?_) (fun h17 => ?_)
      · refine V_iinc (k := 8) (v := x8 + 1) (lv' := [(8, .int (x8 + 1)), (0, .ref 130), (1, .int x1), (2, .int x2), (3, .int x3), (4, .int x4), (5, .int x5), (6, .int x6), (7, .int x7)]) dX11_arrange_102 rfl rfl (by decide) rfl ?_
        refine V_goto (tgt := 68) dX11_arrange_105 (by decide) ?_
        refine V_sub [1, 2, 3, 4, 5, 6, 7, 8, 0] rfl ?_
        exact ih M x1 x2 x3 x4 x5 x6 x7 (x8 + 1) hI
      · refine V_iload (k := 7) dX11_arrange_88 rfl ?_
        refine V_iconst (v := 1) dX11_arrange_90 rfl ?_
        refine V_iload (k := 6) dX11_arrange_91 rfl ?_
        refine V_iload (k := 8) dX11_arrange_93 rfl ?_
        refine V_callSi (st0 := [.int 1, .int x7]) (kc' := 0) (ks' := 0) dX11_arrange_95 lk_X11_330 rfl (cX11_couple_ok M x6 x8 hI) rfl rfl (by omega) (by decide) (Nat.le_of_ble_eq_true rfl) (Or.inl rfl) rfl rfl (by decide) (by decide) (fun y18 M19 e20 hI21 => ?_)
        refine V_ishl dX11_arrange_98 ?_
        refine V_ior dX11_arrange_99 ?_
        refine V_istore (lv' := [(7, .int (x7 ||| (1 <<< (y18 &&& (31 : Int32))))), (0, .ref 130), (1, .int x1), (2, .int x2), (3, .int x3), (4, .int x4), (5, .int x5), (6, .int x6), (8, .int x8)]) dX11_arrange_100 (by decide) rfl ?_
        refine V_iinc (k := 8) (v := x8 + 1) (lv' := [(8, .int (x8 + 1)), (7, .int (x7 ||| (1 <<< (y18 &&& (31 : Int32))))), (0, .ref 130), (1, .int x1), (2, .int x2), (3, .int x3), (4, .int x4), (5, .int x5), (6, .int x6)]) dX11_arrange_102 rfl rfl (by decide) rfl ?_
        refine V_goto (tgt := 68) dX11_arrange_105 (by decide) ?_
        refine V_sub [2, 3, 4, 5, 6, 7, 8, 1, 0] rfl ?_
        exact ih M19 x1 x2 x3 x4 x5 x6 (x7 ||| (1 <<< (y18 &&& (31 : Int32)))) (x8 + 1) hI21
def fX11_arrange_23 (self : vM → Int32 → Int32 → Int32 → Int32 → Int32 → Option (vR × vM)) : Nat → vM → Int32 → Int32 → Int32 → Int32 → Int32 → Int32 → Option (vR × vM)
  | 0, _, _, _, _, _, _, _ => none
  | n9 + 1, M, x1, x2, x3, x4, x5, x6 => if v_in x1 12 = true then if (M.1 136 (Int32.toNatClampNeg x1)) ≤ x6 then rV M else if ((x2 >>> (x6 &&& (31 : Int32))) &&& 1) = 1 then fX11_arrange_23 self n9 M x1 x2 x3 x4 x5 (x6 + 1) else bi (fX11_mayNow M x1 x6 x2) fun y25 M26 => if y25 = 0 then fX11_arrange_23 self n9 M26 x1 x2 x3 x4 x5 (x6 + 1) else fX11_arrange_68 self (fX11_arrange_23 self n9) FU M26 x1 x2 x3 x4 x5 x6 x5 (x6 + 1) else none
set_option maxRecDepth 20000 in
set_option maxHeartbeats 2000000 in
theorem vX11_arrange_23 {l : Launch} {D : va_G} {dA : Nat → ClassId} {dd : Nat} {self : vM → Int32 → Int32 → Int32 → Int32 → Int32 → Option (vR × vM)} (hself : ∀ (M : vM) (x1 : Int32) (x2 : Int32) (x3 : Int32) (x4 : Int32) (x5 : Int32), v_WT M.2.2 → Ct l D dA sX11_arrange false 175 (2 + dd) 0 0 175 [.ref 130, .int x1, .int x2, .int x3, .int x4, .int x5] M (self M x1 x2 x3 x4 x5)) : ∀ (n9 : Nat) (M : vM) (x1 : Int32) (x2 : Int32) (x3 : Int32) (x4 : Int32) (x5 : Int32) (x6 : Int32), v_WT M.2.2 → V l D dA sX11_arrange false 175 (2 + dd + 1) 0 0 23 [(0, .ref 130), (1, .int x1), (2, .int x2), (3, .int x3), (4, .int x4), (5, .int x5), (6, .int x6)] [] 175 M (fX11_arrange_23 self n9 M x1 x2 x3 x4 x5 x6) := by
  intro n9
  induction n9 with
  | zero => intros; exact V_none
  | succ n9 ih =>
    intro M x1 x2 x3 x4 x5 x6 hI
    refine V_iload (k := 6) dX11_arrange_23 rfl ?_
    refine V_aload_n (k := 0) dX11_arrange_25 rfl rfl ?_
    refine V_getr (k := 136) dX11_arrange_26 rfl (by decide) vf_X11_34 (by decide) (v_fin hI 123 rfl) ?_
    refine V_iload_n (k := 1) dX11_arrange_29 rfl rfl ?_
    refine V_iald dX11_arrange_30 rfl (by decide) (fun h22 => ?_)
    refine V_icmpge (tgt := 149) dX11_arrange_31 (by decide) (fun h23 => ?_) (fun h23 => ?_)
    · exact V_ret (fun _ => hI) (Or.inl ⟨rfl, rfl⟩) dX11_arrange_149 (fun ty x h1 h2 => by cases h1) rfl
    · refine V_iload_n (k := 2) dX11_arrange_34 rfl rfl ?_
      refine V_iload (k := 6) dX11_arrange_35 rfl ?_
      refine V_ishr dX11_arrange_37 ?_
      refine V_iconst (v := 1) dX11_arrange_38 rfl ?_
      refine V_iand dX11_arrange_39 ?_
      refine V_iconst (v := 1) dX11_arrange_40 rfl ?_
      refine V_icmpeq (tgt := 143) dX11_arrange_41 (by decide) (fun h24 => ?_) (fun h24 => ?_)
      · refine V_iinc (k := 6) (v := x6 + 1) (lv' := [(6, .int (x6 + 1)), (0, .ref 130), (1, .int x1), (2, .int x2), (3, .int x3), (4, .int x4), (5, .int x5)]) dX11_arrange_143 rfl rfl (by decide) rfl ?_
        refine V_goto (tgt := 23) dX11_arrange_146 (by decide) ?_
        refine V_sub [1, 2, 3, 4, 5, 6, 0] rfl ?_
        exact ih M x1 x2 x3 x4 x5 (x6 + 1) hI
      · refine V_aload_n (k := 0) dX11_arrange_44 rfl rfl ?_
        refine V_iload_n (k := 1) dX11_arrange_45 rfl rfl ?_
        refine V_iload (k := 6) dX11_arrange_46 rfl ?_
        refine V_iload_n (k := 2) dX11_arrange_48 rfl rfl ?_
        refine V_callVi (q := (RX11, TX11, 61)) (cls := 11) (st0 := []) (kc' := 0) (ks' := 0) dX11_arrange_49 lk_X11_327 rfl (by decide) rfl rfl rfl (cX11_mayNow_ok M x1 x6 x2 hI) rfl rfl (by omega) (by decide) (Nat.le_of_ble_eq_true rfl) (Or.inl rfl) rfl rfl (by decide) (by decide) (fun y25 M26 e27 hI28 => ?_)
        refine V_ifne (tgt := 58) dX11_arrange_52 (by decide) (fun h29 => ?_) (fun h29 => ?_)
        · refine V_iload (k := 5) dX11_arrange_58 rfl ?_
          refine V_istore (lv' := [(7, .int x5), (0, .ref 130), (1, .int x1), (2, .int x2), (3, .int x3), (4, .int x4), (5, .int x5), (6, .int x6)]) dX11_arrange_60 (by decide) rfl ?_
          refine V_iload (k := 7) dX11_arrange_62 rfl ?_
          refine V_iconst (v := 1) dX11_arrange_64 rfl ?_
          refine V_iadd dX11_arrange_65 ?_
          refine V_istore (lv' := [(8, .int (x6 + 1)), (7, .int x5), (0, .ref 130), (1, .int x1), (2, .int x2), (3, .int x3), (4, .int x4), (5, .int x5), (6, .int x6)]) dX11_arrange_66 (by decide) rfl ?_
          refine V_sub [2, 3, 4, 5, 6, 7, 8, 1, 0] rfl ?_
          exact vX11_arrange_68 hself (ih) FU M26 x1 x2 x3 x4 x5 x6 x5 (x6 + 1) hI28
        · refine V_goto (tgt := 143) dX11_arrange_55 (by decide) ?_
          refine V_iinc (k := 6) (v := x6 + 1) (lv' := [(6, .int (x6 + 1)), (0, .ref 130), (1, .int x1), (2, .int x2), (3, .int x3), (4, .int x4), (5, .int x5)]) dX11_arrange_143 rfl rfl (by decide) rfl ?_
          refine V_goto (tgt := 23) dX11_arrange_146 (by decide) ?_
          refine V_sub [1, 2, 3, 4, 5, 6, 0] rfl ?_
          exact ih M26 x1 x2 x3 x4 x5 (x6 + 1) hI28
def fX11_arrange_b (self : vM → Int32 → Int32 → Int32 → Int32 → Int32 → Option (vR × vM)) (M : vM) (x1 : Int32) (x2 : Int32) (x3 : Int32) (x4 : Int32) (x5 : Int32) : Option (vR × vM) := if v_in x1 12 = true then if x3 = (M.1 136 (Int32.toNatClampNeg x1)) then bv (fX11_addWay M x1 x4 x5) fun M32 => rV M32 else fX11_arrange_23 self FU M x1 x2 x3 x4 x5 0 else none
def fX11_arrange_r : Nat → vM → Int32 → Int32 → Int32 → Int32 → Int32 → Option (vR × vM)
  | 0, _, _, _, _, _, _ => none
  | d9 + 1, M, x1, x2, x3, x4, x5 => fX11_arrange_b (fX11_arrange_r d9) M x1 x2 x3 x4 x5
def fX11_arrange (M : vM) (x1 : Int32) (x2 : Int32) (x3 : Int32) (x4 : Int32) (x5 : Int32) : Option (vR × vM) := fX11_arrange_r 8 M x1 x2 x3 x4 x5
set_option maxRecDepth 20000 in
set_option maxHeartbeats 2000000 in
theorem cX11_arrange_b {l : Launch} {D : va_G} {dA : Nat → ClassId} {dd : Nat} {self : vM → Int32 → Int32 → Int32 → Int32 → Int32 → Option (vR × vM)} (hself : ∀ (M : vM) (x1 : Int32) (x2 : Int32) (x3 : Int32) (x4 : Int32) (x5 : Int32), v_WT M.2.2 → Ct l D dA sX11_arrange false 175 (2 + dd) 0 0 175 [.ref 130, .int x1, .int x2, .int x3, .int x4, .int x5] M (self M x1 x2 x3 x4 x5)) (M : vM) (x1 : Int32) (x2 : Int32) (x3 : Int32) (x4 : Int32) (x5 : Int32) (hI : v_WT M.2.2) : Ct l D dA sX11_arrange false 175 (2 + dd + 1) 0 0 175 [.ref 130, .int x1, .int x2, .int x3, .int x4, .int x5] M (fX11_arrange_b self M x1 x2 x3 x4 x5) := by
  refine Ct_of (lv := [(0, .ref 130), (1, .int x1), (2, .int x2), (3, .int x3), (4, .int x4), (5, .int x5)]) (by decide +kernel) rfl (Nat.le_of_ble_eq_true rfl) rfl (fun h => by cases h) ?_
  refine V_iload_n (k := 3) dX11_arrange_0 rfl rfl ?_
  refine V_aload_n (k := 0) dX11_arrange_1 rfl rfl ?_
  refine V_getr (k := 136) dX11_arrange_2 rfl (by decide) vf_X11_34 (by decide) (v_fin hI 123 rfl) ?_
  refine V_iload_n (k := 1) dX11_arrange_5 rfl rfl ?_
  refine V_iald dX11_arrange_6 rfl (by decide) (fun h30 => ?_)
  refine V_icmpne (tgt := 20) dX11_arrange_7 (by decide) (fun h31 => ?_) (fun h31 => ?_)
  · refine V_iconst (v := 0) dX11_arrange_20 rfl ?_
    refine V_istore (lv' := [(6, .int 0), (0, .ref 130), (1, .int x1), (2, .int x2), (3, .int x3), (4, .int x4), (5, .int x5)]) dX11_arrange_21 (by decide) rfl ?_
    refine V_sub [1, 2, 3, 4, 5, 6, 0] rfl ?_
    exact vX11_arrange_23 hself FU M x1 x2 x3 x4 x5 0 hI
  · refine V_aload_n (k := 0) dX11_arrange_10 rfl rfl ?_
    refine V_iload_n (k := 1) dX11_arrange_11 rfl rfl ?_
    refine V_iload (k := 4) dX11_arrange_12 rfl ?_
    refine V_iload (k := 5) dX11_arrange_14 rfl ?_
    refine V_callVv (q := (RX11, TX11, 61)) (cls := 11) (st0 := []) (kc' := 0) (ks' := 0) dX11_arrange_16 lk_X11_320 rfl (by decide) rfl rfl rfl (cX11_addWay_ok M x1 x4 x5 hI) rfl rfl (by omega) (by decide) (Nat.le_of_ble_eq_true rfl) (Or.inl rfl) rfl rfl (by decide) (by decide) (fun  M32 e33 hI34 => ?_)
    exact V_ret (fun _ => hI34) (Or.inl ⟨rfl, rfl⟩) dX11_arrange_19 (fun ty x h1 h2 => by cases h1) rfl
theorem cX11_arrange_r {l : Launch} {D : va_G} {dA : Nat → ClassId} : ∀ (d9 : Nat) (M : vM) (x1 : Int32) (x2 : Int32) (x3 : Int32) (x4 : Int32) (x5 : Int32), v_WT M.2.2 → Ct l D dA sX11_arrange false 175 (2 + d9) 0 0 175 [.ref 130, .int x1, .int x2, .int x3, .int x4, .int x5] M (fX11_arrange_r d9 M x1 x2 x3 x4 x5) := by
  intro d9
  induction d9 with
  | zero => intros; intro r M9 h; cases h
  | succ d9 ih => exact fun M x1 x2 x3 x4 x5 hI => cX11_arrange_b (dd := d9) ih M x1 x2 x3 x4 x5 hI
theorem cX11_arrange_ok {l : Launch} {D : va_G} {dA : Nat → ClassId} (M : vM) (x1 : Int32) (x2 : Int32) (x3 : Int32) (x4 : Int32) (x5 : Int32) (hI : v_WT M.2.2) : Ct l D dA sX11_arrange false 175 10 0 0 175 [.ref 130, .int x1, .int x2, .int x3, .int x4, .int x5] M (fX11_arrange M x1 x2 x3 x4 x5) := cX11_arrange_r 8 M x1 x2 x3 x4 x5 hI
def fX11_be_2 : Nat → vM → Nat → Nat → Int32 → Option (vR × vM)
  | 0, _, _, _, _ => none
  | n9 + 1, M, x0, x1, x2 => if (nI ((v_LAY x0).2.2)) ≤ x2 then rV M else if v_in x2 (v_LAY x1).2.2 = true then if v_in x2 (v_LAY x0).2.2 = true then fX11_be_2 n9 (v_si M x0 (Int32.toNatClampNeg x2) (M.1 x1 (Int32.toNatClampNeg x2))) x0 x1 (x2 + 1) else none else none
set_option maxRecDepth 20000 in
set_option maxHeartbeats 2000000 in
theorem vX11_be_2 {l : Launch} {D : va_G} {dA : Nat → ClassId} : ∀ (n9 : Nat) (M : vM) (x0 : Nat) (x1 : Nat) (x2 : Int32) (f0 : v_isA 0 x0) (f1 : v_isA 0 x1), v_WT M.2.2 → V l D dA sX11_be false 175 1 0 0 2 [(0, .ref x0), (1, .ref x1), (2, .int x2)] [] 175 M (fX11_be_2 n9 M x0 x1 x2) := by
  intro n9
  induction n9 with
  | zero => intros; exact V_none
  | succ n9 ih =>
    intro M x0 x1 x2 f0 f1 hI
    refine V_iload_n (k := 2) dX11_be_2 rfl rfl ?_
    refine V_aload_n (k := 0) dX11_be_3 rfl rfl ?_
    refine V_alen dX11_be_4 f0.2 f0.1 (by decide) ?_
    refine V_icmpge (tgt := 20) dX11_be_5 (by decide) (fun h4 => ?_) (fun h4 => ?_)
    · exact V_ret (fun _ => hI) (Or.inl ⟨rfl, rfl⟩) dX11_be_20 (fun ty x h1 h2 => by cases h1) rfl
    · refine V_aload_n (k := 0) dX11_be_8 rfl rfl ?_
      refine V_iload_n (k := 2) dX11_be_9 rfl rfl ?_
      refine V_aload_n (k := 1) dX11_be_10 rfl rfl ?_
      refine V_iload_n (k := 2) dX11_be_11 rfl rfl ?_
      refine V_iald dX11_be_12 f1.2 f1.1 (fun h5 => ?_)
      refine V_iast dX11_be_13 f0.2 f0.1 (fun h6 => ?_)
      refine V_iinc (k := 2) (v := x2 + 1) (lv' := [(2, .int (x2 + 1)), (0, .ref x0), (1, .ref x1)]) dX11_be_14 rfl rfl (by decide) rfl ?_
      refine V_goto (tgt := 2) dX11_be_17 (by decide) ?_
      refine V_sub [1, 2, 0] rfl ?_
      exact ih (v_si M x0 (Int32.toNatClampNeg x2) (M.1 x1 (Int32.toNatClampNeg x2))) x0 x1 (x2 + 1) f0 f1 hI
def fX11_be (M : vM) (x0 : Nat) (x1 : Nat) : Option (vR × vM) := fX11_be_2 FU M x0 x1 0
set_option maxRecDepth 20000 in
set_option maxHeartbeats 2000000 in
theorem cX11_be_ok {l : Launch} {D : va_G} {dA : Nat → ClassId} (M : vM) (x0 : Nat) (x1 : Nat) (f0 : v_isA 0 x0) (f1 : v_isA 0 x1) (hI : v_WT M.2.2) : Ct l D dA sX11_be false 175 1 0 0 175 [.ref x0, .ref x1] M (fX11_be M x0 x1) := by
  refine Ct_of (lv := [(0, .ref x0), (1, .ref x1)]) (by decide +kernel) rfl (Nat.le_of_ble_eq_true rfl) rfl (fun h => by cases h) ?_
  refine V_iconst (v := 0) dX11_be_0 rfl ?_
  refine V_istore_n (lv' := [(2, .int 0), (0, .ref x0), (1, .ref x1)]) dX11_be_1 rfl (by decide) rfl ?_
  refine V_sub [1, 2, 0] rfl ?_
  exact vX11_be_2 FU M x0 x1 0 f0 f1 hI
def fX11_book_28 (M : vM) : Option (vR × vM) := bi (fX11_fail M 1) fun y7 M8 => rI y7 M8
set_option maxRecDepth 20000 in
set_option maxHeartbeats 2000000 in
theorem vX11_book_28 {l : Launch} {D : va_G} {dA : Nat → ClassId} : ∀ (M : vM), v_WT M.2.2 → V l D dA sX11_book false 175 2 0 0 28 [(0, .ref 130)] [] 175 M (fX11_book_28 M) := by
  intro M hI
  refine V_aload_n (k := 0) dX11_book_28 rfl rfl ?_
  refine V_iconst (v := 1) dX11_book_29 rfl ?_
  refine V_callVi (q := (RX11, TX11, 61)) (cls := 11) (st0 := []) (kc' := 0) (ks' := 0) dX11_book_30 lk_X11_287 rfl (by decide) rfl rfl rfl (cX11_fail_ok M 1 hI) rfl rfl (by decide) (by decide) (Nat.le_of_ble_eq_true rfl) (Or.inl rfl) rfl rfl (by decide) (by decide) (fun y7 M8 e9 hI10 => ?_)
  exact V_ret (fun _ => hI10) (Or.inr (Or.inl ⟨rfl, _, rfl⟩)) dX11_book_33 (fun ty x h1 h2 => by cases h1; rfl) rfl
def fX11_book (M : vM) (x1 : Int32) (x2 : Int32) : Option (vR × vM) := bi (fX11_isIn (v_si M 130 1 0) x1 0 (((v_si M 130 1 0).1 130 21) - 1)) fun y11 M12 => if y11 = 0 then fX11_book_28 M12 else if x2 < 0 then fX11_book_28 M12 else if x2 ≤ 1 then if x2 = 0 then if v_in x1 400 = true then rI (M12.1 149 (Int32.toNatClampNeg x1)) M12 else none else if v_in x1 400 = true then rI (M12.1 150 (Int32.toNatClampNeg x1)) M12 else none else fX11_book_28 M12
set_option maxRecDepth 20000 in
set_option maxHeartbeats 2000000 in
theorem cX11_book_ok {l : Launch} {D : va_G} {dA : Nat → ClassId} (M : vM) (x1 : Int32) (x2 : Int32) (hI : v_WT M.2.2) : Ct l D dA sX11_book false 175 2 0 0 175 [.ref 130, .int x1, .int x2] M (fX11_book M x1 x2) := by
  refine Ct_of (lv := [(0, .ref 130), (1, .int x1), (2, .int x2)]) (by decide +kernel) rfl (Nat.le_of_ble_eq_true rfl) rfl (fun h => by cases h) ?_
  refine V_aload_n (k := 0) dX11_book_0 rfl rfl ?_
  refine V_iconst (v := 0) dX11_book_1 rfl ?_
  refine V_puti dX11_book_2 rfl (by decide) vf_X11_154 (by decide) rfl rfl ?_
  refine V_iload_n (k := 1) dX11_book_5 rfl rfl ?_
  refine V_iconst (v := 0) dX11_book_6 rfl ?_
  refine V_aload_n (k := 0) dX11_book_7 rfl rfl ?_
  refine V_geti dX11_book_8 rfl (by decide) vf_X11_293 (by decide) ?_
  refine V_iconst (v := 1) dX11_book_11 rfl ?_
  refine V_isub dX11_book_12 ?_
  refine V_callSi (st0 := []) (kc' := 0) (ks' := 0) dX11_book_13 lk_X11_160 rfl (cX11_isIn_ok (v_si M 130 1 0) x1 0 (((v_si M 130 1 0).1 130 21) - 1) hI) rfl rfl (by decide) (by decide) (Nat.le_of_ble_eq_true rfl) (Or.inl rfl) rfl rfl (by decide) (by decide) (fun y11 M12 e13 hI14 => ?_)
  refine V_ifeq (tgt := 28) dX11_book_16 (by decide) (fun h15 => ?_) (fun h15 => ?_)
  · refine V_sub [0] rfl ?_
    exact vX11_book_28 M12 hI14
  · refine V_iload_n (k := 2) dX11_book_19 rfl rfl ?_
    refine V_iflt (tgt := 28) dX11_book_20 (by decide) (fun h16 => ?_) (fun h16 => ?_)
    · refine V_sub [0] rfl ?_
      exact vX11_book_28 M12 hI14
    · refine V_iload_n (k := 2) dX11_book_23 rfl rfl ?_
      refine V_iconst (v := 1) dX11_book_24 rfl ?_
      refine V_icmple (tgt := 34) dX11_book_25 (by decide) (fun h17 => ?_) (fun h17 => ?_)
      · refine V_iload_n (k := 2) dX11_book_34 rfl rfl ?_
        refine V_ifne (tgt := 47) dX11_book_35 (by decide) (fun h18 => ?_) (fun h18 => ?_)
        · refine V_aload_n (k := 0) dX11_book_47 rfl rfl ?_
          refine V_getr (k := 150) dX11_book_48 rfl (by decide) vf_X11_77 (by decide) (v_fin hI14 137 rfl) ?_
          refine V_iload_n (k := 1) dX11_book_51 rfl rfl ?_
          refine V_iald dX11_book_52 rfl (by decide) (fun h19 => ?_)
          exact V_ret (fun _ => hI14) (Or.inr (Or.inl ⟨rfl, _, rfl⟩)) dX11_book_53 (fun ty x h1 h2 => by cases h1; rfl) rfl
        · refine V_aload_n (k := 0) dX11_book_38 rfl rfl ?_
          refine V_getr (k := 149) dX11_book_39 rfl (by decide) vf_X11_74 (by decide) (v_fin hI14 136 rfl) ?_
          refine V_iload_n (k := 1) dX11_book_42 rfl rfl ?_
          refine V_iald dX11_book_43 rfl (by decide) (fun h20 => ?_)
          refine V_goto (tgt := 53) dX11_book_44 (by decide) ?_
          exact V_ret (fun _ => hI14) (Or.inr (Or.inl ⟨rfl, _, rfl⟩)) dX11_book_53 (fun ty x h1 h2 => by cases h1; rfl) rfl
      · refine V_sub [0] rfl ?_
        exact vX11_book_28 M12 hI14
def fX11_byteAt (M : vM) (x1 : Int32) : Option (vR × vM) := if (M.1 130 33) ≤ x1 then rI ((-1)) M else if v_in x1 700 = true then rI (M.1 157 (Int32.toNatClampNeg x1)) M else none
set_option maxRecDepth 20000 in
set_option maxHeartbeats 2000000 in
theorem cX11_byteAt_ok {l : Launch} {D : va_G} {dA : Nat → ClassId} (M : vM) (x1 : Int32) (hI : v_WT M.2.2) : Ct l D dA sX11_byteAt false 175 1 0 0 175 [.ref 130, .int x1] M (fX11_byteAt M x1) := by
  refine Ct_of (lv := [(0, .ref 130), (1, .int x1)]) (by decide +kernel) rfl (Nat.le_of_ble_eq_true rfl) rfl (fun h => by cases h) ?_
  refine V_iload_n (k := 1) dX11_byteAt_0 rfl rfl ?_
  refine V_aload_n (k := 0) dX11_byteAt_1 rfl rfl ?_
  refine V_geti dX11_byteAt_2 rfl (by decide) vf_X11_171 (by decide) ?_
  refine V_icmpge (tgt := 17) dX11_byteAt_5 (by decide) (fun h3 => ?_) (fun h3 => ?_)
  · refine V_iconst (v := (-1)) dX11_byteAt_17 rfl ?_
    exact V_ret (fun _ => hI) (Or.inr (Or.inl ⟨rfl, _, rfl⟩)) dX11_byteAt_18 (fun ty x h1 h2 => by cases h1; rfl) rfl
  · refine V_aload_n (k := 0) dX11_byteAt_8 rfl rfl ?_
    refine V_getr (k := 157) dX11_byteAt_9 rfl (by decide) vf_X11_98 (by decide) (v_fin hI 144 rfl) ?_
    refine V_iload_n (k := 1) dX11_byteAt_12 rfl rfl ?_
    refine V_iald dX11_byteAt_13 rfl (by decide) (fun h4 => ?_)
    refine V_goto (tgt := 18) dX11_byteAt_14 (by decide) ?_
    exact V_ret (fun _ => hI) (Or.inr (Or.inl ⟨rfl, _, rfl⟩)) dX11_byteAt_18 (fun ty x h1 h2 => by cases h1; rfl) rfl
def fX11_spend_24 : Nat → vM → Int32 → Int32 → Nat → Int32 → Int32 → Int32 → Option (vR × vM)
  | 0, _, _, _, _, _, _, _ => none
  | n9 + 1, M, x1, x2, x3, x4, x5, x6 => if v_in x1 6 = true then if (M.1 145 (Int32.toNatClampNeg x1)) ≤ x6 then rV M else bi (fX11_markOf M x1 x6) fun y11 M12 => bi (fX11_markOf M12 x1 x2) fun y15 M16 => if v_in x1 12 = true then if v_in x1 12 = true then bi (fX11_areSame M16 y11 y15 (M16.1 134 (Int32.toNatClampNeg x1)) x5 (M16.1 135 (Int32.toNatClampNeg x1))) fun y21 M22 => if y21 = 0 then fX11_spend_24 n9 M22 x1 x2 x3 x4 x5 (x6 + 1) else if v_in (x4 + x6) (v_LAY x3).2.2 = true then fX11_spend_24 n9 (v_si M22 x3 (Int32.toNatClampNeg (x4 + x6)) (v_nz 1)) x1 x2 x3 x4 x5 (x6 + 1) else none else none else none else none
set_option maxRecDepth 20000 in
set_option maxHeartbeats 2000000 in
theorem vX11_spend_24 {l : Launch} {D : va_G} {dA : Nat → ClassId} : ∀ (n9 : Nat) (M : vM) (x1 : Int32) (x2 : Int32) (x3 : Nat) (x4 : Int32) (x5 : Int32) (x6 : Int32) (f3 : v_isA 3 x3), v_WT M.2.2 → V l D dA sX11_spend false 175 3 0 0 24 [(0, .ref 130), (1, .int x1), (2, .int x2), (3, .ref x3), (4, .int x4), (5, .int x5), (6, .int x6)] [] 175 M (fX11_spend_24 n9 M x1 x2 x3 x4 x5 x6) := by
  intro n9
  induction n9 with
  | zero => intros; exact V_none
  | succ n9 ih =>
    intro M x1 x2 x3 x4 x5 x6 f3 hI
    refine V_iload (k := 6) dX11_spend_24 rfl ?_
    refine V_aload_n (k := 0) dX11_spend_26 rfl rfl ?_
    refine V_getr (k := 145) dX11_spend_27 rfl (by decide) vf_X11_61 (by decide) (v_fin hI 132 rfl) ?_
    refine V_iload_n (k := 1) dX11_spend_30 rfl rfl ?_
    refine V_iald dX11_spend_31 rfl (by decide) (fun h9 => ?_)
    refine V_icmpge (tgt := 82) dX11_spend_32 (by decide) (fun h10 => ?_) (fun h10 => ?_)
    · exact V_ret (fun _ => hI) (Or.inl ⟨rfl, rfl⟩) dX11_spend_82 (fun ty x h1 h2 => by cases h1) rfl
    · refine V_aload_n (k := 0) dX11_spend_35 rfl rfl ?_
      refine V_iload_n (k := 1) dX11_spend_36 rfl rfl ?_
      refine V_iload (k := 6) dX11_spend_37 rfl ?_
      refine V_callVi (q := (RX11, TX11, 61)) (cls := 11) (st0 := []) (kc' := 0) (ks' := 0) dX11_spend_39 lk_X11_349 rfl (by decide) rfl rfl rfl (cX11_markOf_ok M x1 x6 hI) rfl rfl (by decide) (by decide) (Nat.le_of_ble_eq_true rfl) (Or.inl rfl) rfl rfl (by decide) (by decide) (fun y11 M12 e13 hI14 => ?_)
      refine V_aload_n (k := 0) dX11_spend_42 rfl rfl ?_
      refine V_iload_n (k := 1) dX11_spend_43 rfl rfl ?_
      refine V_iload_n (k := 2) dX11_spend_44 rfl rfl ?_
      refine V_callVi (q := (RX11, TX11, 61)) (cls := 11) (st0 := [.int y11]) (kc' := 0) (ks' := 0) dX11_spend_45 lk_X11_349 rfl (by decide) rfl rfl rfl (cX11_markOf_ok M12 x1 x2 hI14) rfl rfl (by decide) (by decide) (Nat.le_of_ble_eq_true rfl) (Or.inl rfl) rfl rfl (by decide) (by decide) (fun y15 M16 e17 hI18 => ?_)
      refine V_aload_n (k := 0) dX11_spend_48 rfl rfl ?_
      refine V_getr (k := 134) dX11_spend_49 rfl (by decide) vf_X11_28 (by decide) (v_fin hI18 121 rfl) ?_
      refine V_iload_n (k := 1) dX11_spend_52 rfl rfl ?_
      refine V_iald dX11_spend_53 rfl (by decide) (fun h19 => ?_)
      refine V_iload (k := 5) dX11_spend_54 rfl ?_
      refine V_aload_n (k := 0) dX11_spend_56 rfl rfl ?_
      refine V_getr (k := 135) dX11_spend_57 rfl (by decide) vf_X11_31 (by decide) (v_fin hI18 122 rfl) ?_
      refine V_iload_n (k := 1) dX11_spend_60 rfl rfl ?_
      refine V_iald dX11_spend_61 rfl (by decide) (fun h20 => ?_)
      refine V_callSi (st0 := []) (kc' := 0) (ks' := 0) dX11_spend_62 lk_X11_345 rfl (cX11_areSame_ok M16 y11 y15 (M16.1 134 (Int32.toNatClampNeg x1)) x5 (M16.1 135 (Int32.toNatClampNeg x1)) hI18) rfl rfl (by decide) (by decide) (Nat.le_of_ble_eq_true rfl) (Or.inl rfl) rfl rfl (by decide) (by decide) (fun y21 M22 e23 hI24 => ?_)
      refine V_ifeq (tgt := 76) dX11_spend_65 (by decide) (fun h25 => ?_) (fun h25 => ?_)
      · refine V_iinc (k := 6) (v := x6 + 1) (lv' := [(6, .int (x6 + 1)), (0, .ref 130), (1, .int x1), (2, .int x2), (3, .ref x3), (4, .int x4), (5, .int x5)]) dX11_spend_76 rfl rfl (by decide) rfl ?_
        refine V_goto (tgt := 24) dX11_spend_79 (by decide) ?_
        refine V_sub [1, 2, 3, 4, 5, 6, 0] rfl ?_
        exact ih M22 x1 x2 x3 x4 x5 (x6 + 1) f3 hI24
      · refine V_aload_n (k := 3) dX11_spend_68 rfl rfl ?_
        refine V_iload (k := 4) dX11_spend_69 rfl ?_
        refine V_iload (k := 6) dX11_spend_71 rfl ?_
        refine V_iadd dX11_spend_73 ?_
        refine V_iconst (v := 1) dX11_spend_74 rfl ?_
        refine V_zast dX11_spend_75 f3.2 f3.1 (fun h26 => ?_)
        refine V_iinc (k := 6) (v := x6 + 1) (lv' := [(6, .int (x6 + 1)), (0, .ref 130), (1, .int x1), (2, .int x2), (3, .ref x3), (4, .int x4), (5, .int x5)]) dX11_spend_76 rfl rfl (by decide) rfl ?_
        refine V_goto (tgt := 24) dX11_spend_79 (by decide) ?_
        refine V_sub [1, 2, 3, 4, 5, 6, 0] rfl ?_
        exact ih (v_si M22 x3 (Int32.toNatClampNeg (x4 + x6)) (v_nz 1)) x1 x2 x3 x4 x5 (x6 + 1) f3 hI24
def fX11_spend (M : vM) (x1 : Int32) (x2 : Int32) (x3 : Nat) (x4 : Int32) : Option (vR × vM) := if v_in x1 12 = true then if (M.1 134 (Int32.toNatClampNeg x1)) = 1 then bi (fX11_freeBits M x1) fun y29 M30 => fX11_spend_24 FU M30 x1 x2 x3 x4 y29 0 else fX11_spend_24 FU M x1 x2 x3 x4 0 0 else none
set_option maxRecDepth 20000 in
set_option maxHeartbeats 2000000 in
theorem cX11_spend_ok {l : Launch} {D : va_G} {dA : Nat → ClassId} (M : vM) (x1 : Int32) (x2 : Int32) (x3 : Nat) (x4 : Int32) (f3 : v_isA 3 x3) (hI : v_WT M.2.2) : Ct l D dA sX11_spend false 175 3 0 0 175 [.ref 130, .int x1, .int x2, .ref x3, .int x4] M (fX11_spend M x1 x2 x3 x4) := by
  refine Ct_of (lv := [(0, .ref 130), (1, .int x1), (2, .int x2), (3, .ref x3), (4, .int x4)]) (by decide +kernel) rfl (Nat.le_of_ble_eq_true rfl) rfl (fun h => by cases h) ?_
  refine V_aload_n (k := 0) dX11_spend_0 rfl rfl ?_
  refine V_getr (k := 134) dX11_spend_1 rfl (by decide) vf_X11_28 (by decide) (v_fin hI 121 rfl) ?_
  refine V_iload_n (k := 1) dX11_spend_4 rfl rfl ?_
  refine V_iald dX11_spend_5 rfl (by decide) (fun h27 => ?_)
  refine V_iconst (v := 1) dX11_spend_6 rfl ?_
  refine V_icmpne (tgt := 18) dX11_spend_7 (by decide) (fun h28 => ?_) (fun h28 => ?_)
  · refine V_iconst (v := 0) dX11_spend_18 rfl ?_
    refine V_istore (lv' := [(5, .int 0), (0, .ref 130), (1, .int x1), (2, .int x2), (3, .ref x3), (4, .int x4)]) dX11_spend_19 (by decide) rfl ?_
    refine V_iconst (v := 0) dX11_spend_21 rfl ?_
    refine V_istore (lv' := [(6, .int 0), (5, .int 0), (0, .ref 130), (1, .int x1), (2, .int x2), (3, .ref x3), (4, .int x4)]) dX11_spend_22 (by decide) rfl ?_
    refine V_sub [2, 3, 4, 5, 6, 1, 0] rfl ?_
    exact vX11_spend_24 FU M x1 x2 x3 x4 0 0 f3 hI
  · refine V_aload_n (k := 0) dX11_spend_10 rfl rfl ?_
    refine V_iload_n (k := 1) dX11_spend_11 rfl rfl ?_
    refine V_callVi (q := (RX11, TX11, 61)) (cls := 11) (st0 := []) (kc' := 0) (ks' := 0) dX11_spend_12 lk_X11_342 rfl (by decide) rfl rfl rfl (cX11_freeBits_ok M x1 hI) rfl rfl (by decide) (by decide) (Nat.le_of_ble_eq_true rfl) (Or.inl rfl) rfl rfl (by decide) (by decide) (fun y29 M30 e31 hI32 => ?_)
    refine V_goto (tgt := 19) dX11_spend_15 (by decide) ?_
    refine V_istore (lv' := [(5, .int y29), (0, .ref 130), (1, .int x1), (2, .int x2), (3, .ref x3), (4, .int x4)]) dX11_spend_19 (by decide) rfl ?_
    refine V_iconst (v := 0) dX11_spend_21 rfl ?_
    refine V_istore (lv' := [(6, .int 0), (5, .int y29), (0, .ref 130), (1, .int x1), (2, .int x2), (3, .ref x3), (4, .int x4)]) dX11_spend_22 (by decide) rfl ?_
    refine V_sub [2, 3, 4, 5, 6, 1, 0] rfl ?_
    exact vX11_spend_24 FU M30 x1 x2 x3 x4 y29 0 f3 hI32
def fX11_tellLasts_43 : Nat → vM → Int32 → Int32 → Int32 → Option (vR × vM)
  | 0, _, _, _, _ => none
  | n9 + 1, M, x1, x2, x3 => if v_in x1 6 = true then if (M.1 145 (Int32.toNatClampNeg x1)) ≤ x3 then rV M else if x2 ≤ (M.1 130 44) then rV M else if v_in x3 2000 = true then if (M.1 159 (Int32.toNatClampNeg x3)) = 0 then if v_in (M.1 130 44) 2000 = true then bv (fX11_spend (v_si (v_si M 160 (Int32.toNatClampNeg (M.1 130 44)) x3) 130 44 (((v_si M 160 (Int32.toNatClampNeg (M.1 130 44)) x3).1 130 44) + 1)) x1 x3 159 0) fun M17 => fX11_tellLasts_43 n9 M17 x1 x2 (x3 + 1) else none else fX11_tellLasts_43 n9 M x1 x2 (x3 + 1) else none else none
set_option maxRecDepth 20000 in
set_option maxHeartbeats 2000000 in
theorem vX11_tellLasts_43 {l : Launch} {D : va_G} {dA : Nat → ClassId} : ∀ (n9 : Nat) (M : vM) (x1 : Int32) (x2 : Int32) (x3 : Int32), v_WT M.2.2 → V l D dA sX11_tellLasts false 175 4 0 0 43 [(0, .ref 130), (1, .int x1), (2, .int x2), (3, .int x3)] [] 175 M (fX11_tellLasts_43 n9 M x1 x2 x3) := by
  intro n9
  induction n9 with
  | zero => intros; exact V_none
  | succ n9 ih =>
    intro M x1 x2 x3 hI
    refine V_iload_n (k := 3) dX11_tellLasts_43 rfl rfl ?_
    refine V_aload_n (k := 0) dX11_tellLasts_44 rfl rfl ?_
    refine V_getr (k := 145) dX11_tellLasts_45 rfl (by decide) vf_X11_61 (by decide) (v_fin hI 132 rfl) ?_
    refine V_iload_n (k := 1) dX11_tellLasts_48 rfl rfl ?_
    refine V_iald dX11_tellLasts_49 rfl (by decide) (fun h11 => ?_)
    refine V_icmpge (tgt := 110) dX11_tellLasts_50 (by decide) (fun h12 => ?_) (fun h12 => ?_)
    · exact V_ret (fun _ => hI) (Or.inl ⟨rfl, rfl⟩) dX11_tellLasts_110 (fun ty x h1 h2 => by cases h1) rfl
    · refine V_aload_n (k := 0) dX11_tellLasts_53 rfl rfl ?_
      refine V_geti dX11_tellLasts_54 rfl (by decide) vf_X11_388 (by decide) ?_
      refine V_iload_n (k := 2) dX11_tellLasts_57 rfl rfl ?_
      refine V_icmpge (tgt := 110) dX11_tellLasts_58 (by decide) (fun h13 => ?_) (fun h13 => ?_)
      · exact V_ret (fun _ => hI) (Or.inl ⟨rfl, rfl⟩) dX11_tellLasts_110 (fun ty x h1 h2 => by cases h1) rfl
      · refine V_aload_n (k := 0) dX11_tellLasts_61 rfl rfl ?_
        refine V_getr (k := 159) dX11_tellLasts_62 rfl (by decide) vf_X11_108 (by decide) (v_fin hI 146 rfl) ?_
        refine V_iload_n (k := 3) dX11_tellLasts_65 rfl rfl ?_
        refine V_zald dX11_tellLasts_66 rfl (by decide) (fun h14 => ?_)
        refine V_ifeq (tgt := 73) dX11_tellLasts_67 (by decide) (fun h15 => ?_) (fun h15 => ?_)
        · refine V_aload_n (k := 0) dX11_tellLasts_73 rfl rfl ?_
          refine V_getr (k := 160) dX11_tellLasts_74 rfl (by decide) vf_X11_111 (by decide) (v_fin hI 147 rfl) ?_
          refine V_aload_n (k := 0) dX11_tellLasts_77 rfl rfl ?_
          refine V_geti dX11_tellLasts_78 rfl (by decide) vf_X11_388 (by decide) ?_
          refine V_iload_n (k := 3) dX11_tellLasts_81 rfl rfl ?_
          refine V_iast dX11_tellLasts_82 rfl (by decide) (fun h16 => ?_)
          refine V_aload_n (k := 0) dX11_tellLasts_83 rfl rfl ?_
          refine V_dup dX11_tellLasts_84 rfl ?_
          refine V_geti dX11_tellLasts_85 rfl (by decide) vf_X11_388 (by decide) ?_
          refine V_iconst (v := 1) dX11_tellLasts_88 rfl ?_
          refine V_iadd dX11_tellLasts_89 ?_
          refine V_puti dX11_tellLasts_90 rfl (by decide) vf_X11_388 (by decide) rfl rfl ?_
          refine V_aload_n (k := 0) dX11_tellLasts_93 rfl rfl ?_
          refine V_iload_n (k := 1) dX11_tellLasts_94 rfl rfl ?_
          refine V_iload_n (k := 3) dX11_tellLasts_95 rfl rfl ?_
          refine V_aload_n (k := 0) dX11_tellLasts_96 rfl rfl ?_
          refine V_getr (k := 159) dX11_tellLasts_97 rfl (by decide) vf_X11_108 (by decide) (v_fin hI 146 rfl) ?_
          refine V_iconst (v := 0) dX11_tellLasts_100 rfl ?_
          refine V_callVv (q := (RX11, TX11, 61)) (cls := 11) (st0 := []) (kc' := 0) (ks' := 0) dX11_tellLasts_101 lk_X11_352 rfl (by decide) rfl rfl rfl (cX11_spend_ok (v_si (v_si M 160 (Int32.toNatClampNeg (M.1 130 44)) x3) 130 44 (((v_si M 160 (Int32.toNatClampNeg (M.1 130 44)) x3).1 130 44) + 1)) x1 x3 159 0 (v_isA_of (by decide) rfl) hI) rfl rfl (by decide) (by decide) (Nat.le_of_ble_eq_true rfl) (Or.inl rfl) rfl rfl (by decide) (by decide) (fun  M17 e18 hI19 => ?_)
          refine V_iinc (k := 3) (v := x3 + 1) (lv' := [(3, .int (x3 + 1)), (0, .ref 130), (1, .int x1), (2, .int x2)]) dX11_tellLasts_104 rfl rfl (by decide) rfl ?_
          refine V_goto (tgt := 43) dX11_tellLasts_107 (by decide) ?_
          refine V_sub [1, 2, 3, 0] rfl ?_
          exact ih M17 x1 x2 (x3 + 1) hI19
        · refine V_goto (tgt := 104) dX11_tellLasts_70 (by decide) ?_
          refine V_iinc (k := 3) (v := x3 + 1) (lv' := [(3, .int (x3 + 1)), (0, .ref 130), (1, .int x1), (2, .int x2)]) dX11_tellLasts_104 rfl rfl (by decide) rfl ?_
          refine V_goto (tgt := 43) dX11_tellLasts_107 (by decide) ?_
          refine V_sub [1, 2, 3, 0] rfl ?_
          exact ih M x1 x2 (x3 + 1) hI
def fX11_tellLasts_2 : Nat → vM → Int32 → Int32 → Int32 → Option (vR × vM)
  | 0, _, _, _, _ => none
  | n9 + 1, M, x1, x2, x3 => if v_in x1 6 = true then if (M.1 145 (Int32.toNatClampNeg x1)) ≤ x3 then fX11_tellLasts_43 FU (v_si M 130 44 0) x1 x2 0 else if v_in ((2000 * x1) + x3) 12000 = true then if v_in x3 2000 = true then fX11_tellLasts_2 n9 (v_si M 159 (Int32.toNatClampNeg x3) (v_nz (M.1 148 (Int32.toNatClampNeg ((2000 * x1) + x3))))) x1 x2 (x3 + 1) else none else none else none
set_option maxRecDepth 20000 in
set_option maxHeartbeats 2000000 in
theorem vX11_tellLasts_2 {l : Launch} {D : va_G} {dA : Nat → ClassId} : ∀ (n9 : Nat) (M : vM) (x1 : Int32) (x2 : Int32) (x3 : Int32), v_WT M.2.2 → V l D dA sX11_tellLasts false 175 4 0 0 2 [(0, .ref 130), (1, .int x1), (2, .int x2), (3, .int x3)] [] 175 M (fX11_tellLasts_2 n9 M x1 x2 x3) := by
  intro n9
  induction n9 with
  | zero => intros; exact V_none
  | succ n9 ih =>
    intro M x1 x2 x3 hI
    refine V_iload_n (k := 3) dX11_tellLasts_2 rfl rfl ?_
    refine V_aload_n (k := 0) dX11_tellLasts_3 rfl rfl ?_
    refine V_getr (k := 145) dX11_tellLasts_4 rfl (by decide) vf_X11_61 (by decide) (v_fin hI 132 rfl) ?_
    refine V_iload_n (k := 1) dX11_tellLasts_7 rfl rfl ?_
    refine V_iald dX11_tellLasts_8 rfl (by decide) (fun h20 => ?_)
    refine V_icmpge (tgt := 36) dX11_tellLasts_9 (by decide) (fun h21 => ?_) (fun h21 => ?_)
    · refine V_aload_n (k := 0) dX11_tellLasts_36 rfl rfl ?_
      refine V_iconst (v := 0) dX11_tellLasts_37 rfl ?_
      refine V_puti dX11_tellLasts_38 rfl (by decide) vf_X11_388 (by decide) rfl rfl ?_
      refine V_iconst (v := 0) dX11_tellLasts_41 rfl ?_
      refine V_istore_n (lv' := [(3, .int 0), (0, .ref 130), (1, .int x1), (2, .int x2)]) dX11_tellLasts_42 rfl (by decide) rfl ?_
      refine V_sub [1, 2, 3, 0] rfl ?_
      exact vX11_tellLasts_43 FU (v_si M 130 44 0) x1 x2 0 hI
    · refine V_aload_n (k := 0) dX11_tellLasts_12 rfl rfl ?_
      refine V_getr (k := 159) dX11_tellLasts_13 rfl (by decide) vf_X11_108 (by decide) (v_fin hI 146 rfl) ?_
      refine V_iload_n (k := 3) dX11_tellLasts_16 rfl rfl ?_
      refine V_aload_n (k := 0) dX11_tellLasts_17 rfl rfl ?_
      refine V_getr (k := 148) dX11_tellLasts_18 rfl (by decide) vf_X11_70 (by decide) (v_fin hI 135 rfl) ?_
      refine V_sipush (v := 2000) dX11_tellLasts_21 rfl ?_
      refine V_iload_n (k := 1) dX11_tellLasts_24 rfl rfl ?_
      refine V_imul dX11_tellLasts_25 ?_
      refine V_iload_n (k := 3) dX11_tellLasts_26 rfl rfl ?_
      refine V_iadd dX11_tellLasts_27 ?_
      refine V_zald dX11_tellLasts_28 rfl (by decide) (fun h22 => ?_)
      refine V_zast dX11_tellLasts_29 rfl (by decide) (fun h23 => ?_)
      refine V_iinc (k := 3) (v := x3 + 1) (lv' := [(3, .int (x3 + 1)), (0, .ref 130), (1, .int x1), (2, .int x2)]) dX11_tellLasts_30 rfl rfl (by decide) rfl ?_
      refine V_goto (tgt := 2) dX11_tellLasts_33 (by decide) ?_
      refine V_sub [1, 2, 3, 0] rfl ?_
      exact ih (v_si M 159 (Int32.toNatClampNeg x3) (v_nz (M.1 148 (Int32.toNatClampNeg ((2000 * x1) + x3))))) x1 x2 (x3 + 1) hI
def fX11_tellLasts (M : vM) (x1 : Int32) (x2 : Int32) : Option (vR × vM) := fX11_tellLasts_2 FU M x1 x2 0
set_option maxRecDepth 20000 in
set_option maxHeartbeats 2000000 in
theorem cX11_tellLasts_ok {l : Launch} {D : va_G} {dA : Nat → ClassId} (M : vM) (x1 : Int32) (x2 : Int32) (hI : v_WT M.2.2) : Ct l D dA sX11_tellLasts false 175 4 0 0 175 [.ref 130, .int x1, .int x2] M (fX11_tellLasts M x1 x2) := by
  refine Ct_of (lv := [(0, .ref 130), (1, .int x1), (2, .int x2)]) (by decide +kernel) rfl (Nat.le_of_ble_eq_true rfl) rfl (fun h => by cases h) ?_
  refine V_iconst (v := 0) dX11_tellLasts_0 rfl ?_
  refine V_istore_n (lv' := [(3, .int 0), (0, .ref 130), (1, .int x1), (2, .int x2)]) dX11_tellLasts_1 rfl (by decide) rfl ?_
  refine V_sub [1, 2, 3, 0] rfl ?_
  exact vX11_tellLasts_2 FU M x1 x2 0 hI
def fX11_chance_40 (M : vM) : Option (vR × vM) := bi (fX11_fail M 2) fun y24 M25 => rI y24 M25
set_option maxRecDepth 20000 in
set_option maxHeartbeats 2000000 in
theorem vX11_chance_40 {l : Launch} {D : va_G} {dA : Nat → ClassId} : ∀ (M : vM), v_WT M.2.2 → V l D dA sX11_chance false 175 5 0 0 40 [(0, .ref 130)] [] 175 M (fX11_chance_40 M) := by
  intro M hI
  refine V_aload_n (k := 0) dX11_chance_40 rfl rfl ?_
  refine V_iconst (v := 2) dX11_chance_41 rfl ?_
  refine V_callVi (q := (RX11, TX11, 61)) (cls := 11) (st0 := []) (kc' := 0) (ks' := 0) dX11_chance_42 lk_X11_287 rfl (by decide) rfl rfl rfl (cX11_fail_ok M 2 hI) rfl rfl (by decide) (by decide) (Nat.le_of_ble_eq_true rfl) (Or.inl rfl) rfl rfl (by decide) (by decide) (fun y24 M25 e26 hI27 => ?_)
  exact V_ret (fun _ => hI27) (Or.inr (Or.inl ⟨rfl, _, rfl⟩)) dX11_chance_45 (fun ty x h1 h2 => by cases h1; rfl) rfl
def fX11_chance_159 (k125 : vM → Int32 → Int32 → Int32 → Int64 → Int32 → Int32 → Option (vR × vM)) (M : vM) (x1 : Int32) (x2 : Int32) (x3 : Int32) (x4 : Int64) (x6 : Int32) (x7 : Int32) (s0 : Int64) : Option (vR × vM) := if v_in x7 101 = true then if v_in x7 101 = true then if v_in x7 101 = true then if ((v_sl M 162 (Int32.toNatClampNeg x7) ((M.2.1 162 (Int32.toNatClampNeg x7)) + ((M.2.1 161 (Int32.toNatClampNeg x7)) - s0))).1 130 44) ≤ x7 then k125 (v_sl M 162 (Int32.toNatClampNeg x7) ((M.2.1 162 (Int32.toNatClampNeg x7)) + ((M.2.1 161 (Int32.toNatClampNeg x7)) - s0))) x1 x2 x3 x4 x6 (x7 + 1) else if v_in (x7 + 1) 101 = true then if v_in (x7 + 1) 101 = true then if v_in x7 2000 = true then if v_in ((2000 * x1) + ((v_sl (v_sl M 162 (Int32.toNatClampNeg x7) ((M.2.1 162 (Int32.toNatClampNeg x7)) + ((M.2.1 161 (Int32.toNatClampNeg x7)) - s0))) 162 (Int32.toNatClampNeg (x7 + 1)) (((v_sl M 162 (Int32.toNatClampNeg x7) ((M.2.1 162 (Int32.toNatClampNeg x7)) + ((M.2.1 161 (Int32.toNatClampNeg x7)) - s0))).2.1 162 (Int32.toNatClampNeg (x7 + 1))) + s0)).1 160 (Int32.toNatClampNeg x7))) 12000 = true then k125 (v_sl (v_sl M 162 (Int32.toNatClampNeg x7) ((M.2.1 162 (Int32.toNatClampNeg x7)) + ((M.2.1 161 (Int32.toNatClampNeg x7)) - s0))) 162 (Int32.toNatClampNeg (x7 + 1)) (((v_sl M 162 (Int32.toNatClampNeg x7) ((M.2.1 162 (Int32.toNatClampNeg x7)) + ((M.2.1 161 (Int32.toNatClampNeg x7)) - s0))).2.1 162 (Int32.toNatClampNeg (x7 + 1))) + s0)) x1 x2 x3 (x4 + (s0 * (Int32.toInt64 ((v_sl (v_sl M 162 (Int32.toNatClampNeg x7) ((M.2.1 162 (Int32.toNatClampNeg x7)) + ((M.2.1 161 (Int32.toNatClampNeg x7)) - s0))) 162 (Int32.toNatClampNeg (x7 + 1)) (((v_sl M 162 (Int32.toNatClampNeg x7) ((M.2.1 162 (Int32.toNatClampNeg x7)) + ((M.2.1 161 (Int32.toNatClampNeg x7)) - s0))).2.1 162 (Int32.toNatClampNeg (x7 + 1))) + s0)).1 146 (Int32.toNatClampNeg ((2000 * x1) + ((v_sl (v_sl M 162 (Int32.toNatClampNeg x7) ((M.2.1 162 (Int32.toNatClampNeg x7)) + ((M.2.1 161 (Int32.toNatClampNeg x7)) - s0))) 162 (Int32.toNatClampNeg (x7 + 1)) (((v_sl M 162 (Int32.toNatClampNeg x7) ((M.2.1 162 (Int32.toNatClampNeg x7)) + ((M.2.1 161 (Int32.toNatClampNeg x7)) - s0))).2.1 162 (Int32.toNatClampNeg (x7 + 1))) + s0)).1 160 (Int32.toNatClampNeg x7)))))))) x6 (x7 + 1) else none else none else none else none else none else none else none
set_option maxRecDepth 20000 in
set_option maxHeartbeats 2000000 in
theorem vX11_chance_159 {l : Launch} {D : va_G} {dA : Nat → ClassId} {k125 : vM → Int32 → Int32 → Int32 → Int64 → Int32 → Int32 → Option (vR × vM)} (hk125 : ∀ (M : vM) (x1 : Int32) (x2 : Int32) (x3 : Int32) (x4 : Int64) (x6 : Int32) (x7 : Int32), v_WT M.2.2 → V l D dA sX11_chance false 175 5 0 0 125 [(0, .ref 130), (1, .int x1), (2, .int x2), (3, .int x3), (4, .long (x4)), (6, .int x6), (7, .int x7)] [] 175 M (k125 M x1 x2 x3 x4 x6 x7)) : ∀ (M : vM) (x1 : Int32) (x2 : Int32) (x3 : Int32) (x4 : Int64) (x6 : Int32) (x7 : Int32) (s0 : Int64), v_WT M.2.2 → V l D dA sX11_chance false 175 5 0 0 159 [(0, .ref 130), (1, .int x1), (2, .int x2), (3, .int x3), (4, .long (x4)), (6, .int x6), (7, .int x7)] [.long (s0)] 175 M (fX11_chance_159 k125 M x1 x2 x3 x4 x6 x7 s0) := by
  intro M x1 x2 x3 x4 x6 x7 s0 hI
  refine V_lstore (lv' := [(8, .long (s0)), (0, .ref 130), (1, .int x1), (2, .int x2), (3, .int x3), (4, .long (x4)), (6, .int x6), (7, .int x7)]) dX11_chance_159 (by decide) rfl ?_
  refine V_aload_n (k := 1) dX11_chance_161 rfl rfl ?_
  refine V_getr (k := 162) dX11_chance_162 rfl (by decide) vf_X11_118 (by decide) (v_fin hI 149 rfl) ?_
  refine V_iload (k := 7) dX11_chance_165 rfl ?_
  refine V_dup2 dX11_chance_167 rfl rfl ?_
  refine V_lald dX11_chance_168 rfl (by decide) (fun h28 => ?_)
  refine V_aload_n (k := 1) dX11_chance_169 rfl rfl ?_
  refine V_getr (k := 161) dX11_chance_170 rfl (by decide) vf_X11_114 (by decide) (v_fin hI 148 rfl) ?_
  refine V_iload (k := 7) dX11_chance_173 rfl ?_
  refine V_lald dX11_chance_175 rfl (by decide) (fun h29 => ?_)
  refine V_lload (k := 0) dX11_chance_176 rfl ?_
  refine V_lsub dX11_chance_178 ?_
  refine V_ladd dX11_chance_179 ?_
  refine V_last dX11_chance_180 rfl (by decide) (fun h30 => ?_)
  refine V_iload (k := 7) dX11_chance_181 rfl ?_
  refine V_aload_n (k := 1) dX11_chance_183 rfl rfl ?_
  refine V_geti dX11_chance_184 rfl (by decide) vf_X11_388 (by decide) ?_
  refine V_icmpge (tgt := 231) dX11_chance_187 (by decide) (fun h31 => ?_) (fun h31 => ?_)
  · refine V_iinc (k := 7) (v := x7 + 1) (lv' := [(7, .int (x7 + 1)), (8, .long (s0)), (0, .ref 130), (1, .int x1), (2, .int x2), (3, .int x3), (4, .long (x4)), (6, .int x6)]) dX11_chance_231 rfl rfl (by decide) rfl ?_
    refine V_goto (tgt := 125) dX11_chance_234 (by decide) ?_
    refine V_sub [2, 3, 4, 5, 6, 7, 0] rfl ?_
    exact hk125 (v_sl M 162 (Int32.toNatClampNeg x7) ((M.2.1 162 (Int32.toNatClampNeg x7)) + ((M.2.1 161 (Int32.toNatClampNeg x7)) - s0))) x1 x2 x3 x4 x6 (x7 + 1) hI
  · refine V_aload_n (k := 1) dX11_chance_190 rfl rfl ?_
    refine V_getr (k := 162) dX11_chance_191 rfl (by decide) vf_X11_118 (by decide) (v_fin hI 149 rfl) ?_
    refine V_iload (k := 7) dX11_chance_194 rfl ?_
    refine V_iconst (v := 1) dX11_chance_196 rfl ?_
    refine V_iadd dX11_chance_197 ?_
    refine V_dup2 dX11_chance_198 rfl rfl ?_
    refine V_lald dX11_chance_199 rfl (by decide) (fun h32 => ?_)
    refine V_lload (k := 0) dX11_chance_200 rfl ?_
    refine V_ladd dX11_chance_202 ?_
    refine V_last dX11_chance_203 rfl (by decide) (fun h33 => ?_)
    refine V_lload (k := 5) dX11_chance_204 rfl ?_
    refine V_lload (k := 0) dX11_chance_206 rfl ?_
    refine V_aload_n (k := 1) dX11_chance_208 rfl rfl ?_
    refine V_getr (k := 146) dX11_chance_209 rfl (by decide) vf_X11_64 (by decide) (v_fin hI 133 rfl) ?_
    refine V_sipush (v := 2000) dX11_chance_212 rfl ?_
    refine V_iload_n (k := 2) dX11_chance_215 rfl rfl ?_
    refine V_imul dX11_chance_216 ?_
    refine V_aload_n (k := 1) dX11_chance_217 rfl rfl ?_
    refine V_getr (k := 160) dX11_chance_218 rfl (by decide) vf_X11_111 (by decide) (v_fin hI 147 rfl) ?_
    refine V_iload (k := 7) dX11_chance_221 rfl ?_
    refine V_iald dX11_chance_223 rfl (by decide) (fun h34 => ?_)
    refine V_iadd dX11_chance_224 ?_
    refine V_iald dX11_chance_225 rfl (by decide) (fun h35 => ?_)
    refine V_i2l dX11_chance_226 ?_
    refine V_lmul dX11_chance_227 ?_
    refine V_ladd dX11_chance_228 ?_
    refine V_lstore (lv' := [(4, .long (x4 + (s0 * (Int32.toInt64 ((v_sl (v_sl M 162 (Int32.toNatClampNeg x7) ((M.2.1 162 (Int32.toNatClampNeg x7)) + ((M.2.1 161 (Int32.toNatClampNeg x7)) - s0))) 162 (Int32.toNatClampNeg (x7 + 1)) (((v_sl M 162 (Int32.toNatClampNeg x7) ((M.2.1 162 (Int32.toNatClampNeg x7)) + ((M.2.1 161 (Int32.toNatClampNeg x7)) - s0))).2.1 162 (Int32.toNatClampNeg (x7 + 1))) + s0)).1 146 (Int32.toNatClampNeg ((2000 * x1) + ((v_sl (v_sl M 162 (Int32.toNatClampNeg x7) ((M.2.1 162 (Int32.toNatClampNeg x7)) + ((M.2.1 161 (Int32.toNatClampNeg x7)) - s0))) 162 (Int32.toNatClampNeg (x7 + 1)) (((v_sl M 162 (Int32.toNatClampNeg x7) ((M.2.1 162 (Int32.toNatClampNeg x7)) + ((M.2.1 161 (Int32.toNatClampNeg x7)) - s0))).2.1 162 (Int32.toNatClampNeg (x7 + 1))) + s0)).1 160 (Int32.toNatClampNeg x7))))))))), (8, .long (s0)), (0, .ref 130), (1, .int x1), (2, .int x2), (3, .int x3), (6, .int x6), (7, .int x7)]) dX11_chance_229 (by decide) rfl ?_
    refine V_iinc (k := 7) (v := x7 + 1) (lv' := [(7, .int (x7 + 1)), (4, .long (x4 + (s0 * (Int32.toInt64 ((v_sl (v_sl M 162 (Int32.toNatClampNeg x7) ((M.2.1 162 (Int32.toNatClampNeg x7)) + ((M.2.1 161 (Int32.toNatClampNeg x7)) - s0))) 162 (Int32.toNatClampNeg (x7 + 1)) (((v_sl M 162 (Int32.toNatClampNeg x7) ((M.2.1 162 (Int32.toNatClampNeg x7)) + ((M.2.1 161 (Int32.toNatClampNeg x7)) - s0))).2.1 162 (Int32.toNatClampNeg (x7 + 1))) + s0)).1 146 (Int32.toNatClampNeg ((2000 * x1) + ((v_sl (v_sl M 162 (Int32.toNatClampNeg x7) ((M.2.1 162 (Int32.toNatClampNeg x7)) + ((M.2.1 161 (Int32.toNatClampNeg x7)) - s0))) 162 (Int32.toNatClampNeg (x7 + 1)) (((v_sl M 162 (Int32.toNatClampNeg x7) ((M.2.1 162 (Int32.toNatClampNeg x7)) + ((M.2.1 161 (Int32.toNatClampNeg x7)) - s0))).2.1 162 (Int32.toNatClampNeg (x7 + 1))) + s0)).1 160 (Int32.toNatClampNeg x7))))))))), (8, .long (s0)), (0, .ref 130), (1, .int x1), (2, .int x2), (3, .int x3), (6, .int x6)]) dX11_chance_231 rfl rfl (by decide) rfl ?_
    refine V_goto (tgt := 125) dX11_chance_234 (by decide) ?_
    refine V_sub [3, 4, 5, 6, 1, 7, 0] rfl ?_
    exact hk125 (v_sl (v_sl M 162 (Int32.toNatClampNeg x7) ((M.2.1 162 (Int32.toNatClampNeg x7)) + ((M.2.1 161 (Int32.toNatClampNeg x7)) - s0))) 162 (Int32.toNatClampNeg (x7 + 1)) (((v_sl M 162 (Int32.toNatClampNeg x7) ((M.2.1 162 (Int32.toNatClampNeg x7)) + ((M.2.1 161 (Int32.toNatClampNeg x7)) - s0))).2.1 162 (Int32.toNatClampNeg (x7 + 1))) + s0)) x1 x2 x3 (x4 + (s0 * (Int32.toInt64 ((v_sl (v_sl M 162 (Int32.toNatClampNeg x7) ((M.2.1 162 (Int32.toNatClampNeg x7)) + ((M.2.1 161 (Int32.toNatClampNeg x7)) - s0))) 162 (Int32.toNatClampNeg (x7 + 1)) (((v_sl M 162 (Int32.toNatClampNeg x7) ((M.2.1 162 (Int32.toNatClampNeg x7)) + ((M.2.1 161 (Int32.toNatClampNeg x7)) - s0))).2.1 162 (Int32.toNatClampNeg (x7 + 1))) + s0)).1 146 (Int32.toNatClampNeg ((2000 * x1) + ((v_sl (v_sl M 162 (Int32.toNatClampNeg x7) ((M.2.1 162 (Int32.toNatClampNeg x7)) + ((M.2.1 161 (Int32.toNatClampNeg x7)) - s0))) 162 (Int32.toNatClampNeg (x7 + 1)) (((v_sl M 162 (Int32.toNatClampNeg x7) ((M.2.1 162 (Int32.toNatClampNeg x7)) + ((M.2.1 161 (Int32.toNatClampNeg x7)) - s0))).2.1 162 (Int32.toNatClampNeg (x7 + 1))) + s0)).1 160 (Int32.toNatClampNeg x7)))))))) x6 (x7 + 1) hI
def fX11_chance_240 (k92 : vM → Int32 → Int32 → Int32 → Int64 → Int32 → Option (vR × vM)) : Nat → vM → Int32 → Int32 → Int32 → Int64 → Int32 → Int32 → Option (vR × vM)
  | 0, _, _, _, _, _, _, _ => none
  | n9 + 1, M, x1, x2, x3, x4, x6, x7 => if 100 < x7 then k92 M x1 x2 x3 x4 (x6 + 1) else if v_in x7 101 = true then if v_in x7 101 = true then fX11_chance_240 k92 n9 (v_sl M 161 (Int32.toNatClampNeg x7) (M.2.1 162 (Int32.toNatClampNeg x7))) x1 x2 x3 x4 x6 (x7 + 1) else none else none
set_option maxRecDepth 20000 in
set_option maxHeartbeats 2000000 in
theorem vX11_chance_240 {l : Launch} {D : va_G} {dA : Nat → ClassId} {k92 : vM → Int32 → Int32 → Int32 → Int64 → Int32 → Option (vR × vM)} (hk92 : ∀ (M : vM) (x1 : Int32) (x2 : Int32) (x3 : Int32) (x4 : Int64) (x6 : Int32), v_WT M.2.2 → V l D dA sX11_chance false 175 5 0 0 92 [(0, .ref 130), (1, .int x1), (2, .int x2), (3, .int x3), (4, .long (x4)), (6, .int x6)] [] 175 M (k92 M x1 x2 x3 x4 x6)) : ∀ (n9 : Nat) (M : vM) (x1 : Int32) (x2 : Int32) (x3 : Int32) (x4 : Int64) (x6 : Int32) (x7 : Int32), v_WT M.2.2 → V l D dA sX11_chance false 175 5 0 0 240 [(0, .ref 130), (1, .int x1), (2, .int x2), (3, .int x3), (4, .long (x4)), (6, .int x6), (7, .int x7)] [] 175 M (fX11_chance_240 k92 n9 M x1 x2 x3 x4 x6 x7) := by
  intro n9
  induction n9 with
  | zero => intros; exact V_none
  | succ n9 ih =>
    intro M x1 x2 x3 x4 x6 x7 hI
    refine V_iload (k := 6) dX11_chance_240 rfl ?_
    refine V_bipush (v := 100) dX11_chance_242 rfl ?_
    refine V_icmpgt (tgt := 267) dX11_chance_244 (by decide) (fun h36 => ?_) (fun h36 => ?_)
    · refine V_iinc (k := 5) (v := x6 + 1) (lv' := [(6, .int (x6 + 1)), (0, .ref 130), (1, .int x1), (2, .int x2), (3, .int x3), (4, .long (x4)), (7, .int x7)]) dX11_chance_267 rfl rfl (by decide) rfl ?_
      refine V_goto (tgt := 92) dX11_chance_270 (by decide) ?_
      refine V_sub [1, 2, 3, 4, 5, 0] rfl ?_
      exact hk92 M x1 x2 x3 x4 (x6 + 1) hI
    · refine V_aload_n (k := 0) dX11_chance_247 rfl rfl ?_
      refine V_getr (k := 161) dX11_chance_248 rfl (by decide) vf_X11_114 (by decide) (v_fin hI 148 rfl) ?_
      refine V_iload (k := 6) dX11_chance_251 rfl ?_
      refine V_aload_n (k := 0) dX11_chance_253 rfl rfl ?_
      refine V_getr (k := 162) dX11_chance_254 rfl (by decide) vf_X11_118 (by decide) (v_fin hI 149 rfl) ?_
      refine V_iload (k := 6) dX11_chance_257 rfl ?_
      refine V_lald dX11_chance_259 rfl (by decide) (fun h37 => ?_)
      refine V_last dX11_chance_260 rfl (by decide) (fun h38 => ?_)
      refine V_iinc (k := 6) (v := x7 + 1) (lv' := [(7, .int (x7 + 1)), (0, .ref 130), (1, .int x1), (2, .int x2), (3, .int x3), (4, .long (x4)), (6, .int x6)]) dX11_chance_261 rfl rfl (by decide) rfl ?_
      refine V_goto (tgt := 240) dX11_chance_264 (by decide) ?_
      refine V_sub [1, 2, 3, 4, 5, 6, 0] rfl ?_
      exact ih (v_sl M 161 (Int32.toNatClampNeg x7) (M.2.1 162 (Int32.toNatClampNeg x7))) x1 x2 x3 x4 x6 (x7 + 1) hI
def fX11_chance_125 (k92 : vM → Int32 → Int32 → Int32 → Int64 → Int32 → Option (vR × vM)) : Nat → vM → Int32 → Int32 → Int32 → Int64 → Int32 → Int32 → Option (vR × vM)
  | 0, _, _, _, _, _, _, _ => none
  | n9 + 1, M, x1, x2, x3, x4, x6, x7 => if 100 < x7 then fX11_chance_240 (k92) FU M x1 x2 x3 x4 x6 0 else if (M.1 130 44) ≤ x7 then fX11_chance_159 (fX11_chance_125 k92 n9) M x1 x2 x3 x4 x6 x7 0 else if v_in x7 101 = true then fX11_chance_159 (fX11_chance_125 k92 n9) M x1 x2 x3 x4 x6 x7 (((M.2.1 161 (Int32.toNatClampNeg x7)) * (Int32.toInt64 x2)) / 1000) else none
set_option maxRecDepth 20000 in
set_option maxHeartbeats 2000000 in
theorem vX11_chance_125 {l : Launch} {D : va_G} {dA : Nat → ClassId} {k92 : vM → Int32 → Int32 → Int32 → Int64 → Int32 → Option (vR × vM)} (hk92 : ∀ (M : vM) (x1 : Int32) (x2 : Int32) (x3 : Int32) (x4 : Int64) (x6 : Int32), v_WT M.2.2 → V l D dA sX11_chance false 175 5 0 0 92 [(0, .ref 130), (1, .int x1), (2, .int x2), (3, .int x3), (4, .long (x4)), (6, .int x6)] [] 175 M (k92 M x1 x2 x3 x4 x6)) : ∀ (n9 : Nat) (M : vM) (x1 : Int32) (x2 : Int32) (x3 : Int32) (x4 : Int64) (x6 : Int32) (x7 : Int32), v_WT M.2.2 → V l D dA sX11_chance false 175 5 0 0 125 [(0, .ref 130), (1, .int x1), (2, .int x2), (3, .int x3), (4, .long (x4)), (6, .int x6), (7, .int x7)] [] 175 M (fX11_chance_125 k92 n9 M x1 x2 x3 x4 x6 x7) := by
  intro n9
  induction n9 with
  | zero => intros; exact V_none
  | succ n9 ih =>
    intro M x1 x2 x3 x4 x6 x7 hI
    refine V_iload (k := 6) dX11_chance_125 rfl ?_
    refine V_bipush (v := 100) dX11_chance_127 rfl ?_
    refine V_icmpgt (tgt := 237) dX11_chance_129 (by decide) (fun h39 => ?_) (fun h39 => ?_)
    · refine V_iconst (v := 0) dX11_chance_237 rfl ?_
      refine V_istore (lv' := [(7, .int 0), (0, .ref 130), (1, .int x1), (2, .int x2), (3, .int x3), (4, .long (x4)), (6, .int x6)]) dX11_chance_238 (by decide) rfl ?_
      refine V_sub [1, 2, 3, 4, 5, 6, 0] rfl ?_
      exact vX11_chance_240 (hk92) FU M x1 x2 x3 x4 x6 0 hI
    · refine V_iload (k := 6) dX11_chance_132 rfl ?_
      refine V_aload_n (k := 0) dX11_chance_134 rfl rfl ?_
      refine V_geti dX11_chance_135 rfl (by decide) vf_X11_388 (by decide) ?_
      refine V_icmpge (tgt := 158) dX11_chance_138 (by decide) (fun h40 => ?_) (fun h40 => ?_)
      · refine V_lconst (v := 0) dX11_chance_158 rfl ?_
        refine V_sub [0, 1, 2, 3, 4, 5, 6] rfl ?_
        exact vX11_chance_159 (ih) M x1 x2 x3 x4 x6 x7 0 hI
      · refine V_aload_n (k := 0) dX11_chance_141 rfl rfl ?_
        refine V_getr (k := 161) dX11_chance_142 rfl (by decide) vf_X11_114 (by decide) (v_fin hI 148 rfl) ?_
        refine V_iload (k := 6) dX11_chance_145 rfl ?_
        refine V_lald dX11_chance_147 rfl (by decide) (fun h41 => ?_)
        refine V_iload_n (k := 2) dX11_chance_148 rfl rfl ?_
        refine V_i2l dX11_chance_149 ?_
        refine V_lmul dX11_chance_150 ?_
        refine V_ldc2 dX11_chance_151 gw1711 ?_
        refine V_ldiv dX11_chance_154 (by decide) ?_
        refine V_goto (tgt := 159) dX11_chance_155 (by decide) ?_
        refine V_sub [0, 1, 2, 3, 4, 5, 6] rfl ?_
        exact vX11_chance_159 (ih) M x1 x2 x3 x4 x6 x7 (((M.2.1 161 (Int32.toNatClampNeg x7)) * (Int32.toInt64 x2)) / 1000) hI
def fX11_chance_101 (k92 : vM → Int32 → Int32 → Int32 → Int64 → Int32 → Option (vR × vM)) : Nat → vM → Int32 → Int32 → Int32 → Int64 → Int32 → Int32 → Option (vR × vM)
  | 0, _, _, _, _, _, _, _ => none
  | n9 + 1, M, x1, x2, x3, x4, x6, x7 => if 100 < x7 then fX11_chance_125 (k92) FU M x1 x2 x3 x4 x6 0 else if v_in x7 101 = true then fX11_chance_101 k92 n9 (v_sl M 162 (Int32.toNatClampNeg x7) 0) x1 x2 x3 x4 x6 (x7 + 1) else none
set_option maxRecDepth 20000 in
set_option maxHeartbeats 2000000 in
theorem vX11_chance_101 {l : Launch} {D : va_G} {dA : Nat → ClassId} {k92 : vM → Int32 → Int32 → Int32 → Int64 → Int32 → Option (vR × vM)} (hk92 : ∀ (M : vM) (x1 : Int32) (x2 : Int32) (x3 : Int32) (x4 : Int64) (x6 : Int32), v_WT M.2.2 → V l D dA sX11_chance false 175 5 0 0 92 [(0, .ref 130), (1, .int x1), (2, .int x2), (3, .int x3), (4, .long (x4)), (6, .int x6)] [] 175 M (k92 M x1 x2 x3 x4 x6)) : ∀ (n9 : Nat) (M : vM) (x1 : Int32) (x2 : Int32) (x3 : Int32) (x4 : Int64) (x6 : Int32) (x7 : Int32), v_WT M.2.2 → V l D dA sX11_chance false 175 5 0 0 101 [(0, .ref 130), (1, .int x1), (2, .int x2), (3, .int x3), (4, .long (x4)), (6, .int x6), (7, .int x7)] [] 175 M (fX11_chance_101 k92 n9 M x1 x2 x3 x4 x6 x7) := by
  intro n9
  induction n9 with
  | zero => intros; exact V_none
  | succ n9 ih =>
    intro M x1 x2 x3 x4 x6 x7 hI
    refine V_iload (k := 6) dX11_chance_101 rfl ?_
    refine V_bipush (v := 100) dX11_chance_103 rfl ?_
    refine V_icmpgt (tgt := 122) dX11_chance_105 (by decide) (fun h42 => ?_) (fun h42 => ?_)
    · refine V_iconst (v := 0) dX11_chance_122 rfl ?_
      refine V_istore (lv' := [(7, .int 0), (0, .ref 130), (1, .int x1), (2, .int x2), (3, .int x3), (4, .long (x4)), (6, .int x6)]) dX11_chance_123 (by decide) rfl ?_
      refine V_sub [1, 2, 3, 4, 5, 6, 0] rfl ?_
      exact vX11_chance_125 (hk92) FU M x1 x2 x3 x4 x6 0 hI
    · refine V_aload_n (k := 0) dX11_chance_108 rfl rfl ?_
      refine V_getr (k := 162) dX11_chance_109 rfl (by decide) vf_X11_118 (by decide) (v_fin hI 149 rfl) ?_
      refine V_iload (k := 6) dX11_chance_112 rfl ?_
      refine V_lconst (v := 0) dX11_chance_114 rfl ?_
      refine V_last dX11_chance_115 rfl (by decide) (fun h43 => ?_)
      refine V_iinc (k := 6) (v := x7 + 1) (lv' := [(7, .int (x7 + 1)), (0, .ref 130), (1, .int x1), (2, .int x2), (3, .int x3), (4, .long (x4)), (6, .int x6)]) dX11_chance_116 rfl rfl (by decide) rfl ?_
      refine V_goto (tgt := 101) dX11_chance_119 (by decide) ?_
      refine V_sub [1, 2, 3, 4, 5, 6, 0] rfl ?_
      exact ih (v_sl M 162 (Int32.toNatClampNeg x7) 0) x1 x2 x3 x4 x6 (x7 + 1) hI
def fX11_chance_92 : Nat → vM → Int32 → Int32 → Int32 → Int64 → Int32 → Option (vR × vM)
  | 0, _, _, _, _, _, _ => none
  | n9 + 1, M, x1, x2, x3, x4, x6 => if x3 ≤ x6 then rI (Int64.toInt32 (x4 / 1000000)) M else fX11_chance_101 (fX11_chance_92 n9) FU M x1 x2 x3 x4 x6 0
set_option maxRecDepth 20000 in
set_option maxHeartbeats 2000000 in
theorem vX11_chance_92 {l : Launch} {D : va_G} {dA : Nat → ClassId} : ∀ (n9 : Nat) (M : vM) (x1 : Int32) (x2 : Int32) (x3 : Int32) (x4 : Int64) (x6 : Int32), v_WT M.2.2 → V l D dA sX11_chance false 175 5 0 0 92 [(0, .ref 130), (1, .int x1), (2, .int x2), (3, .int x3), (4, .long (x4)), (6, .int x6)] [] 175 M (fX11_chance_92 n9 M x1 x2 x3 x4 x6) := by
  intro n9
  induction n9 with
  | zero => intros; exact V_none
  | succ n9 ih =>
    intro M x1 x2 x3 x4 x6 hI
    refine V_iload (k := 5) dX11_chance_92 rfl ?_
    refine V_iload_n (k := 3) dX11_chance_94 rfl rfl ?_
    refine V_icmpge (tgt := 273) dX11_chance_95 (by decide) (fun h44 => ?_) (fun h44 => ?_)
    · refine V_lload (k := 4) dX11_chance_273 rfl ?_
      refine V_ldc2 dX11_chance_275 gw1712 ?_
      refine V_ldiv dX11_chance_278 (by decide) ?_
      refine V_l2i dX11_chance_279 ?_
      exact V_ret (fun _ => hI) (Or.inr (Or.inl ⟨rfl, _, rfl⟩)) dX11_chance_280 (fun ty x h1 h2 => by cases h1; rfl) rfl
    · refine V_iconst (v := 0) dX11_chance_98 rfl ?_
      refine V_istore (lv' := [(7, .int 0), (0, .ref 130), (1, .int x1), (2, .int x2), (3, .int x3), (4, .long (x4)), (6, .int x6)]) dX11_chance_99 (by decide) rfl ?_
      refine V_sub [1, 2, 3, 4, 5, 6, 0] rfl ?_
      exact vX11_chance_101 (ih) FU M x1 x2 x3 x4 x6 0 hI
def fX11_chance_56 : Nat → vM → Int32 → Int32 → Int32 → Int32 → Option (vR × vM)
  | 0, _, _, _, _, _ => none
  | n9 + 1, M, x1, x2, x3, x4 => if 100 < x4 then if v_in 0 101 = true then fX11_chance_92 FU (v_sl M 161 (Int32.toNatClampNeg 0) 1000000000) x1 x2 x3 0 0 else none else if v_in x4 101 = true then fX11_chance_56 n9 (v_sl M 161 (Int32.toNatClampNeg x4) 0) x1 x2 x3 (x4 + 1) else none
set_option maxRecDepth 20000 in
set_option maxHeartbeats 2000000 in
theorem vX11_chance_56 {l : Launch} {D : va_G} {dA : Nat → ClassId} : ∀ (n9 : Nat) (M : vM) (x1 : Int32) (x2 : Int32) (x3 : Int32) (x4 : Int32), v_WT M.2.2 → V l D dA sX11_chance false 175 5 0 0 56 [(0, .ref 130), (1, .int x1), (2, .int x2), (3, .int x3), (4, .int x4)] [] 175 M (fX11_chance_56 n9 M x1 x2 x3 x4) := by
  intro n9
  induction n9 with
  | zero => intros; exact V_none
  | succ n9 ih =>
    intro M x1 x2 x3 x4 hI
    refine V_iload (k := 4) dX11_chance_56 rfl ?_
    refine V_bipush (v := 100) dX11_chance_58 rfl ?_
    refine V_icmpgt (tgt := 77) dX11_chance_60 (by decide) (fun h45 => ?_) (fun h45 => ?_)
    · refine V_aload_n (k := 0) dX11_chance_77 rfl rfl ?_
      refine V_getr (k := 161) dX11_chance_78 rfl (by decide) vf_X11_114 (by decide) (v_fin hI 148 rfl) ?_
      refine V_iconst (v := 0) dX11_chance_81 rfl ?_
      refine V_ldc2 dX11_chance_82 gw1710 ?_
      refine V_last dX11_chance_85 rfl (by decide) (fun h46 => ?_)
      refine V_lconst (v := 0) dX11_chance_86 rfl ?_
      refine V_lstore (lv' := [(4, .long (0)), (0, .ref 130), (1, .int x1), (2, .int x2), (3, .int x3)]) dX11_chance_87 (by decide) rfl ?_
      refine V_iconst (v := 0) dX11_chance_89 rfl ?_
      refine V_istore (lv' := [(6, .int 0), (4, .long (0)), (0, .ref 130), (1, .int x1), (2, .int x2), (3, .int x3)]) dX11_chance_90 (by decide) rfl ?_
      refine V_sub [2, 3, 4, 5, 1, 0] rfl ?_
      exact vX11_chance_92 FU (v_sl M 161 (Int32.toNatClampNeg 0) 1000000000) x1 x2 x3 0 0 hI
    · refine V_aload_n (k := 0) dX11_chance_63 rfl rfl ?_
      refine V_getr (k := 161) dX11_chance_64 rfl (by decide) vf_X11_114 (by decide) (v_fin hI 148 rfl) ?_
      refine V_iload (k := 4) dX11_chance_67 rfl ?_
      refine V_lconst (v := 0) dX11_chance_69 rfl ?_
      refine V_last dX11_chance_70 rfl (by decide) (fun h47 => ?_)
      refine V_iinc (k := 4) (v := x4 + 1) (lv' := [(4, .int (x4 + 1)), (0, .ref 130), (1, .int x1), (2, .int x2), (3, .int x3)]) dX11_chance_71 rfl rfl (by decide) rfl ?_
      refine V_goto (tgt := 56) dX11_chance_74 (by decide) ?_
      refine V_sub [1, 2, 3, 4, 0] rfl ?_
      exact ih (v_sl M 161 (Int32.toNatClampNeg x4) 0) x1 x2 x3 (x4 + 1) hI
def fX11_chance (M : vM) (x1 : Int32) (x2 : Int32) (x3 : Int32) : Option (vR × vM) := bi (fX11_isWork (v_si M 130 1 0) x1) fun y48 M49 => if y48 = 0 then bi (fX11_fail M49 1) fun y66 M67 => rI y66 M67 else bi (fX11_isIn M49 x2 0 1000) fun y53 M54 => if y53 = 0 then fX11_chance_40 M54 else bi (fX11_isIn M54 x3 0 100) fun y58 M59 => if y58 = 0 then fX11_chance_40 M59 else bv (fX11_tellLasts M59 x1 100) fun M63 => fX11_chance_56 FU M63 x1 x2 x3 0
set_option maxRecDepth 20000 in
set_option maxHeartbeats 2000000 in
theorem cX11_chance_ok {l : Launch} {D : va_G} {dA : Nat → ClassId} (M : vM) (x1 : Int32) (x2 : Int32) (x3 : Int32) (hI : v_WT M.2.2) : Ct l D dA sX11_chance false 175 5 0 0 175 [.ref 130, .int x1, .int x2, .int x3] M (fX11_chance M x1 x2 x3) := by
  refine Ct_of (lv := [(0, .ref 130), (1, .int x1), (2, .int x2), (3, .int x3)]) (by decide +kernel) rfl (Nat.le_of_ble_eq_true rfl) rfl (fun h => by cases h) ?_
  refine V_aload_n (k := 0) dX11_chance_0 rfl rfl ?_
  refine V_iconst (v := 0) dX11_chance_1 rfl ?_
  refine V_puti dX11_chance_2 rfl (by decide) vf_X11_154 (by decide) rfl rfl ?_
  refine V_aload_n (k := 0) dX11_chance_5 rfl rfl ?_
  refine V_iload_n (k := 1) dX11_chance_6 rfl rfl ?_
  refine V_callVi (q := (RX11, TX11, 61)) (cls := 11) (st0 := []) (kc' := 0) (ks' := 0) dX11_chance_7 lk_X11_164 rfl (by decide) rfl rfl rfl (cX11_isWork_ok (v_si M 130 1 0) x1 hI) rfl rfl (by decide) (by decide) (Nat.le_of_ble_eq_true rfl) (Or.inl rfl) rfl rfl (by decide) (by decide) (fun y48 M49 e50 hI51 => ?_)
  refine V_ifne (tgt := 19) dX11_chance_10 (by decide) (fun h52 => ?_) (fun h52 => ?_)
  · refine V_iload_n (k := 2) dX11_chance_19 rfl rfl ?_
    refine V_iconst (v := 0) dX11_chance_20 rfl ?_
    refine V_sipush (v := 1000) dX11_chance_21 rfl ?_
    refine V_callSi (st0 := []) (kc' := 0) (ks' := 0) dX11_chance_24 lk_X11_160 rfl (cX11_isIn_ok M49 x2 0 1000 hI51) rfl rfl (by decide) (by decide) (Nat.le_of_ble_eq_true rfl) (Or.inl rfl) rfl rfl (by decide) (by decide) (fun y53 M54 e55 hI56 => ?_)
    refine V_ifeq (tgt := 40) dX11_chance_27 (by decide) (fun h57 => ?_) (fun h57 => ?_)
    · refine V_sub [0] rfl ?_
      exact vX11_chance_40 M54 hI56
    · refine V_iload_n (k := 3) dX11_chance_30 rfl rfl ?_
      refine V_iconst (v := 0) dX11_chance_31 rfl ?_
      refine V_bipush (v := 100) dX11_chance_32 rfl ?_
      refine V_callSi (st0 := []) (kc' := 0) (ks' := 0) dX11_chance_34 lk_X11_160 rfl (cX11_isIn_ok M54 x3 0 100 hI56) rfl rfl (by decide) (by decide) (Nat.le_of_ble_eq_true rfl) (Or.inl rfl) rfl rfl (by decide) (by decide) (fun y58 M59 e60 hI61 => ?_)
      refine V_ifne (tgt := 46) dX11_chance_37 (by decide) (fun h62 => ?_) (fun h62 => ?_)
      · refine V_aload_n (k := 0) dX11_chance_46 rfl rfl ?_
        refine V_iload_n (k := 1) dX11_chance_47 rfl rfl ?_
        refine V_bipush (v := 100) dX11_chance_48 rfl ?_
        refine V_callVv (q := (RX11, TX11, 61)) (cls := 11) (st0 := []) (kc' := 0) (ks' := 0) dX11_chance_50 lk_X11_391 rfl (by decide) rfl rfl rfl (cX11_tellLasts_ok M59 x1 100 hI61) rfl rfl (by decide) (by decide) (Nat.le_of_ble_eq_true rfl) (Or.inl rfl) rfl rfl (by decide) (by decide) (fun  M63 e64 hI65 => ?_)
        refine V_iconst (v := 0) dX11_chance_53 rfl ?_
        refine V_istore (lv' := [(4, .int 0), (0, .ref 130), (1, .int x1), (2, .int x2), (3, .int x3)]) dX11_chance_54 (by decide) rfl ?_
        refine V_sub [1, 2, 3, 4, 0] rfl ?_
        exact vX11_chance_56 FU M63 x1 x2 x3 0 hI65
      · refine V_sub [0] rfl ?_
        exact vX11_chance_40 M59 hI61
  · refine V_aload_n (k := 0) dX11_chance_13 rfl rfl ?_
    refine V_iconst (v := 1) dX11_chance_14 rfl ?_
    refine V_callVi (q := (RX11, TX11, 61)) (cls := 11) (st0 := []) (kc' := 0) (ks' := 0) dX11_chance_15 lk_X11_287 rfl (by decide) rfl rfl rfl (cX11_fail_ok M49 1 hI51) rfl rfl (by decide) (by decide) (Nat.le_of_ble_eq_true rfl) (Or.inl rfl) rfl rfl (by decide) (by decide) (fun y66 M67 e68 hI69 => ?_)
    exact V_ret (fun _ => hI69) (Or.inr (Or.inl ⟨rfl, _, rfl⟩)) dX11_chance_18 (fun ty x h1 h2 => by cases h1; rfl) rfl
def fX11_choose_74 (k19 : vM → Int32 → Int32 → Int32 → Option (vR × vM)) (M : vM) (x1 : Int32) (x2 : Int32) (x3 : Int32) (x4 : Int32) (s0 : Int32) : Option (vR × vM) := if x4 = 0 then k19 M x1 x2 (x3 + 1) else if v_in x3 144 = true then if (M.1 142 (Int32.toNatClampNeg x3)) = 0 then if s0 = 0 then k19 M x1 x2 (x3 + 1) else rV M else if s0 = 0 then rV M else k19 M x1 x2 (x3 + 1) else none
set_option maxRecDepth 20000 in
set_option maxHeartbeats 2000000 in
theorem vX11_choose_74 {l : Launch} {D : va_G} {dA : Nat → ClassId} {k19 : vM → Int32 → Int32 → Int32 → Option (vR × vM)} (hk19 : ∀ (M : vM) (x1 : Int32) (x2 : Int32) (x3 : Int32), v_WT M.2.2 → V l D dA sX11_choose false 175 2 0 0 19 [(0, .ref 130), (1, .int x1), (2, .int x2), (3, .int x3)] [] 175 M (k19 M x1 x2 x3)) : ∀ (M : vM) (x1 : Int32) (x2 : Int32) (x3 : Int32) (x4 : Int32) (s0 : Int32), v_WT M.2.2 → V l D dA sX11_choose false 175 2 0 0 74 [(0, .ref 130), (1, .int x1), (2, .int x2), (3, .int x3), (4, .int x4)] [.int s0] 175 M (fX11_choose_74 k19 M x1 x2 x3 x4 s0) := by
  intro M x1 x2 x3 x4 s0 hI
  refine V_istore (lv' := [(5, .int s0), (0, .ref 130), (1, .int x1), (2, .int x2), (3, .int x3), (4, .int x4)]) dX11_choose_74 (by decide) rfl ?_
  refine V_iload (k := 5) dX11_choose_76 rfl ?_
  refine V_ifeq (tgt := 104) dX11_choose_78 (by decide) (fun h17 => ?_) (fun h17 => ?_)
  · refine V_iinc (k := 4) (v := x3 + 1) (lv' := [(3, .int (x3 + 1)), (5, .int s0), (0, .ref 130), (1, .int x1), (2, .int x2), (4, .int x4)]) dX11_choose_104 rfl rfl (by decide) rfl ?_
    refine V_goto (tgt := 19) dX11_choose_107 (by decide) ?_
    refine V_sub [2, 3, 4, 0] rfl ?_
    exact hk19 M x1 x2 (x3 + 1) hI
  · refine V_aload_n (k := 1) dX11_choose_81 rfl rfl ?_
    refine V_getr (k := 142) dX11_choose_82 rfl (by decide) vf_X11_52 (by decide) (v_fin hI 129 rfl) ?_
    refine V_iload_n (k := 4) dX11_choose_85 rfl rfl ?_
    refine V_iald dX11_choose_86 rfl (by decide) (fun h18 => ?_)
    refine V_ifne (tgt := 98) dX11_choose_87 (by decide) (fun h19 => ?_) (fun h19 => ?_)
    · refine V_iload (k := 0) dX11_choose_98 rfl ?_
      refine V_ifne (tgt := 104) dX11_choose_100 (by decide) (fun h20 => ?_) (fun h20 => ?_)
      · refine V_iinc (k := 4) (v := x3 + 1) (lv' := [(3, .int (x3 + 1)), (5, .int s0), (0, .ref 130), (1, .int x1), (2, .int x2), (4, .int x4)]) dX11_choose_104 rfl rfl (by decide) rfl ?_
        refine V_goto (tgt := 19) dX11_choose_107 (by decide) ?_
        refine V_sub [2, 3, 4, 0] rfl ?_
        exact hk19 M x1 x2 (x3 + 1) hI
      · exact V_ret (fun _ => hI) (Or.inl ⟨rfl, rfl⟩) dX11_choose_103 (fun ty x h1 h2 => by cases h1) rfl
    · refine V_iload (k := 0) dX11_choose_90 rfl ?_
      refine V_ifeq (tgt := 104) dX11_choose_92 (by decide) (fun h21 => ?_) (fun h21 => ?_)
      · refine V_iinc (k := 4) (v := x3 + 1) (lv' := [(3, .int (x3 + 1)), (5, .int s0), (0, .ref 130), (1, .int x1), (2, .int x2), (4, .int x4)]) dX11_choose_104 rfl rfl (by decide) rfl ?_
        refine V_goto (tgt := 19) dX11_choose_107 (by decide) ?_
        refine V_sub [2, 3, 4, 0] rfl ?_
        exact hk19 M x1 x2 (x3 + 1) hI
      · refine V_goto (tgt := 103) dX11_choose_95 (by decide) ?_
        exact V_ret (fun _ => hI) (Or.inl ⟨rfl, rfl⟩) dX11_choose_103 (fun ty x h1 h2 => by cases h1) rfl
def fX11_choose_53 (k19 : vM → Int32 → Int32 → Int32 → Option (vR × vM)) (M : vM) (x1 : Int32) (x2 : Int32) (x3 : Int32) (s0 : Int32) : Option (vR × vM) := if v_in x3 144 = true then if ((x2 >>> ((M.1 144 (Int32.toNatClampNeg x3)) &&& (31 : Int32))) &&& 1) = 1 then fX11_choose_74 (k19) M x1 x2 x3 s0 1 else fX11_choose_74 (k19) M x1 x2 x3 s0 0 else none
set_option maxRecDepth 20000 in
set_option maxHeartbeats 2000000 in
theorem vX11_choose_53 {l : Launch} {D : va_G} {dA : Nat → ClassId} {k19 : vM → Int32 → Int32 → Int32 → Option (vR × vM)} (hk19 : ∀ (M : vM) (x1 : Int32) (x2 : Int32) (x3 : Int32), v_WT M.2.2 → V l D dA sX11_choose false 175 2 0 0 19 [(0, .ref 130), (1, .int x1), (2, .int x2), (3, .int x3)] [] 175 M (k19 M x1 x2 x3)) : ∀ (M : vM) (x1 : Int32) (x2 : Int32) (x3 : Int32) (s0 : Int32), v_WT M.2.2 → V l D dA sX11_choose false 175 2 0 0 53 [(0, .ref 130), (1, .int x1), (2, .int x2), (3, .int x3)] [.int s0] 175 M (fX11_choose_53 k19 M x1 x2 x3 s0) := by
  intro M x1 x2 x3 s0 hI
  refine V_istore (lv' := [(4, .int s0), (0, .ref 130), (1, .int x1), (2, .int x2), (3, .int x3)]) dX11_choose_53 (by decide) rfl ?_
  refine V_iload_n (k := 3) dX11_choose_55 rfl rfl ?_
  refine V_aload_n (k := 1) dX11_choose_56 rfl rfl ?_
  refine V_getr (k := 144) dX11_choose_57 rfl (by decide) vf_X11_58 (by decide) (v_fin hI 131 rfl) ?_
  refine V_iload_n (k := 4) dX11_choose_60 rfl rfl ?_
  refine V_iald dX11_choose_61 rfl (by decide) (fun h22 => ?_)
  refine V_ishr dX11_choose_62 ?_
  refine V_iconst (v := 1) dX11_choose_63 rfl ?_
  refine V_iand dX11_choose_64 ?_
  refine V_iconst (v := 1) dX11_choose_65 rfl ?_
  refine V_icmpne (tgt := 73) dX11_choose_66 (by decide) (fun h23 => ?_) (fun h23 => ?_)
  · refine V_iconst (v := 0) dX11_choose_73 rfl ?_
    refine V_sub [1, 2, 3, 4, 0] rfl ?_
    exact vX11_choose_74 (hk19) M x1 x2 x3 s0 0 hI
  · refine V_iconst (v := 1) dX11_choose_69 rfl ?_
    refine V_goto (tgt := 74) dX11_choose_70 (by decide) ?_
    refine V_sub [1, 2, 3, 4, 0] rfl ?_
    exact vX11_choose_74 (hk19) M x1 x2 x3 s0 1 hI
def fX11_choose_115 : Nat → vM → Int32 → Int32 → Int32 → Int32 → Option (vR × vM)
  | 0, _, _, _, _, _ => none
  | n9 + 1, M, x1, x2, x3, x4 => if v_in x1 12 = true then if (M.1 136 (Int32.toNatClampNeg x1)) ≤ x4 then bv (fX11_addWay M x1 x3 x2) fun M26 => rV M26 else if v_in ((20 * x1) + x4) 240 = true then fX11_choose_115 n9 M x1 x2 (x3 + (((x2 >>> (x4 &&& (31 : Int32))) &&& 1) * (M.1 141 (Int32.toNatClampNeg ((20 * x1) + x4))))) (x4 + 1) else none else none
set_option maxRecDepth 20000 in
set_option maxHeartbeats 2000000 in
theorem vX11_choose_115 {l : Launch} {D : va_G} {dA : Nat → ClassId} : ∀ (n9 : Nat) (M : vM) (x1 : Int32) (x2 : Int32) (x3 : Int32) (x4 : Int32), v_WT M.2.2 → V l D dA sX11_choose false 175 2 0 0 115 [(0, .ref 130), (1, .int x1), (2, .int x2), (3, .int x3), (4, .int x4)] [] 175 M (fX11_choose_115 n9 M x1 x2 x3 x4) := by
  intro n9
  induction n9 with
  | zero => intros; exact V_none
  | succ n9 ih =>
    intro M x1 x2 x3 x4 hI
    refine V_iload (k := 4) dX11_choose_115 rfl ?_
    refine V_aload_n (k := 0) dX11_choose_117 rfl rfl ?_
    refine V_getr (k := 136) dX11_choose_118 rfl (by decide) vf_X11_34 (by decide) (v_fin hI 123 rfl) ?_
    refine V_iload_n (k := 1) dX11_choose_121 rfl rfl ?_
    refine V_iald dX11_choose_122 rfl (by decide) (fun h24 => ?_)
    refine V_icmpge (tgt := 154) dX11_choose_123 (by decide) (fun h25 => ?_) (fun h25 => ?_)
    · refine V_aload_n (k := 0) dX11_choose_154 rfl rfl ?_
      refine V_iload_n (k := 1) dX11_choose_155 rfl rfl ?_
      refine V_iload_n (k := 3) dX11_choose_156 rfl rfl ?_
      refine V_iload_n (k := 2) dX11_choose_157 rfl rfl ?_
      refine V_callVv (q := (RX11, TX11, 61)) (cls := 11) (st0 := []) (kc' := 0) (ks' := 0) dX11_choose_158 lk_X11_320 rfl (by decide) rfl rfl rfl (cX11_addWay_ok M x1 x3 x2 hI) rfl rfl (by decide) (by decide) (Nat.le_of_ble_eq_true rfl) (Or.inl rfl) rfl rfl (by decide) (by decide) (fun  M26 e27 hI28 => ?_)
      exact V_ret (fun _ => hI28) (Or.inl ⟨rfl, rfl⟩) dX11_choose_161 (fun ty x h1 h2 => by cases h1) rfl
    · refine V_iload_n (k := 3) dX11_choose_126 rfl rfl ?_
      refine V_iload_n (k := 2) dX11_choose_127 rfl rfl ?_
      refine V_iload (k := 4) dX11_choose_128 rfl ?_
      refine V_ishr dX11_choose_130 ?_
      refine V_iconst (v := 1) dX11_choose_131 rfl ?_
      refine V_iand dX11_choose_132 ?_
      refine V_aload_n (k := 0) dX11_choose_133 rfl rfl ?_
      refine V_getr (k := 141) dX11_choose_134 rfl (by decide) vf_X11_49 (by decide) (v_fin hI 128 rfl) ?_
      refine V_bipush (v := 20) dX11_choose_137 rfl ?_
      refine V_iload_n (k := 1) dX11_choose_139 rfl rfl ?_
      refine V_imul dX11_choose_140 ?_
      refine V_iload (k := 4) dX11_choose_141 rfl ?_
      refine V_iadd dX11_choose_143 ?_
      refine V_iald dX11_choose_144 rfl (by decide) (fun h29 => ?_)
      refine V_imul dX11_choose_145 ?_
      refine V_iadd dX11_choose_146 ?_
      refine V_istore_n (lv' := [(3, .int (x3 + (((x2 >>> (x4 &&& (31 : Int32))) &&& 1) * (M.1 141 (Int32.toNatClampNeg ((20 * x1) + x4)))))), (0, .ref 130), (1, .int x1), (2, .int x2), (4, .int x4)]) dX11_choose_147 rfl (by decide) rfl ?_
      refine V_iinc (k := 4) (v := x4 + 1) (lv' := [(4, .int (x4 + 1)), (3, .int (x3 + (((x2 >>> (x4 &&& (31 : Int32))) &&& 1) * (M.1 141 (Int32.toNatClampNeg ((20 * x1) + x4)))))), (0, .ref 130), (1, .int x1), (2, .int x2)]) dX11_choose_148 rfl rfl (by decide) rfl ?_
      refine V_goto (tgt := 115) dX11_choose_151 (by decide) ?_
      refine V_sub [2, 3, 4, 1, 0] rfl ?_
      exact ih M x1 x2 (x3 + (((x2 >>> (x4 &&& (31 : Int32))) &&& 1) * (M.1 141 (Int32.toNatClampNeg ((20 * x1) + x4))))) (x4 + 1) hI
def fX11_choose_19 : Nat → vM → Int32 → Int32 → Int32 → Option (vR × vM)
  | 0, _, _, _, _ => none
  | n9 + 1, M, x1, x2, x3 => if v_in x1 12 = true then if ((12 * x1) + (M.1 138 (Int32.toNatClampNeg x1))) ≤ x3 then fX11_choose_115 FU M x1 x2 0 0 else if v_in x3 144 = true then if ((x2 >>> ((M.1 143 (Int32.toNatClampNeg x3)) &&& (31 : Int32))) &&& 1) = 1 then fX11_choose_53 (fX11_choose_19 n9) M x1 x2 x3 1 else fX11_choose_53 (fX11_choose_19 n9) M x1 x2 x3 0 else none else none
set_option maxRecDepth 20000 in
set_option maxHeartbeats 2000000 in
theorem vX11_choose_19 {l : Launch} {D : va_G} {dA : Nat → ClassId} : ∀ (n9 : Nat) (M : vM) (x1 : Int32) (x2 : Int32) (x3 : Int32), v_WT M.2.2 → V l D dA sX11_choose false 175 2 0 0 19 [(0, .ref 130), (1, .int x1), (2, .int x2), (3, .int x3)] [] 175 M (fX11_choose_19 n9 M x1 x2 x3) := by
  intro n9
  induction n9 with
  | zero => intros; exact V_none
  | succ n9 ih =>
    intro M x1 x2 x3 hI
    refine V_iload_n (k := 3) dX11_choose_19 rfl rfl ?_
    refine V_bipush (v := 12) dX11_choose_20 rfl ?_
    refine V_iload_n (k := 1) dX11_choose_22 rfl rfl ?_
    refine V_imul dX11_choose_23 ?_
    refine V_aload_n (k := 0) dX11_choose_24 rfl rfl ?_
    refine V_getr (k := 138) dX11_choose_25 rfl (by decide) vf_X11_40 (by decide) (v_fin hI 125 rfl) ?_
    refine V_iload_n (k := 1) dX11_choose_28 rfl rfl ?_
    refine V_iald dX11_choose_29 rfl (by decide) (fun h30 => ?_)
    refine V_iadd dX11_choose_30 ?_
    refine V_icmpge (tgt := 110) dX11_choose_31 (by decide) (fun h31 => ?_) (fun h31 => ?_)
    · refine V_iconst (v := 0) dX11_choose_110 rfl ?_
      refine V_istore_n (lv' := [(3, .int 0), (0, .ref 130), (1, .int x1), (2, .int x2)]) dX11_choose_111 rfl (by decide) rfl ?_
      refine V_iconst (v := 0) dX11_choose_112 rfl ?_
      refine V_istore (lv' := [(4, .int 0), (3, .int 0), (0, .ref 130), (1, .int x1), (2, .int x2)]) dX11_choose_113 (by decide) rfl ?_
      refine V_sub [2, 3, 4, 1, 0] rfl ?_
      exact vX11_choose_115 FU M x1 x2 0 0 hI
    · refine V_iload_n (k := 2) dX11_choose_34 rfl rfl ?_
      refine V_aload_n (k := 0) dX11_choose_35 rfl rfl ?_
      refine V_getr (k := 143) dX11_choose_36 rfl (by decide) vf_X11_55 (by decide) (v_fin hI 130 rfl) ?_
      refine V_iload_n (k := 3) dX11_choose_39 rfl rfl ?_
      refine V_iald dX11_choose_40 rfl (by decide) (fun h32 => ?_)
      refine V_ishr dX11_choose_41 ?_
      refine V_iconst (v := 1) dX11_choose_42 rfl ?_
      refine V_iand dX11_choose_43 ?_
      refine V_iconst (v := 1) dX11_choose_44 rfl ?_
      refine V_icmpne (tgt := 52) dX11_choose_45 (by decide) (fun h33 => ?_) (fun h33 => ?_)
      · refine V_iconst (v := 0) dX11_choose_52 rfl ?_
        refine V_sub [0, 1, 2, 3] rfl ?_
        exact vX11_choose_53 (ih) M x1 x2 x3 0 hI
      · refine V_iconst (v := 1) dX11_choose_48 rfl ?_
        refine V_goto (tgt := 53) dX11_choose_49 (by decide) ?_
        refine V_sub [0, 1, 2, 3] rfl ?_
        exact vX11_choose_53 (ih) M x1 x2 x3 1 hI
def fX11_choose (M : vM) (x1 : Int32) (x2 : Int32) : Option (vR × vM) := bi (fX11_bitsOf M x2) fun y34 M35 => if v_in x1 12 = true then if y34 = (M35.1 133 (Int32.toNatClampNeg x1)) then fX11_choose_19 FU M35 x1 x2 (12 * x1) else rV M35 else none
set_option maxRecDepth 20000 in
set_option maxHeartbeats 2000000 in
theorem cX11_choose_ok {l : Launch} {D : va_G} {dA : Nat → ClassId} (M : vM) (x1 : Int32) (x2 : Int32) (hI : v_WT M.2.2) : Ct l D dA sX11_choose false 175 2 0 0 175 [.ref 130, .int x1, .int x2] M (fX11_choose M x1 x2) := by
  refine Ct_of (lv := [(0, .ref 130), (1, .int x1), (2, .int x2)]) (by decide +kernel) rfl (Nat.le_of_ble_eq_true rfl) rfl (fun h => by cases h) ?_
  refine V_iload_n (k := 2) dX11_choose_0 rfl rfl ?_
  refine V_callSi (st0 := []) (kc' := 0) (ks' := 0) dX11_choose_1 lk_X11_324 rfl (cX11_bitsOf_ok M x2 hI) rfl rfl (by decide) (by decide) (Nat.le_of_ble_eq_true rfl) (Or.inl rfl) rfl rfl (by decide) (by decide) (fun y34 M35 e36 hI37 => ?_)
  refine V_aload_n (k := 0) dX11_choose_4 rfl rfl ?_
  refine V_getr (k := 133) dX11_choose_5 rfl (by decide) vf_X11_25 (by decide) (v_fin hI37 120 rfl) ?_
  refine V_iload_n (k := 1) dX11_choose_8 rfl rfl ?_
  refine V_iald dX11_choose_9 rfl (by decide) (fun h38 => ?_)
  refine V_icmpeq (tgt := 14) dX11_choose_10 (by decide) (fun h39 => ?_) (fun h39 => ?_)
  · refine V_bipush (v := 12) dX11_choose_14 rfl ?_
    refine V_iload_n (k := 1) dX11_choose_16 rfl rfl ?_
    refine V_imul dX11_choose_17 ?_
    refine V_istore_n (lv' := [(3, .int (12 * x1)), (0, .ref 130), (1, .int x1), (2, .int x2)]) dX11_choose_18 rfl (by decide) rfl ?_
    refine V_sub [1, 2, 3, 0] rfl ?_
    exact vX11_choose_19 FU M35 x1 x2 (12 * x1) hI37
  · exact V_ret (fun _ => hI37) (Or.inl ⟨rfl, rfl⟩) dX11_choose_13 (fun ty x h1 h2 => by cases h1) rfl
def fX11_costLeft (M : vM) (x1 : Int32) (x2 : Int32) : Option (vR × vM) := bi (fX11_leftAt M x1 x2) fun y3 M4 => if y3 = ((-1)) then rI ((-1)) M4 else if v_in ((2000 * x1) + y3) 12000 = true then rI (M4.1 146 (Int32.toNatClampNeg ((2000 * x1) + y3))) M4 else none
set_option maxRecDepth 20000 in
set_option maxHeartbeats 2000000 in
theorem cX11_costLeft_ok {l : Launch} {D : va_G} {dA : Nat → ClassId} (M : vM) (x1 : Int32) (x2 : Int32) (hI : v_WT M.2.2) : Ct l D dA sX11_costLeft false 175 2 0 0 175 [.ref 130, .int x1, .int x2] M (fX11_costLeft M x1 x2) := by
  refine Ct_of (lv := [(0, .ref 130), (1, .int x1), (2, .int x2)]) (by decide +kernel) rfl (Nat.le_of_ble_eq_true rfl) rfl (fun h => by cases h) ?_
  refine V_aload_n (k := 0) dX11_costLeft_0 rfl rfl ?_
  refine V_iload_n (k := 1) dX11_costLeft_1 rfl rfl ?_
  refine V_iload_n (k := 2) dX11_costLeft_2 rfl rfl ?_
  refine V_callVi (q := (RX11, TX11, 61)) (cls := 11) (st0 := []) (kc' := 0) (ks' := 0) dX11_costLeft_3 lk_X11_378 rfl (by decide) rfl rfl rfl (cX11_leftAt_ok M x1 x2 hI) rfl rfl (by decide) (by decide) (Nat.le_of_ble_eq_true rfl) (Or.inl rfl) rfl rfl (by decide) (by decide) (fun y3 M4 e5 hI6 => ?_)
  refine V_istore_n (lv' := [(3, .int y3), (0, .ref 130), (1, .int x1), (2, .int x2)]) dX11_costLeft_6 rfl (by decide) rfl ?_
  refine V_iload_n (k := 0) dX11_costLeft_7 rfl rfl ?_
  refine V_iconst (v := (-1)) dX11_costLeft_8 rfl ?_
  refine V_icmpne (tgt := 16) dX11_costLeft_9 (by decide) (fun h7 => ?_) (fun h7 => ?_)
  · refine V_aload_n (k := 1) dX11_costLeft_16 rfl rfl ?_
    refine V_getr (k := 146) dX11_costLeft_17 rfl (by decide) vf_X11_64 (by decide) (v_fin hI6 133 rfl) ?_
    refine V_sipush (v := 2000) dX11_costLeft_20 rfl ?_
    refine V_iload_n (k := 2) dX11_costLeft_23 rfl rfl ?_
    refine V_imul dX11_costLeft_24 ?_
    refine V_iload_n (k := 0) dX11_costLeft_25 rfl rfl ?_
    refine V_iadd dX11_costLeft_26 ?_
    refine V_iald dX11_costLeft_27 rfl (by decide) (fun h8 => ?_)
    exact V_ret (fun _ => hI6) (Or.inr (Or.inl ⟨rfl, _, rfl⟩)) dX11_costLeft_28 (fun ty x h1 h2 => by cases h1; rfl) rfl
  · refine V_iconst (v := (-1)) dX11_costLeft_12 rfl ?_
    refine V_goto (tgt := 28) dX11_costLeft_13 (by decide) ?_
    exact V_ret (fun _ => hI6) (Or.inr (Or.inl ⟨rfl, _, rfl⟩)) dX11_costLeft_28 (fun ty x h1 h2 => by cases h1; rfl) rfl
def fX11_count (M : vM) (x1 : Int32) : Option (vR × vM) := if x1 = 0 then rI ((v_si M 130 1 0).1 130 2) (v_si M 130 1 0) else if x1 = 1 then rI ((v_si M 130 1 0).1 130 31) (v_si M 130 1 0) else if x1 = 2 then rI ((v_si M 130 1 0).1 130 21) (v_si M 130 1 0) else bi (fX11_isIn (v_si M 130 1 0) x1 3 6) fun y9 M10 => if y9 = 0 then bi (fX11_fail M10 1) fun y14 M15 => rI y14 M15 else if v_in (x1 - 3) 4 = true then rI (M10.1 156 (Int32.toNatClampNeg (x1 - 3))) M10 else none
set_option maxRecDepth 20000 in
set_option maxHeartbeats 2000000 in
theorem cX11_count_ok {l : Launch} {D : va_G} {dA : Nat → ClassId} (M : vM) (x1 : Int32) (hI : v_WT M.2.2) : Ct l D dA sX11_count false 175 2 0 0 175 [.ref 130, .int x1] M (fX11_count M x1) := by
  refine Ct_of (lv := [(0, .ref 130), (1, .int x1)]) (by decide +kernel) rfl (Nat.le_of_ble_eq_true rfl) rfl (fun h => by cases h) ?_
  refine V_aload_n (k := 0) dX11_count_0 rfl rfl ?_
  refine V_iconst (v := 0) dX11_count_1 rfl ?_
  refine V_puti dX11_count_2 rfl (by decide) vf_X11_154 (by decide) rfl rfl ?_
  refine V_iload_n (k := 1) dX11_count_5 rfl rfl ?_
  refine V_ifne (tgt := 16) dX11_count_6 (by decide) (fun h6 => ?_) (fun h6 => ?_)
  · refine V_iload_n (k := 1) dX11_count_16 rfl rfl ?_
    refine V_iconst (v := 1) dX11_count_17 rfl ?_
    refine V_icmpne (tgt := 28) dX11_count_18 (by decide) (fun h7 => ?_) (fun h7 => ?_)
    · refine V_iload_n (k := 1) dX11_count_28 rfl rfl ?_
      refine V_iconst (v := 2) dX11_count_29 rfl ?_
      refine V_icmpne (tgt := 40) dX11_count_30 (by decide) (fun h8 => ?_) (fun h8 => ?_)
      · refine V_iload_n (k := 1) dX11_count_40 rfl rfl ?_
        refine V_iconst (v := 3) dX11_count_41 rfl ?_
        refine V_bipush (v := 6) dX11_count_42 rfl ?_
        refine V_callSi (st0 := []) (kc' := 0) (ks' := 0) dX11_count_44 lk_X11_160 rfl (cX11_isIn_ok (v_si M 130 1 0) x1 3 6 hI) rfl rfl (by decide) (by decide) (Nat.le_of_ble_eq_true rfl) (Or.inl rfl) rfl rfl (by decide) (by decide) (fun y9 M10 e11 hI12 => ?_)
        refine V_ifeq (tgt := 61) dX11_count_47 (by decide) (fun h13 => ?_) (fun h13 => ?_)
        · refine V_aload_n (k := 0) dX11_count_61 rfl rfl ?_
          refine V_iconst (v := 1) dX11_count_62 rfl ?_
          refine V_callVi (q := (RX11, TX11, 61)) (cls := 11) (st0 := []) (kc' := 0) (ks' := 0) dX11_count_63 lk_X11_287 rfl (by decide) rfl rfl rfl (cX11_fail_ok M10 1 hI12) rfl rfl (by decide) (by decide) (Nat.le_of_ble_eq_true rfl) (Or.inl rfl) rfl rfl (by decide) (by decide) (fun y14 M15 e16 hI17 => ?_)
          exact V_ret (fun _ => hI17) (Or.inr (Or.inl ⟨rfl, _, rfl⟩)) dX11_count_66 (fun ty x h1 h2 => by cases h1; rfl) rfl
        · refine V_aload_n (k := 0) dX11_count_50 rfl rfl ?_
          refine V_getr (k := 156) dX11_count_51 rfl (by decide) vf_X11_95 (by decide) (v_fin hI12 143 rfl) ?_
          refine V_iload_n (k := 1) dX11_count_54 rfl rfl ?_
          refine V_iconst (v := 3) dX11_count_55 rfl ?_
          refine V_isub dX11_count_56 ?_
          refine V_iald dX11_count_57 rfl (by decide) (fun h18 => ?_)
          refine V_goto (tgt := 66) dX11_count_58 (by decide) ?_
          exact V_ret (fun _ => hI12) (Or.inr (Or.inl ⟨rfl, _, rfl⟩)) dX11_count_66 (fun ty x h1 h2 => by cases h1; rfl) rfl
      · refine V_aload_n (k := 0) dX11_count_33 rfl rfl ?_
        refine V_geti dX11_count_34 rfl (by decide) vf_X11_293 (by decide) ?_
        refine V_goto (tgt := 66) dX11_count_37 (by decide) ?_
        exact V_ret (fun _ => hI) (Or.inr (Or.inl ⟨rfl, _, rfl⟩)) dX11_count_66 (fun ty x h1 h2 => by cases h1; rfl) rfl
    · refine V_aload_n (k := 0) dX11_count_21 rfl rfl ?_
      refine V_geti dX11_count_22 rfl (by decide) vf_X11_168 (by decide) ?_
      refine V_goto (tgt := 66) dX11_count_25 (by decide) ?_
      exact V_ret (fun _ => hI) (Or.inr (Or.inl ⟨rfl, _, rfl⟩)) dX11_count_66 (fun ty x h1 h2 => by cases h1; rfl) rfl
  · refine V_aload_n (k := 0) dX11_count_9 rfl rfl ?_
    refine V_geti dX11_count_10 rfl (by decide) vf_X11_157 (by decide) ?_
    refine V_goto (tgt := 66) dX11_count_13 (by decide) ?_
    exact V_ret (fun _ => hI) (Or.inr (Or.inl ⟨rfl, _, rfl⟩)) dX11_count_66 (fun ty x h1 h2 => by cases h1; rfl) rfl
def fX11_court_43 (M : vM) : Option (vR × vM) := bi (fX11_fail M 2) fun y14 M15 => rI y14 M15
set_option maxRecDepth 20000 in
set_option maxHeartbeats 2000000 in
theorem vX11_court_43 {l : Launch} {D : va_G} {dA : Nat → ClassId} : ∀ (M : vM), v_WT M.2.2 → V l D dA sX11_court false 175 3 0 0 43 [(0, .ref 130)] [] 175 M (fX11_court_43 M) := by
  intro M hI
  refine V_aload_n (k := 0) dX11_court_43 rfl rfl ?_
  refine V_iconst (v := 2) dX11_court_44 rfl ?_
  refine V_callVi (q := (RX11, TX11, 61)) (cls := 11) (st0 := []) (kc' := 0) (ks' := 0) dX11_court_45 lk_X11_287 rfl (by decide) rfl rfl rfl (cX11_fail_ok M 2 hI) rfl rfl (by decide) (by decide) (Nat.le_of_ble_eq_true rfl) (Or.inl rfl) rfl rfl (by decide) (by decide) (fun y14 M15 e16 hI17 => ?_)
  exact V_ret (fun _ => hI17) (Or.inr (Or.inl ⟨rfl, _, rfl⟩)) dX11_court_48 (fun ty x h1 h2 => by cases h1; rfl) rfl
def fX11_court_146 (k62 : vM → Int32 → Int32 → Int32 → Int32 → Int32 → Int32 → Option (vR × vM)) (M : vM) (x1 : Int32) (x2 : Int32) (x3 : Int32) (x4 : Int32) (x5 : Int32) (x6 : Int32) (x7 : Int32) : Option (vR × vM) := if x7 = 0 then k62 M x1 x2 x3 x4 (x5 + 1) (x6 + 1) else k62 M x1 x2 x3 x4 (x5 + 0) (x6 + 1)
set_option maxRecDepth 20000 in
set_option maxHeartbeats 2000000 in
theorem vX11_court_146 {l : Launch} {D : va_G} {dA : Nat → ClassId} {k62 : vM → Int32 → Int32 → Int32 → Int32 → Int32 → Int32 → Option (vR × vM)} (hk62 : ∀ (M : vM) (x1 : Int32) (x2 : Int32) (x3 : Int32) (x4 : Int32) (x5 : Int32) (x6 : Int32), v_WT M.2.2 → V l D dA sX11_court false 175 3 0 0 62 [(0, .ref 130), (1, .int x1), (2, .int x2), (3, .int x3), (4, .int x4), (5, .int x5), (6, .int x6)] [] 175 M (k62 M x1 x2 x3 x4 x5 x6)) : ∀ (M : vM) (x1 : Int32) (x2 : Int32) (x3 : Int32) (x4 : Int32) (x5 : Int32) (x6 : Int32) (x7 : Int32), v_WT M.2.2 → V l D dA sX11_court false 175 3 0 0 146 [(0, .ref 130), (1, .int x1), (2, .int x2), (3, .int x3), (4, .int x4), (5, .int x5), (6, .int x6), (7, .int x7)] [] 175 M (fX11_court_146 k62 M x1 x2 x3 x4 x5 x6 x7) := by
  intro M x1 x2 x3 x4 x5 x6 x7 hI
  refine V_iload (k := 5) dX11_court_146 rfl ?_
  refine V_iload (k := 7) dX11_court_148 rfl ?_
  refine V_ifeq (tgt := 157) dX11_court_150 (by decide) (fun h18 => ?_) (fun h18 => ?_)
  · refine V_iconst (v := 1) dX11_court_157 rfl ?_
    refine V_iadd dX11_court_158 ?_
    refine V_istore (lv' := [(5, .int (x5 + 1)), (0, .ref 130), (1, .int x1), (2, .int x2), (3, .int x3), (4, .int x4), (6, .int x6), (7, .int x7)]) dX11_court_159 (by decide) rfl ?_
    refine V_iinc (k := 6) (v := x6 + 1) (lv' := [(6, .int (x6 + 1)), (5, .int (x5 + 1)), (0, .ref 130), (1, .int x1), (2, .int x2), (3, .int x3), (4, .int x4), (7, .int x7)]) dX11_court_161 rfl rfl (by decide) rfl ?_
    refine V_goto (tgt := 62) dX11_court_164 (by decide) ?_
    refine V_sub [2, 3, 4, 5, 6, 1, 0] rfl ?_
    exact hk62 M x1 x2 x3 x4 (x5 + 1) (x6 + 1) hI
  · refine V_iconst (v := 0) dX11_court_153 rfl ?_
    refine V_goto (tgt := 158) dX11_court_154 (by decide) ?_
    refine V_iadd dX11_court_158 ?_
    refine V_istore (lv' := [(5, .int (x5 + 0)), (0, .ref 130), (1, .int x1), (2, .int x2), (3, .int x3), (4, .int x4), (6, .int x6), (7, .int x7)]) dX11_court_159 (by decide) rfl ?_
    refine V_iinc (k := 6) (v := x6 + 1) (lv' := [(6, .int (x6 + 1)), (5, .int (x5 + 0)), (0, .ref 130), (1, .int x1), (2, .int x2), (3, .int x3), (4, .int x4), (7, .int x7)]) dX11_court_161 rfl rfl (by decide) rfl ?_
    refine V_goto (tgt := 62) dX11_court_164 (by decide) ?_
    refine V_sub [2, 3, 4, 5, 6, 1, 0] rfl ?_
    exact hk62 M x1 x2 x3 x4 (x5 + 0) (x6 + 1) hI
def fX11_court_79 (k62 : vM → Int32 → Int32 → Int32 → Int32 → Int32 → Int32 → Option (vR × vM)) : Nat → vM → Int32 → Int32 → Int32 → Int32 → Int32 → Int32 → Int32 → Int32 → Option (vR × vM)
  | 0, _, _, _, _, _, _, _, _, _ => none
  | n9 + 1, M, x1, x2, x3, x4, x5, x6, x7, x8 => if (M.1 130 21) ≤ x8 then fX11_court_146 (k62) M x1 x2 x3 x4 x5 x6 x7 else if x7 = 0 then if v_in x8 400 = true then if (M.1 149 (Int32.toNatClampNeg x8)) = x1 then bi (fX11_markOf M x1 x6) fun y23 M24 => if v_in x8 400 = true then bi (fX11_markOf M24 x1 (M24.1 150 (Int32.toNatClampNeg x8))) fun y28 M29 => bi (fX11_areSame M29 y23 y28 x2 x4 x3) fun y32 M33 => if y32 = 0 then fX11_court_79 k62 n9 M33 x1 x2 x3 x4 x5 x6 0 (x8 + 1) else fX11_court_79 k62 n9 M33 x1 x2 x3 x4 x5 x6 1 (x8 + 1) else none else fX11_court_79 k62 n9 M x1 x2 x3 x4 x5 x6 0 (x8 + 1) else none else fX11_court_146 (k62) M x1 x2 x3 x4 x5 x6 x7
set_option maxRecDepth 20000 in
set_option maxHeartbeats 2000000 in
theorem vX11_court_79 {l : Launch} {D : va_G} {dA : Nat → ClassId} {k62 : vM → Int32 → Int32 → Int32 → Int32 → Int32 → Int32 → Option (vR × vM)} (hk62 : ∀ (M : vM) (x1 : Int32) (x2 : Int32) (x3 : Int32) (x4 : Int32) (x5 : Int32) (x6 : Int32), v_WT M.2.2 → V l D dA sX11_court false 175 3 0 0 62 [(0, .ref 130), (1, .int x1), (2, .int x2), (3, .int x3), (4, .int x4), (5, .int x5), (6, .int x6)] [] 175 M (k62 M x1 x2 x3 x4 x5 x6)) : ∀ (n9 : Nat) (M : vM) (x1 : Int32) (x2 : Int32) (x3 : Int32) (x4 : Int32) (x5 : Int32) (x6 : Int32) (x7 : Int32) (x8 : Int32), v_WT M.2.2 → V l D dA sX11_court false 175 3 0 0 79 [(0, .ref 130), (1, .int x1), (2, .int x2), (3, .int x3), (4, .int x4), (5, .int x5), (6, .int x6), (7, .int x7), (8, .int x8)] [] 175 M (fX11_court_79 k62 n9 M x1 x2 x3 x4 x5 x6 x7 x8) := by
  intro n9
  induction n9 with
  | zero => intros; exact V_none
  | succ n9 ih =>
    intro M x1 x2 x3 x4 x5 x6 x7 x8 hI
    refine V_iload (k := 8) dX11_court_79 rfl ?_
    refine V_aload_n (k := 0) dX11_court_81 rfl rfl ?_
    refine V_geti dX11_court_82 rfl (by decide) vf_X11_293 (by decide) ?_
    refine V_icmpge (tgt := 146) dX11_court_85 (by decide) (fun h19 => ?_) (fun h19 => ?_)
    · refine V_sub [0, 1, 2, 3, 4, 5, 6, 7] rfl ?_
      exact vX11_court_146 (hk62) M x1 x2 x3 x4 x5 x6 x7 hI
    · refine V_iload (k := 7) dX11_court_88 rfl ?_
      refine V_ifne (tgt := 146) dX11_court_90 (by decide) (fun h20 => ?_) (fun h20 => ?_)
      · refine V_sub [0, 1, 2, 3, 4, 5, 6, 7] rfl ?_
        exact vX11_court_146 (hk62) M x1 x2 x3 x4 x5 x6 x7 hI
      · refine V_aload_n (k := 0) dX11_court_93 rfl rfl ?_
        refine V_getr (k := 149) dX11_court_94 rfl (by decide) vf_X11_74 (by decide) (v_fin hI 136 rfl) ?_
        refine V_iload (k := 8) dX11_court_97 rfl ?_
        refine V_iald dX11_court_99 rfl (by decide) (fun h21 => ?_)
        refine V_iload_n (k := 1) dX11_court_100 rfl rfl ?_
        refine V_icmpne (tgt := 137) dX11_court_101 (by decide) (fun h22 => ?_) (fun h22 => ?_)
        · refine V_iconst (v := 0) dX11_court_137 rfl ?_
          refine V_istore (lv' := [(7, .int 0), (0, .ref 130), (1, .int x1), (2, .int x2), (3, .int x3), (4, .int x4), (5, .int x5), (6, .int x6), (8, .int x8)]) dX11_court_138 (by decide) rfl ?_
          refine V_iinc (k := 8) (v := x8 + 1) (lv' := [(8, .int (x8 + 1)), (7, .int 0), (0, .ref 130), (1, .int x1), (2, .int x2), (3, .int x3), (4, .int x4), (5, .int x5), (6, .int x6)]) dX11_court_140 rfl rfl (by decide) rfl ?_
          refine V_goto (tgt := 79) dX11_court_143 (by decide) ?_
          refine V_sub [2, 3, 4, 5, 6, 7, 8, 1, 0] rfl ?_
          exact ih M x1 x2 x3 x4 x5 x6 0 (x8 + 1) hI
        · refine V_aload_n (k := 0) dX11_court_104 rfl rfl ?_
          refine V_iload_n (k := 1) dX11_court_105 rfl rfl ?_
          refine V_iload (k := 6) dX11_court_106 rfl ?_
          refine V_callVi (q := (RX11, TX11, 61)) (cls := 11) (st0 := []) (kc' := 0) (ks' := 0) dX11_court_108 lk_X11_349 rfl (by decide) rfl rfl rfl (cX11_markOf_ok M x1 x6 hI) rfl rfl (by decide) (by decide) (Nat.le_of_ble_eq_true rfl) (Or.inl rfl) rfl rfl (by decide) (by decide) (fun y23 M24 e25 hI26 => ?_)
          refine V_aload_n (k := 0) dX11_court_111 rfl rfl ?_
          refine V_iload_n (k := 1) dX11_court_112 rfl rfl ?_
          refine V_aload_n (k := 0) dX11_court_113 rfl rfl ?_
          refine V_getr (k := 150) dX11_court_114 rfl (by decide) vf_X11_77 (by decide) (v_fin hI26 137 rfl) ?_
          refine V_iload (k := 8) dX11_court_117 rfl ?_
          refine V_iald dX11_court_119 rfl (by decide) (fun h27 => ?_)
          refine V_callVi (q := (RX11, TX11, 61)) (cls := 11) (st0 := [.int y23]) (kc' := 0) (ks' := 0) dX11_court_120 lk_X11_349 rfl (by decide) rfl rfl rfl (cX11_markOf_ok M24 x1 (M24.1 150 (Int32.toNatClampNeg x8)) hI26) rfl rfl (by decide) (by decide) (Nat.le_of_ble_eq_true rfl) (Or.inl rfl) rfl rfl (by decide) (by decide) (fun y28 M29 e30 hI31 => ?_)
          refine V_iload_n (k := 2) dX11_court_123 rfl rfl ?_
          refine V_iload (k := 4) dX11_court_124 rfl ?_
          refine V_iload_n (k := 3) dX11_court_126 rfl rfl ?_
          refine V_callSi (st0 := []) (kc' := 0) (ks' := 0) dX11_court_127 lk_X11_345 rfl (cX11_areSame_ok M29 y23 y28 x2 x4 x3 hI31) rfl rfl (by decide) (by decide) (Nat.le_of_ble_eq_true rfl) (Or.inl rfl) rfl rfl (by decide) (by decide) (fun y32 M33 e34 hI35 => ?_)
          refine V_ifeq (tgt := 137) dX11_court_130 (by decide) (fun h36 => ?_) (fun h36 => ?_)
          · refine V_iconst (v := 0) dX11_court_137 rfl ?_
            refine V_istore (lv' := [(7, .int 0), (0, .ref 130), (1, .int x1), (2, .int x2), (3, .int x3), (4, .int x4), (5, .int x5), (6, .int x6), (8, .int x8)]) dX11_court_138 (by decide) rfl ?_
            refine V_iinc (k := 8) (v := x8 + 1) (lv' := [(8, .int (x8 + 1)), (7, .int 0), (0, .ref 130), (1, .int x1), (2, .int x2), (3, .int x3), (4, .int x4), (5, .int x5), (6, .int x6)]) dX11_court_140 rfl rfl (by decide) rfl ?_
            refine V_goto (tgt := 79) dX11_court_143 (by decide) ?_
            refine V_sub [2, 3, 4, 5, 6, 7, 8, 1, 0] rfl ?_
            exact ih M33 x1 x2 x3 x4 x5 x6 0 (x8 + 1) hI35
          · refine V_iconst (v := 1) dX11_court_133 rfl ?_
            refine V_goto (tgt := 138) dX11_court_134 (by decide) ?_
            refine V_istore (lv' := [(7, .int 1), (0, .ref 130), (1, .int x1), (2, .int x2), (3, .int x3), (4, .int x4), (5, .int x5), (6, .int x6), (8, .int x8)]) dX11_court_138 (by decide) rfl ?_
            refine V_iinc (k := 8) (v := x8 + 1) (lv' := [(8, .int (x8 + 1)), (7, .int 1), (0, .ref 130), (1, .int x1), (2, .int x2), (3, .int x3), (4, .int x4), (5, .int x5), (6, .int x6)]) dX11_court_140 rfl rfl (by decide) rfl ?_
            refine V_goto (tgt := 79) dX11_court_143 (by decide) ?_
            refine V_sub [2, 3, 4, 5, 6, 7, 8, 1, 0] rfl ?_
            exact ih M33 x1 x2 x3 x4 x5 x6 1 (x8 + 1) hI35
def fX11_court_62 : Nat → vM → Int32 → Int32 → Int32 → Int32 → Int32 → Int32 → Option (vR × vM)
  | 0, _, _, _, _, _, _, _ => none
  | n9 + 1, M, x1, x2, x3, x4, x5, x6 => if v_in x1 6 = true then if (M.1 145 (Int32.toNatClampNeg x1)) ≤ x6 then rI x5 M else fX11_court_79 (fX11_court_62 n9) FU M x1 x2 x3 x4 x5 x6 0 0 else none
set_option maxRecDepth 20000 in
set_option maxHeartbeats 2000000 in
theorem vX11_court_62 {l : Launch} {D : va_G} {dA : Nat → ClassId} : ∀ (n9 : Nat) (M : vM) (x1 : Int32) (x2 : Int32) (x3 : Int32) (x4 : Int32) (x5 : Int32) (x6 : Int32), v_WT M.2.2 → V l D dA sX11_court false 175 3 0 0 62 [(0, .ref 130), (1, .int x1), (2, .int x2), (3, .int x3), (4, .int x4), (5, .int x5), (6, .int x6)] [] 175 M (fX11_court_62 n9 M x1 x2 x3 x4 x5 x6) := by
  intro n9
  induction n9 with
  | zero => intros; exact V_none
  | succ n9 ih =>
    intro M x1 x2 x3 x4 x5 x6 hI
    refine V_iload (k := 6) dX11_court_62 rfl ?_
    refine V_aload_n (k := 0) dX11_court_64 rfl rfl ?_
    refine V_getr (k := 145) dX11_court_65 rfl (by decide) vf_X11_61 (by decide) (v_fin hI 132 rfl) ?_
    refine V_iload_n (k := 1) dX11_court_68 rfl rfl ?_
    refine V_iald dX11_court_69 rfl (by decide) (fun h37 => ?_)
    refine V_icmpge (tgt := 167) dX11_court_70 (by decide) (fun h38 => ?_) (fun h38 => ?_)
    · refine V_iload (k := 5) dX11_court_167 rfl ?_
      exact V_ret (fun _ => hI) (Or.inr (Or.inl ⟨rfl, _, rfl⟩)) dX11_court_169 (fun ty x h1 h2 => by cases h1; rfl) rfl
    · refine V_iconst (v := 0) dX11_court_73 rfl ?_
      refine V_istore (lv' := [(7, .int 0), (0, .ref 130), (1, .int x1), (2, .int x2), (3, .int x3), (4, .int x4), (5, .int x5), (6, .int x6)]) dX11_court_74 (by decide) rfl ?_
      refine V_iconst (v := 0) dX11_court_76 rfl ?_
      refine V_istore (lv' := [(8, .int 0), (7, .int 0), (0, .ref 130), (1, .int x1), (2, .int x2), (3, .int x3), (4, .int x4), (5, .int x5), (6, .int x6)]) dX11_court_77 (by decide) rfl ?_
      refine V_sub [2, 3, 4, 5, 6, 7, 8, 1, 0] rfl ?_
      exact vX11_court_79 (ih) FU M x1 x2 x3 x4 x5 x6 0 0 hI
def fX11_court_49 (M : vM) (x1 : Int32) (x2 : Int32) (x3 : Int32) : Option (vR × vM) := bi (fX11_freeBits M x1) fun y39 M40 => fX11_court_62 FU M40 x1 x2 x3 y39 0 0
set_option maxRecDepth 20000 in
set_option maxHeartbeats 2000000 in
theorem vX11_court_49 {l : Launch} {D : va_G} {dA : Nat → ClassId} : ∀ (M : vM) (x1 : Int32) (x2 : Int32) (x3 : Int32), v_WT M.2.2 → V l D dA sX11_court false 175 3 0 0 49 [(0, .ref 130), (1, .int x1), (2, .int x2), (3, .int x3)] [] 175 M (fX11_court_49 M x1 x2 x3) := by
  intro M x1 x2 x3 hI
  refine V_aload_n (k := 0) dX11_court_49 rfl rfl ?_
  refine V_iload_n (k := 1) dX11_court_50 rfl rfl ?_
  refine V_callVi (q := (RX11, TX11, 61)) (cls := 11) (st0 := []) (kc' := 0) (ks' := 0) dX11_court_51 lk_X11_342 rfl (by decide) rfl rfl rfl (cX11_freeBits_ok M x1 hI) rfl rfl (by decide) (by decide) (Nat.le_of_ble_eq_true rfl) (Or.inl rfl) rfl rfl (by decide) (by decide) (fun y39 M40 e41 hI42 => ?_)
  refine V_istore (lv' := [(4, .int y39), (0, .ref 130), (1, .int x1), (2, .int x2), (3, .int x3)]) dX11_court_54 (by decide) rfl ?_
  refine V_iconst (v := 0) dX11_court_56 rfl ?_
  refine V_istore (lv' := [(5, .int 0), (4, .int y39), (0, .ref 130), (1, .int x1), (2, .int x2), (3, .int x3)]) dX11_court_57 (by decide) rfl ?_
  refine V_iconst (v := 0) dX11_court_59 rfl ?_
  refine V_istore (lv' := [(6, .int 0), (5, .int 0), (4, .int y39), (0, .ref 130), (1, .int x1), (2, .int x2), (3, .int x3)]) dX11_court_60 (by decide) rfl ?_
  refine V_sub [3, 4, 5, 6, 2, 1, 0] rfl ?_
  exact vX11_court_62 FU M40 x1 x2 x3 y39 0 0 hI42
def fX11_court (M : vM) (x1 : Int32) (x2 : Int32) (x3 : Int32) : Option (vR × vM) := bi (fX11_isWork (v_si M 130 1 0) x1) fun y43 M44 => if y43 = 0 then bi (fX11_fail M44 1) fun y59 M60 => rI y59 M60 else bi (fX11_isIn M44 x2 0 2) fun y48 M49 => if y48 = 0 then fX11_court_43 M49 else if x2 = 2 then bi (fX11_isIn M49 x3 1 9) fun y54 M55 => if y54 = 0 then fX11_court_43 M55 else fX11_court_49 M55 x1 x2 x3 else fX11_court_49 M49 x1 x2 x3
set_option maxRecDepth 20000 in
set_option maxHeartbeats 2000000 in
theorem cX11_court_ok {l : Launch} {D : va_G} {dA : Nat → ClassId} (M : vM) (x1 : Int32) (x2 : Int32) (x3 : Int32) (hI : v_WT M.2.2) : Ct l D dA sX11_court false 175 3 0 0 175 [.ref 130, .int x1, .int x2, .int x3] M (fX11_court M x1 x2 x3) := by
  refine Ct_of (lv := [(0, .ref 130), (1, .int x1), (2, .int x2), (3, .int x3)]) (by decide +kernel) rfl (Nat.le_of_ble_eq_true rfl) rfl (fun h => by cases h) ?_
  refine V_aload_n (k := 0) dX11_court_0 rfl rfl ?_
  refine V_iconst (v := 0) dX11_court_1 rfl ?_
  refine V_puti dX11_court_2 rfl (by decide) vf_X11_154 (by decide) rfl rfl ?_
  refine V_aload_n (k := 0) dX11_court_5 rfl rfl ?_
  refine V_iload_n (k := 1) dX11_court_6 rfl rfl ?_
  refine V_callVi (q := (RX11, TX11, 61)) (cls := 11) (st0 := []) (kc' := 0) (ks' := 0) dX11_court_7 lk_X11_164 rfl (by decide) rfl rfl rfl (cX11_isWork_ok (v_si M 130 1 0) x1 hI) rfl rfl (by decide) (by decide) (Nat.le_of_ble_eq_true rfl) (Or.inl rfl) rfl rfl (by decide) (by decide) (fun y43 M44 e45 hI46 => ?_)
  refine V_ifne (tgt := 19) dX11_court_10 (by decide) (fun h47 => ?_) (fun h47 => ?_)
  · refine V_iload_n (k := 2) dX11_court_19 rfl rfl ?_
    refine V_iconst (v := 0) dX11_court_20 rfl ?_
    refine V_iconst (v := 2) dX11_court_21 rfl ?_
    refine V_callSi (st0 := []) (kc' := 0) (ks' := 0) dX11_court_22 lk_X11_160 rfl (cX11_isIn_ok M44 x2 0 2 hI46) rfl rfl (by decide) (by decide) (Nat.le_of_ble_eq_true rfl) (Or.inl rfl) rfl rfl (by decide) (by decide) (fun y48 M49 e50 hI51 => ?_)
    refine V_ifeq (tgt := 43) dX11_court_25 (by decide) (fun h52 => ?_) (fun h52 => ?_)
    · refine V_sub [0] rfl ?_
      exact vX11_court_43 M49 hI51
    · refine V_iload_n (k := 2) dX11_court_28 rfl rfl ?_
      refine V_iconst (v := 2) dX11_court_29 rfl ?_
      refine V_icmpne (tgt := 49) dX11_court_30 (by decide) (fun h53 => ?_) (fun h53 => ?_)
      · refine V_sub [0, 1, 2, 3] rfl ?_
        exact vX11_court_49 M49 x1 x2 x3 hI51
      · refine V_iload_n (k := 3) dX11_court_33 rfl rfl ?_
        refine V_iconst (v := 1) dX11_court_34 rfl ?_
        refine V_bipush (v := 9) dX11_court_35 rfl ?_
        refine V_callSi (st0 := []) (kc' := 0) (ks' := 0) dX11_court_37 lk_X11_160 rfl (cX11_isIn_ok M49 x3 1 9 hI51) rfl rfl (by decide) (by decide) (Nat.le_of_ble_eq_true rfl) (Or.inl rfl) rfl rfl (by decide) (by decide) (fun y54 M55 e56 hI57 => ?_)
        refine V_ifne (tgt := 49) dX11_court_40 (by decide) (fun h58 => ?_) (fun h58 => ?_)
        · refine V_sub [0, 1, 2, 3] rfl ?_
          exact vX11_court_49 M55 x1 x2 x3 hI57
        · refine V_sub [0] rfl ?_
          exact vX11_court_43 M55 hI57
  · refine V_aload_n (k := 0) dX11_court_13 rfl rfl ?_
    refine V_iconst (v := 1) dX11_court_14 rfl ?_
    refine V_callVi (q := (RX11, TX11, 61)) (cls := 11) (st0 := []) (kc' := 0) (ks' := 0) dX11_court_15 lk_X11_287 rfl (by decide) rfl rfl rfl (cX11_fail_ok M44 1 hI46) rfl rfl (by decide) (by decide) (Nat.le_of_ble_eq_true rfl) (Or.inl rfl) rfl rfl (by decide) (by decide) (fun y59 M60 e61 hI62 => ?_)
    exact V_ret (fun _ => hI62) (Or.inr (Or.inl ⟨rfl, _, rfl⟩)) dX11_court_18 (fun ty x h1 h2 => by cases h1; rfl) rfl
