def fX11_tellLasts_43 : Nat → vM → Int32 → Int32 → Int32 → Option (vR × vM)
  | 0, _, _, _, _ => none
  | n9 + 1, M, x1, x2, x3 => if v_in x1 6 = true then if (M.1 145 (Int32.toNatClampNeg x1)) ≤ x3 then rV M else if x2 ≤ (M.1 130 44) then rV M else if v_in x3 2000 = true then if (M.1 159 (Int32.toNatClampNeg x3)) = 0 then if v_in (M.1 130 44) 2000 = true then bv (fX11_spend (v_si (v_si M 160 (Int32.toNatClampNeg (M.1 130 44)) x3) 130 44 (((v_si M 160 (Int32.toNatClampNeg (M.1 130 44)) x3).1 130 44) + 1)) x1 x3 159 0) fun M17 => fX11_tellLasts_43 n9 M17 x1 x2 (x3 + 1) else none else fX11_tellLasts_43 n9 M x1 x2 (x3 + 1) else none else none
set_option maxRecDepth 20000 in
set_option maxHeartbeats 2000000 in
theorem vX11_tellLasts_43 {l : Launch} {D : va_G} {dA : Nat → ClassId} : ∀ (n9 : Nat) (M : vM) (x1 : Int32) (x2 : Int32) (x3 : Int32), v_WT M.2.2 → V l D dA sX11_tellLasts false 175 4 0 0 43 [(0, .ref 130), (1, .int x1), (2, .int x2), (3, .int x3)] [] 175 M (fX11_tellLasts_43 n9 M x1 x2 x3) := by
  intro n9
  induction n9 with
  | zero => intros; exact V_none
  | succ n9 ih =>
    intro M x1 x2 x3 hI
    refine V_iload_n (k := 3) dX11_tellLasts_43 rfl rfl ?_
    refine V_aload_n (k := 0) dX11_tellLasts_44 rfl rfl ?_
    refine V_getr (k := 145) dX11_tellLasts_45 rfl (by decide) vf_X11_61 (by decide) (v_fin hI 132 rfl) ?_
    refine V_iload_n (k := 1) dX11_tellLasts_48 rfl rfl ?_
    refine V_iald dX11_tellLasts_49 rfl (by decide) (fun h11 => ?_)
    refine V_icmpge (tgt := 110) dX11_tellLasts_50 (by decide) (fun h12 => ?_) (fun h12 => ?_)
    · exact V_ret (fun _ => hI) (Or.inl ⟨rfl, rfl⟩) dX11_tellLasts_110 (fun ty x h1 h2 => by cases h1) rfl
    · refine V_aload_n (k := 0) dX11_tellLasts_53 rfl rfl ?_
      refine V_geti dX11_tellLasts_54 rfl (by decide) vf_X11_388 (by decide) ?_
      refine V_iload_n (k := 2) dX11_tellLasts_57 rfl rfl ?_
      refine V_icmpge (tgt := 110) dX11_tellLasts_58 (by decide) (fun h13 => ?_) (fun h13 => ?_)
      · exact V_ret (fun _ => hI) (Or.inl ⟨rfl, rfl⟩) dX11_tellLasts_110 (fun ty x h1 h2 => by cases h1) rfl
      · refine V_aload_n (k := 0) dX11_tellLasts_61 rfl rfl ?_
        refine V_getr (k := 159) dX11_tellLasts_62 rfl (by decide) vf_X11_108 (by decide) (v_fin hI 146 rfl) ?_
        refine V_iload_n (k := 3) dX11_tellLasts_65 rfl rfl ?_
        refine V_zald dX11_tellLasts_66 rfl (by decide) (fun h14 => ?_)
        refine V_ifeq (tgt := 73) dX11_tellLasts_67 (by decide) (fun h15 => ?_) (fun h15 => ?_)
        · refine V_aload_n (k := 0) dX11_tellLasts_73 rfl rfl ?_
          refine V_getr (k := 160) dX11_tellLasts_74 rfl (by decide) vf_X11_111 (by decide) (v_fin hI 147 rfl) ?_
          refine V_aload_n (k := 0) dX11_tellLasts_77 rfl rfl ?_
          refine V_geti dX11_tellLasts_78 rfl (by decide) vf_X11_388 (by decide) ?_
          refine V_iload_n (k := 3) dX11_tellLasts_81 rfl rfl ?_
          refine V_iast dX11_tellLasts_82 rfl (by decide) (fun h16 => ?_)
          refine V_aload_n (k := 0) dX11_tellLasts_83 rfl rfl ?_
          refine V_dup dX11_tellLasts_84 rfl ?_
          refine V_geti dX11_tellLasts_85 rfl (by decide) vf_X11_388 (by decide) ?_
          refine V_iconst (v := 1) dX11_tellLasts_88 rfl ?_
          refine V_iadd dX11_tellLasts_89 ?_
          refine V_puti dX11_tellLasts_90 rfl (by decide) vf_X11_388 (by decide) rfl rfl ?_
          refine V_aload_n (k := 0) dX11_tellLasts_93 rfl rfl ?_
          refine V_iload_n (k := 1) dX11_tellLasts_94 rfl rfl ?_
          refine V_iload_n (k := 3) dX11_tellLasts_95 rfl rfl ?_
          refine V_aload_n (k := 0) dX11_tellLasts_96 rfl rfl ?_
          refine V_getr (k := 159) dX11_tellLasts_97 rfl (by decide) vf_X11_108 (by decide) (v_fin hI 146 rfl) ?_
          refine V_iconst (v := 0) dX11_tellLasts_100 rfl ?_
          refine V_callVv (q := (RX11, TX11, 61)) (cls := 11) (st0 := []) (kc' := 0) (ks' := 0) dX11_tellLasts_101 lk_X11_352 rfl (by decide) rfl rfl rfl (cX11_spend_ok (v_si (v_si M 160 (Int32.toNatClampNeg (M.1 130 44)) x3) 130 44 (((v_si M 160 (Int32.toNatClampNeg (M.1 130 44)) x3).1 130 44) + 1)) x1 x3 159 0 (v_isA_of (by decide) rfl) hI) rfl rfl (by decide) (by decide) (Nat.le_of_ble_eq_true rfl) (Or.inl rfl) rfl rfl (by decide) (by decide) (fun  M17 e18 hI19 => ?_)
          refine V_iinc (k := 3) (v := x3 + 1) (lv' := [(3, .int (x3 + 1)), (0, .ref 130), (1, .int x1), (2, .int x2)]) dX11_tellLasts_104 rfl rfl (by decide) rfl ?_
          refine V_goto (tgt := 43) dX11_tellLasts_107 (by decide) ?_
          refine V_sub [1, 2, 3, 0] rfl ?_
          exact ih M17 x1 x2 (x3 + 1) hI19
        · refine V_goto (tgt := 104) dX11_tellLasts_70 (by decide) ?_
          refine V_iinc (k := 3) (v := x3 + 1) (lv' := [(3, .int (x3 + 1)), (0, .ref 130), (1, .int x1), (2, .int x2)]) dX11_tellLasts_104 rfl rfl (by decide) rfl ?_
          refine V_goto (tgt := 43) dX11_tellLasts_107 (by decide) ?_
          refine V_sub [1, 2, 3, 0] rfl ?_
          exact ih M x1 x2 (x3 + 1) hI
def fX11_tellLasts_2 : Nat → vM → Int32 → Int32 → Int32 → Option (vR × vM)
  | 0, _, _, _, _ => none
  | n9 + 1, M, x1, x2, x3 => if v_in x1 6 = true then if (M.1 145 (Int32.toNatClampNeg x1)) ≤ x3 then fX11_tellLasts_43 FU (v_si M 130 44 0) x1 x2 0 else if v_in ((2000 * x1) + x3) 12000 = true then if v_in x3 2000 = true then fX11_tellLasts_2 n9 (v_si M 159 (Int32.toNatClampNeg x3) (v_nz (M.1 148 (Int32.toNatClampNeg ((2000 * x1) + x3))))) x1 x2 (x3 + 1) else none else none else none
set_option maxRecDepth 20000 in
set_option maxHeartbeats 2000000 in
theorem vX11_tellLasts_2 {l : Launch} {D : va_G} {dA : Nat → ClassId} : ∀ (n9 : Nat) (M : vM) (x1 : Int32) (x2 : Int32) (x3 : Int32), v_WT M.2.2 → V l D dA sX11_tellLasts false 175 4 0 0 2 [(0, .ref 130), (1, .int x1), (2, .int x2), (3, .int x3)] [] 175 M (fX11_tellLasts_2 n9 M x1 x2 x3) := by
  intro n9
  induction n9 with
  | zero => intros; exact V_none
  | succ n9 ih =>
    intro M x1 x2 x3 hI
    refine V_iload_n (k := 3) dX11_tellLasts_2 rfl rfl ?_
    refine V_aload_n (k := 0) dX11_tellLasts_3 rfl rfl ?_
    refine V_getr (k := 145) dX11_tellLasts_4 rfl (by decide) vf_X11_61 (by decide) (v_fin hI 132 rfl) ?_
    refine V_iload_n (k := 1) dX11_tellLasts_7 rfl rfl ?_
    refine V_iald dX11_tellLasts_8 rfl (by decide) (fun h20 => ?_)
    refine V_icmpge (tgt := 36) dX11_tellLasts_9 (by decide) (fun h21 => ?_) (fun h21 => ?_)
    · refine V_aload_n (k := 0) dX11_tellLasts_36 rfl rfl ?_
      refine V_iconst (v := 0) dX11_tellLasts_37 rfl ?_
      refine V_puti dX11_tellLasts_38 rfl (by decide) vf_X11_388 (by decide) rfl rfl ?_
      refine V_iconst (v := 0) dX11_tellLasts_41 rfl ?_
      refine V_istore_n (lv' := [(3, .int 0), (0, .ref 130), (1, .int x1), (2, .int x2)]) dX11_tellLasts_42 rfl (by decide) rfl ?_
      refine V_sub [1, 2, 3, 0] rfl ?_
      exact vX11_tellLasts_43 FU (v_si M 130 44 0) x1 x2 0 hI
    · refine V_aload_n (k := 0) dX11_tellLasts_12 rfl rfl ?_
      refine V_getr (k := 159) dX11_tellLasts_13 rfl (by decide) vf_X11_108 (by decide) (v_fin hI 146 rfl) ?_
      refine V_iload_n (k := 3) dX11_tellLasts_16 rfl rfl ?_
      refine V_aload_n (k := 0) dX11_tellLasts_17 rfl rfl ?_
      refine V_getr (k := 148) dX11_tellLasts_18 rfl (by decide) vf_X11_70 (by decide) (v_fin hI 135 rfl) ?_
      refine V_sipush (v := 2000) dX11_tellLasts_21 rfl ?_
      refine V_iload_n (k := 1) dX11_tellLasts_24 rfl rfl ?_
      refine V_imul dX11_tellLasts_25 ?_
      refine V_iload_n (k := 3) dX11_tellLasts_26 rfl rfl ?_
      refine V_iadd dX11_tellLasts_27 ?_
      refine V_zald dX11_tellLasts_28 rfl (by decide) (fun h22 => ?_)
      refine V_zast dX11_tellLasts_29 rfl (by decide) (fun h23 => ?_)
      refine V_iinc (k := 3) (v := x3 + 1) (lv' := [(3, .int (x3 + 1)), (0, .ref 130), (1, .int x1), (2, .int x2)]) dX11_tellLasts_30 rfl rfl (by decide) rfl ?_
      refine V_goto (tgt := 2) dX11_tellLasts_33 (by decide) ?_
      refine V_sub [1, 2, 3, 0] rfl ?_
      exact ih (v_si M 159 (Int32.toNatClampNeg x3) (v_nz (M.1 148 (Int32.toNatClampNeg ((2000 * x1) + x3))))) x1 x2 (x3 + 1) hI
def fX11_tellLasts (M : vM) (x1 : Int32) (x2 : Int32) : Option (vR × vM) := fX11_tellLasts_2 FU M x1 x2 0
set_option maxRecDepth 20000 in
set_option maxHeartbeats 2000000 in
theorem cX11_tellLasts_ok {l : Launch} {D : va_G} {dA : Nat → ClassId} (M : vM) (x1 : Int32) (x2 : Int32) (hI : v_WT M.2.2) : Ct l D dA sX11_tellLasts false 175 4 0 0 175 [.ref 130, .int x1, .int x2] M (fX11_tellLasts M x1 x2) := by
  refine Ct_of (lv := [(0, .ref 130), (1, .int x1), (2, .int x2)]) (by decide +kernel) rfl (Nat.le_of_ble_eq_true rfl) rfl (fun h => by cases h) ?_
  refine V_iconst (v := 0) dX11_tellLasts_0 rfl ?_
  refine V_istore_n (lv' := [(3, .int 0), (0, .ref 130), (1, .int x1), (2, .int x2)]) dX11_tellLasts_1 rfl (by decide) rfl ?_
  refine V_sub [1, 2, 3, 0] rfl ?_
  exact vX11_tellLasts_2 FU M x1 x2 0 hI
def fX11_chance_40 (M : vM) : Option (vR × vM) := bi (fX11_fail M 2) fun y24 M25 => rI y24 M25
set_option maxRecDepth 20000 in
set_option maxHeartbeats 2000000 in
theorem vX11_chance_40 {l : Launch} {D : va_G} {dA : Nat → ClassId} : ∀ (M : vM), v_WT M.2.2 → V l D dA sX11_chance false 175 5 0 0 40 [(0, .ref 130)] [] 175 M (fX11_chance_40 M) := by
  intro M hI
  refine V_aload_n (k := 0) dX11_chance_40 rfl rfl ?_
  refine V_iconst (v := 2) dX11_chance_41 rfl ?_
  refine V_callVi (q := (RX11, TX11, 61)) (cls := 11) (st0 := []) (kc' := 0) (ks' := 0) dX11_chance_42 lk_X11_287 rfl (by decide) rfl rfl rfl (cX11_fail_ok M 2 hI) rfl rfl (by decide) (by decide) (Nat.le_of_ble_eq_true rfl) (Or.inl rfl) rfl rfl (by decide) (by decide) (fun y24 M25 e26 hI27 => ?_)
  exact V_ret (fun _ => hI27) (Or.inr (Or.inl ⟨rfl, _, rfl⟩)) dX11_chance_45 (fun ty x h1 h2 => by cases h1; rfl) rfl
def fX11_chance_159 (k125 : vM → Int32 → Int32 → Int32 → Int64 → Int32 → Int32 → Option (vR × vM)) (M : vM) (x1 : Int32) (x2 : Int32) (x3 : Int32) (x4 : Int64) (x6 : Int32) (x7 : Int32) (s0 : Int64) : Option (vR × vM) := if v_in x7 101 = true then if v_in x7 101 = true then if v_in x7 101 = true then if ((v_sl M 162 (Int32.toNatClampNeg x7) ((M.2.1 162 (Int32.toNatClampNeg x7)) + ((M.2.1 161 (Int32.toNatClampNeg x7)) - s0))).1 130 44) ≤ x7 then k125 (v_sl M 162 (Int32.toNatClampNeg x7) ((M.2.1 162 (Int32.toNatClampNeg x7)) + ((M.2.1 161 (Int32.toNatClampNeg x7)) - s0))) x1 x2 x3 x4 x6 (x7 + 1) else if v_in (x7 + 1) 101 = true then if v_in (x7 + 1) 101 = true then if v_in x7 2000 = true then if v_in ((2000 * x1) + ((v_sl (v_sl M 162 (Int32.toNatClampNeg x7) ((M.2.1 162 (Int32.toNatClampNeg x7)) + ((M.2.1 161 (Int32.toNatClampNeg x7)) - s0))) 162 (Int32.toNatClampNeg (x7 + 1)) (((v_sl M 162 (Int32.toNatClampNeg x7) ((M.2.1 162 (Int32.toNatClampNeg x7)) + ((M.2.1 161 (Int32.toNatClampNeg x7)) - s0))).2.1 162 (Int32.toNatClampNeg (x7 + 1))) + s0)).1 160 (Int32.toNatClampNeg x7))) 12000 = true then k125 (v_sl (v_sl M 162 (Int32.toNatClampNeg x7) ((M.2.1 162 (Int32.toNatClampNeg x7)) + ((M.2.1 161 (Int32.toNatClampNeg x7)) - s0))) 162 (Int32.toNatClampNeg (x7 + 1)) (((v_sl M 162 (Int32.toNatClampNeg x7) ((M.2.1 162 (Int32.toNatClampNeg x7)) + ((M.2.1 161 (Int32.toNatClampNeg x7)) - s0))).2.1 162 (Int32.toNatClampNeg (x7 + 1))) + s0)) x1 x2 x3 (x4 + (s0 * (Int32.toInt64 ((v_sl (v_sl M 162 (Int32.toNatClampNeg x7) ((M.2.1 162 (Int32.toNatClampNeg x7)) + ((M.2.1 161 (Int32.toNatClampNeg x7)) - s0))) 162 (Int32.toNatClampNeg (x7 + 1)) (((v_sl M 162 (Int32.toNatClampNeg x7) ((M.2.1 162 (Int32.toNatClampNeg x7)) + ((M.2.1 161 (Int32.toNatClampNeg x7)) - s0))).2.1 162 (Int32.toNatClampNeg (x7 + 1))) + s0)).1 146 (Int32.toNatClampNeg ((2000 * x1) + ((v_sl (v_sl M 162 (Int32.toNatClampNeg x7) ((M.2.1 162 (Int32.toNatClampNeg x7)) + ((M.2.1 161 (Int32.toNatClampNeg x7)) - s0))) 162 (Int32.toNatClampNeg (x7 + 1)) (((v_sl M 162 (Int32.toNatClampNeg x7) ((M.2.1 162 (Int32.toNatClampNeg x7)) + ((M.2.1 161 (Int32.toNatClampNeg x7)) - s0))).2.1 162 (Int32.toNatClampNeg (x7 + 1))) + s0)).1 160 (Int32.toNatClampNeg x7)))))))) x6 (x7 + 1) else none else none else none else none else none else none else none
set_option maxRecDepth 20000 in
set_option maxHeartbeats 2000000 in
theorem vX11_chance_159 {l : Launch} {D : va_G} {dA : Nat → ClassId} {k125 : vM → Int32 → Int32 → Int32 → Int64 → Int32 → Int32 → Option (vR × vM)} (hk125 : ∀ (M : vM) (x1 : Int32) (x2 : Int32) (x3 : Int32) (x4 : Int64) (x6 : Int32) (x7 : Int32), v_WT M.2.2 → V l D dA sX11_chance false 175 5 0 0 125 [(0, .ref 130), (1, .int x1), (2, .int x2), (3, .int x3), (4, .long (x4)), (6, .int x6), (7, .int x7)] [] 175 M (k125 M x1 x2 x3 x4 x6 x7)) : ∀ (M : vM) (x1 : Int32) (x2 : Int32) (x3 : Int32) (x4 : Int64) (x6 : Int32) (x7 : Int32) (s0 : Int64), v_WT M.2.2 → V l D dA sX11_chance false 175 5 0 0 159 [(0, .ref 130), (1, .int x1), (2, .int x2), (3, .int x3), (4, .long (x4)), (6, .int x6), (7, .int x7)] [.long (s0)] 175 M (fX11_chance_159 k125 M x1 x2 x3 x4 x6 x7 s0) := by
  intro M x1 x2 x3 x4 x6 x7 s0 hI
  refine V_lstore (lv' := [(8, .long (s0)), (0, .ref 130), (1, .int x1), (2, .int x2), (3, .int x3), (4, .long (x4)), (6, .int x6), (7, .int x7)]) dX11_chance_159 (by decide) rfl ?_
  refine V_aload_n (k := 1) dX11_chance_161 rfl rfl ?_
  refine V_getr (k := 162) dX11_chance_162 rfl (by decide) vf_X11_118 (by decide) (v_fin hI 149 rfl) ?_
  refine V_iload (k := 7) dX11_chance_165 rfl ?_
  refine V_dup2 dX11_chance_167 rfl rfl ?_
  refine V_lald dX11_chance_168 rfl (by decide) (fun h28 => ?_)
  refine V_aload_n (k := 1) dX11_chance_169 rfl rfl ?_
  refine V_getr (k := 161) dX11_chance_170 rfl (by decide) vf_X11_114 (by decide) (v_fin hI 148 rfl) ?_
  refine V_iload (k := 7) dX11_chance_173 rfl ?_
  refine V_lald dX11_chance_175 rfl (by decide) (fun h29 => ?_)
  refine V_lload (k := 0) dX11_chance_176 rfl ?_
  refine V_lsub dX11_chance_178 ?_
  refine V_ladd dX11_chance_179 ?_
  refine V_last dX11_chance_180 rfl (by decide) (fun h30 => ?_)
  refine V_iload (k := 7) dX11_chance_181 rfl ?_
  refine V_aload_n (k := 1) dX11_chance_183 rfl rfl ?_
  refine V_geti dX11_chance_184 rfl (by decide) vf_X11_388 (by decide) ?_
  refine V_icmpge (tgt := 231) dX11_chance_187 (by decide) (fun h31 => ?_) (fun h31 => ?_)
  · refine V_iinc (k := 7) (v := x7 + 1) (lv' := [(7, .int (x7 + 1)), (8, .long (s0)), (0, .ref 130), (1, .int x1), (2, .int x2), (3, .int x3), (4, .long (x4)), (6, .int x6)]) dX11_chance_231 rfl rfl (by decide) rfl ?_
    refine V_goto (tgt := 125) dX11_chance_234 (by decide) ?_
    refine V_sub [2, 3, 4, 5, 6, 7, 0] rfl ?_
    exact hk125 (v_sl M 162 (Int32.toNatClampNeg x7) ((M.2.1 162 (Int32.toNatClampNeg x7)) + ((M.2.1 161 (Int32.toNatClampNeg x7)) - s0))) x1 x2 x3 x4 x6 (x7 + 1) hI
  · refine V_aload_n (k := 1) dX11_chance_190 rfl rfl ?_
    refine V_getr (k := 162) dX11_chance_191 rfl (by decide) vf_X11_118 (by decide) (v_fin hI 149 rfl) ?_
    refine V_iload (k := 7) dX11_chance_194 rfl ?_
    refine V_iconst (v := 1) dX11_chance_196 rfl ?_
    refine V_iadd dX11_chance_197 ?_
    refine V_dup2 dX11_chance_198 rfl rfl ?_
    refine V_lald dX11_chance_199 rfl (by decide) (fun h32 => ?_)
    refine V_lload (k := 0) dX11_chance_200 rfl ?_
    refine V_ladd dX11_chance_202 ?_
    refine V_last dX11_chance_203 rfl (by decide) (fun h33 => ?_)
    refine V_lload (k := 5) dX11_chance_204 rfl ?_
    refine V_lload (k := 0) dX11_chance_206 rfl ?_
    refine V_aload_n (k := 1) dX11_chance_208 rfl rfl ?_
    refine V_getr (k := 146) dX11_chance_209 rfl (by decide) vf_X11_64 (by decide) (v_fin hI 133 rfl) ?_
    refine V_sipush (v := 2000) dX11_chance_212 rfl ?_
    refine V_iload_n (k := 2) dX11_chance_215 rfl rfl ?_
    refine V_imul dX11_chance_216 ?_
    refine V_aload_n (k := 1) dX11_chance_217 rfl rfl ?_
    refine V_getr (k := 160) dX11_chance_218 rfl (by decide) vf_X11_111 (by decide) (v_fin hI 147 rfl) ?_
    refine V_iload (k := 7) dX11_chance_221 rfl ?_
    refine V_iald dX11_chance_223 rfl (by decide) (fun h34 => ?_)
    refine V_iadd dX11_chance_224 ?_
    refine V_iald dX11_chance_225 rfl (by decide) (fun h35 => ?_)
    refine V_i2l dX11_chance_226 ?_
    refine V_lmul dX11_chance_227 ?_
    refine V_ladd dX11_chance_228 ?_
    refine V_lstore (lv' := [(4, .long (x4 + (s0 * (Int32.toInt64 ((v_sl (v_sl M 162 (Int32.toNatClampNeg x7) ((M.2.1 162 (Int32.toNatClampNeg x7)) + ((M.2.1 161 (Int32.toNatClampNeg x7)) - s0))) 162 (Int32.toNatClampNeg (x7 + 1)) (((v_sl M 162 (Int32.toNatClampNeg x7) ((M.2.1 162 (Int32.toNatClampNeg x7)) + ((M.2.1 161 (Int32.toNatClampNeg x7)) - s0))).2.1 162 (Int32.toNatClampNeg (x7 + 1))) + s0)).1 146 (Int32.toNatClampNeg ((2000 * x1) + ((v_sl (v_sl M 162 (Int32.toNatClampNeg x7) ((M.2.1 162 (Int32.toNatClampNeg x7)) + ((M.2.1 161 (Int32.toNatClampNeg x7)) - s0))) 162 (Int32.toNatClampNeg (x7 + 1)) (((v_sl M 162 (Int32.toNatClampNeg x7) ((M.2.1 162 (Int32.toNatClampNeg x7)) + ((M.2.1 161 (Int32.toNatClampNeg x7)) - s0))).2.1 162 (Int32.toNatClampNeg (x7 + 1))) + s0)).1 160 (Int32.toNatClampNeg x7))))))))), (8, .long (s0)), (0, .ref 130), (1, .int x1), (2, .int x2), (3, .int x3), (6, .int x6), (7, .int x7)]) dX11_chance_229 (by decide) rfl ?_
    refine V_iinc (k := 7) (v := x7 + 1) (lv' := [(7, .int (x7 + 1)), (4, .long (x4 + (s0 * (Int32.toInt64 ((v_sl (v_sl M 162 (Int32.toNatClampNeg x7) ((M.2.1 162 (Int32.toNatClampNeg x7)) + ((M.2.1 161 (Int32.toNatClampNeg x7)) - s0))) 162 (Int32.toNatClampNeg (x7 + 1)) (((v_sl M 162 (Int32.toNatClampNeg x7) ((M.2.1 162 (Int32.toNatClampNeg x7)) + ((M.2.1 161 (Int32.toNatClampNeg x7)) - s0))).2.1 162 (Int32.toNatClampNeg (x7 + 1))) + s0)).1 146 (Int32.toNatClampNeg ((2000 * x1) + ((v_sl (v_sl M 162 (Int32.toNatClampNeg x7) ((M.2.1 162 (Int32.toNatClampNeg x7)) + ((M.2.1 161 (Int32.toNatClampNeg x7)) - s0))) 162 (Int32.toNatClampNeg (x7 + 1)) (((v_sl M 162 (Int32.toNatClampNeg x7) ((M.2.1 162 (Int32.toNatClampNeg x7)) + ((M.2.1 161 (Int32.toNatClampNeg x7)) - s0))).2.1 162 (Int32.toNatClampNeg (x7 + 1))) + s0)).1 160 (Int32.toNatClampNeg x7))))))))), (8, .long (s0)), (0, .ref 130), (1, .int x1), (2, .int x2), (3, .int x3), (6, .int x6)]) dX11_chance_231 rfl rfl (by decide) rfl ?_
    refine V_goto (tgt := 125) dX11_chance_234 (by decide) ?_
    refine V_sub [3, 4, 5, 6, 1, 7, 0] rfl ?_
    exact hk125 (v_sl (v_sl M 162 (Int32.toNatClampNeg x7) ((M.2.1 162 (Int32.toNatClampNeg x7)) + ((M.2.1 161 (Int32.toNatClampNeg x7)) - s0))) 162 (Int32.toNatClampNeg (x7 + 1)) (((v_sl M 162 (Int32.toNatClampNeg x7) ((M.2.1 162 (Int32.toNatClampNeg x7)) + ((M.2.1 161 (Int32.toNatClampNeg x7)) - s0))).2.1 162 (Int32.toNatClampNeg (x7 + 1))) + s0)) x1 x2 x3 (x4 + (s0 * (Int32.toInt64 ((v_sl (v_sl M 162 (Int32.toNatClampNeg x7) ((M.2.1 162 (Int32.toNatClampNeg x7)) + ((M.2.1 161 (Int32.toNatClampNeg x7)) - s0))) 162 (Int32.toNatClampNeg (x7 + 1)) (((v_sl M 162 (Int32.toNatClampNeg x7) ((M.2.1 162 (Int32.toNatClampNeg x7)) + ((M.2.1 161 (Int32.toNatClampNeg x7)) - s0))).2.1 162 (Int32.toNatClampNeg (x7 + 1))) + s0)).1 146 (Int32.toNatClampNeg ((2000 * x1) + ((v_sl (v_sl M 162 (Int32.toNatClampNeg x7) ((M.2.1 162 (Int32.toNatClampNeg x7)) + ((M.2.1 161 (Int32.toNatClampNeg x7)) - s0))) 162 (Int32.toNatClampNeg (x7 + 1)) (((v_sl M 162 (Int32.toNatClampNeg x7) ((M.2.1 162 (Int32.toNatClampNeg x7)) + ((M.2.1 161 (Int32.toNatClampNeg x7)) - s0))).2.1 162 (Int32.toNatClampNeg (x7 + 1))) + s0)).1 160 (Int32.toNatClampNeg x7)))))))) x6 (x7 + 1) hI
def fX11_chance_240 (k92 : vM → Int32 → Int32 → Int32 → Int64 → Int32 → Option (vR × vM)) : Nat → vM → Int32 → Int32 → Int32 → Int64 → Int32 → Int32 → Option (vR × vM)
  | 0, _, _, _, _, _, _, _ => none
  | n9 + 1, M, x1, x2, x3, x4, x6, x7 => if 100 < x7 then k92 M x1 x2 x3 x4 (x6 + 1) else if v_in x7 101 = true then if v_in x7 101 = true then fX11_chance_240 k92 n9 (v_sl M 161 (Int32.toNatClampNeg x7) (M.2.1 162 (Int32.toNatClampNeg x7))) x1 x2 x3 x4 x6 (x7 + 1) else none else none
set_option maxRecDepth 20000 in
set_option maxHeartbeats 2000000 in
theorem vX11_chance_240 {l : Launch} {D : va_G} {dA : Nat → ClassId} {k92 : vM → Int32 → Int32 → Int32 → Int64 → Int32 → Option (vR × vM)} (hk92 : ∀ (M : vM) (x1 : Int32) (x2 : Int32) (x3 : Int32) (x4 : Int64) (x6 : Int32), v_WT M.2.2 → V l D dA sX11_chance false 175 5 0 0 92 [(0, .ref 130), (1, .int x1), (2, .int x2), (3, .int x3), (4, .long (x4)), (6, .int x6)] [] 175 M (k92 M x1 x2 x3 x4 x6)) : ∀ (n9 : Nat) (M : vM) (x1 : Int32) (x2 : Int32) (x3 : Int32) (x4 : Int64) (x6 : Int32) (x7 : Int32), v_WT M.2.2 → V l D dA sX11_chance false 175 5 0 0 240 [(0, .ref 130), (1, .int x1), (2, .int x2), (3, .int x3), (4, .long (x4)), (6, .int x6), (7, .int x7)] [] 175 M (fX11_chance_240 k92 n9 M x1 x2 x3 x4 x6 x7) := by
  intro n9
  induction n9 with
  | zero => intros; exact V_none
  | succ n9 ih =>
    intro M x1 x2 x3 x4 x6 x7 hI
    refine V_iload (k := 6) dX11_chance_240 rfl ?_
    refine V_bipush (v := 100) dX11_chance_242 rfl ?_
    refine V_icmpgt (tgt := 267) dX11_chance_244 (by decide) (fun h36 => ?_) (fun h36 => ?_)
    · refine V_iinc (k := 5) (v := x6 + 1) (lv' := [(6, .int (x6 + 1)), (0, .ref 130), (1, .int x1), (2, .int x2), (3, .int x3), (4, .long (x4)), (7, .int x7)]) dX11_chance_267 rfl rfl (by decide) rfl ?_
      refine V_goto (tgt := 92) dX11_chance_270 (by decide) ?_
      refine V_sub [1, 2, 3, 4, 5, 0] rfl ?_
      exact hk92 M x1 x2 x3 x4 (x6 + 1) hI
    · refine V_aload_n (k := 0) dX11_chance_247 rfl rfl ?_
      refine V_getr (k := 161) dX11_chance_248 rfl (by decide) vf_X11_114 (by decide) (v_fin hI 148 rfl) ?_
      refine V_iload (k := 6) dX11_chance_251 rfl ?_
      refine V_aload_n (k := 0) dX11_chance_253 rfl rfl ?_
      refine V_getr (k := 162) dX11_chance_254 rfl (by decide) vf_X11_118 (by decide) (v_fin hI 149 rfl) ?_
      refine V_iload (k := 6) dX11_chance_257 rfl ?_
      refine V_lald dX11_chance_259 rfl (by decide) (fun h37 => ?_)
      refine V_last dX11_chance_260 rfl (by decide) (fun h38 => ?_)
      refine V_iinc (k := 6) (v := x7 + 1) (lv' := [(7, .int (x7 + 1)), (0, .ref 130), (1, .int x1), (2, .int x2), (3, .int x3), (4, .long (x4)), (6, .int x6)]) dX11_chance_261 rfl rfl (by decide) rfl ?_
      refine V_goto (tgt := 240) dX11_chance_264 (by decide) ?_
      refine V_sub [1, 2, 3, 4, 5, 6, 0] rfl ?_
      exact ih (v_sl M 161 (Int32.toNatClampNeg x7) (M.2.1 162 (Int32.toNatClampNeg x7))) x1 x2 x3 x4 x6 (x7 + 1) hI
def fX11_chance_125 (k92 : vM → Int32 → Int32 → Int32 → Int64 → Int32 → Option (vR × vM)) : Nat → vM → Int32 → Int32 → Int32 → Int64 → Int32 → Int32 → Option (vR × vM)
  | 0, _, _, _, _, _, _, _ => none
  | n9 + 1, M, x1, x2, x3, x4, x6, x7 => if 100 < x7 then fX11_chance_240 (k92) FU M x1 x2 x3 x4 x6 0 else if (M.1 130 44) ≤ x7 then fX11_chance_159 (fX11_chance_125 k92 n9) M x1 x2 x3 x4 x6 x7 0 else if v_in x7 101 = true then fX11_chance_159 (fX11_chance_125 k92 n9) M x1 x2 x3 x4 x6 x7 (((M.2.1 161 (Int32.toNatClampNeg x7)) * (Int32.toInt64 x2)) / 1000) else none
set_option maxRecDepth 20000 in
set_option maxHeartbeats 2000000 in
theorem vX11_chance_125 {l : Launch} {D : va_G} {dA : Nat → ClassId} {k92 : vM → Int32 → Int32 → Int32 → Int64 → Int32 → Option (vR × vM)} (hk92 : ∀ (M : vM) (x1 : Int32) (x2 : Int32) (x3 : Int32) (x4 : Int64) (x6 : Int32), v_WT M.2.2 → V l D dA sX11_chance false 175 5 0 0 92 [(0, .ref 130), (1, .int x1), (2, .int x2), (3, .int x3), (4, .long (x4)), (6, .int x6)] [] 175 M (k92 M x1 x2 x3 x4 x6)) : ∀ (n9 : Nat) (M : vM) (x1 : Int32) (x2 : Int32) (x3 : Int32) (x4 : Int64) (x6 : Int32) (x7 : Int32), v_WT M.2.2 → V l D dA sX11_chance false 175 5 0 0 125 [(0, .ref 130), (1, .int x1), (2, .int x2), (3, .int x3), (4, .long (x4)), (6, .int x6), (7, .int x7)] [] 175 M (fX11_chance_125 k92 n9 M x1 x2 x3 x4 x6 x7) := by
  intro n9
  induction n9 with
  | zero => intros; exact V_none
  | succ n9 ih =>
    intro M x1 x2 x3 x4 x6 x7 hI
    refine V_iload (k := 6) dX11_chance_125 rfl ?_
    refine V_bipush (v := 100) dX11_chance_127 rfl ?_
    refine V_icmpgt (tgt := 237) dX11_chance_129 (by decide) (fun h39 => ?_) (fun h39 => ?_)
    · refine V_iconst (v := 0) dX11_chance_237 rfl ?_
      refine V_istore (lv' := [(7, .int 0), (0, .ref 130), (1, .int x1), (2, .int x2), (3, .int x3), (4, .long (x4)), (6, .int x6)]) dX11_chance_238 (by decide) rfl ?_
      refine V_sub [1, 2, 3, 4, 5, 6, 0] rfl ?_
      exact vX11_chance_240 (hk92) FU M x1 x2 x3 x4 x6 0 hI
    · refine V_iload (k := 6) dX11_chance_132 rfl ?_
      refine V_aload_n (k := 0) dX11_chance_134 rfl rfl ?_
      refine V_geti dX11_chance_135 rfl (by decide) vf_X11_388 (by decide) ?_
      refine V_icmpge (tgt := 158) dX11_chance_138 (by decide) (fun h40 => ?_) (fun h40 => ?_)
      · refine V_lconst (v := 0) dX11_chance_158 rfl ?_
        refine V_sub [0, 1, 2, 3, 4, 5, 6] rfl ?_
        exact vX11_chance_159 (ih) M x1 x2 x3 x4 x6 x7 0 hI
      · refine V_aload_n (k := 0) dX11_chance_141 rfl rfl ?_
        refine V_getr (k := 161) dX11_chance_142 rfl (by decide) vf_X11_114 (by decide) (v_fin hI 148 rfl) ?_
        refine V_iload (k := 6) dX11_chance_145 rfl ?_
        refine V_lald dX11_chance_147 rfl (by decide) (fun h41 => ?_)
        refine V_iload_n (k := 2) dX11_chance_148 rfl rfl ?_
        refine V_i2l dX11_chance_149 ?_
        refine V_lmul dX11_chance_150 ?_
        refine V_ldc2 dX11_chance_151 gw1711 ?_
        refine V_ldiv dX11_chance_154 (by decide) ?_
        refine V_goto (tgt := 159) dX11_chance_155 (by decide) ?_
        refine V_sub [0, 1, 2, 3, 4, 5, 6] rfl ?_
        exact vX11_chance_159 (ih) M x1 x2 x3 x4 x6 x7 (((M.2.1 161 (Int32.toNatClampNeg x7)) * (Int32.toInt64 x2)) / 1000) hI
def fX11_chance_101 (k92 : vM → Int32 → Int32 → Int32 → Int64 → Int32 → Option (vR × vM)) : Nat → vM → Int32 → Int32 → Int32 → Int64 → Int32 → Int32 → Option (vR × vM)
  | 0, _, _, _, _, _, _, _ => none
  | n9 + 1, M, x1, x2, x3, x4, x6, x7 => if 100 < x7 then fX11_chance_125 (k92) FU M x1 x2 x3 x4 x6 0 else if v_in x7 101 = true then fX11_chance_101 k92 n9 (v_sl M 162 (Int32.toNatClampNeg x7) 0) x1 x2 x3 x4 x6 (x7 + 1) else none
set_option maxRecDepth 20000 in
set_option maxHeartbeats 2000000 in
theorem vX11_chance_101 {l : Launch} {D : va_G} {dA : Nat → ClassId} {k92 : vM → Int32 → Int32 → Int32 → Int64 → Int32 → Option (vR × vM)} (hk92 : ∀ (M : vM) (x1 : Int32) (x2 : Int32) (x3 : Int32) (x4 : Int64) (x6 : Int32), v_WT M.2.2 → V l D dA sX11_chance false 175 5 0 0 92 [(0, .ref 130), (1, .int x1), (2, .int x2), (3, .int x3), (4, .long (x4)), (6, .int x6)] [] 175 M (k92 M x1 x2 x3 x4 x6)) : ∀ (n9 : Nat) (M : vM) (x1 : Int32) (x2 : Int32) (x3 : Int32) (x4 : Int64) (x6 : Int32) (x7 : Int32), v_WT M.2.2 → V l D dA sX11_chance false 175 5 0 0 101 [(0, .ref 130), (1, .int x1), (2, .int x2), (3, .int x3), (4, .long (x4)), (6, .int x6), (7, .int x7)] [] 175 M (fX11_chance_101 k92 n9 M x1 x2 x3 x4 x6 x7) := by
  intro n9
  induction n9 with
  | zero => intros; exact V_none
  | succ n9 ih =>
    intro M x1 x2 x3 x4 x6 x7 hI
    refine V_iload (k := 6) dX11_chance_101 rfl ?_
    refine V_bipush (v := 100) dX11_chance_103 rfl ?_
    refine V_icmpgt (tgt := 122) dX11_chance_105 (by decide) (fun h42 => ?_) (fun h42 => ?_)
    · refine V_iconst (v := 0) dX11_chance_122 rfl ?_
      refine V_istore (lv' := [(7, .int 0), (0, .ref 130), (1, .int x1), (2, .int x2), (3, .int x3), (4, .long (x4)), (6, .int x6)]) dX11_chance_123 (by decide) rfl ?_
      refine V_sub [1, 2, 3, 4, 5, 6, 0] rfl ?_
      exact vX11_chance_125 (hk92) FU M x1 x2 x3 x4 x6 0 hI
    · refine V_aload_n (k := 0) dX11_chance_108 rfl rfl ?_
      refine V_getr (k := 162) dX11_chance_109 rfl (by decide) vf_X11_118 (by decide) (v_fin hI 149 rfl) ?_
      refine V_iload (k := 6) dX11_chance_112 rfl ?_
      refine V_lconst (v := 0) dX11_chance_114 rfl ?_
      refine V_last dX11_chance_115 rfl (by decide) (fun h43 => ?_)
      refine V_iinc (k := 6) (v := x7 + 1) (lv' := [(7, .int (x7 + 1)), (0, .ref 130), (1, .int x1), (2, .int x2), (3, .int x3), (4, .long (x4)), (6, .int x6)]) dX11_chance_116 rfl rfl (by decide) rfl ?_
      refine V_goto (tgt := 101) dX11_chance_119 (by decide) ?_
      refine V_sub [1, 2, 3, 4, 5, 6, 0] rfl ?_
      exact ih (v_sl M 162 (Int32.toNatClampNeg x7) 0) x1 x2 x3 x4 x6 (x7 + 1) hI
def fX11_chance_92 : Nat → vM → Int32 → Int32 → Int32 → Int64 → Int32 → Option (vR × vM)
  | 0, _, _, _, _, _, _ => none
  | n9 + 1, M, x1, x2, x3, x4, x6 => if x3 ≤ x6 then rI (Int64.toInt32 (x4 / 1000000)) M else fX11_chance_101 (fX11_chance_92 n9) FU M x1 x2 x3 x4 x6 0
set_option maxRecDepth 20000 in
set_option maxHeartbeats 2000000 in
theorem vX11_chance_92 {l : Launch} {D : va_G} {dA : Nat → ClassId} : ∀ (n9 : Nat) (M : vM) (x1 : Int32) (x2 : Int32) (x3 : Int32) (x4 : Int64) (x6 : Int32), v_WT M.2.2 → V l D dA sX11_chance false 175 5 0 0 92 [(0, .ref 130), (1, .int x1), (2, .int x2), (3, .int x3), (4, .long (x4)), (6, .int x6)] [] 175 M (fX11_chance_92 n9 M x1 x2 x3 x4 x6) := by
  intro n9
  induction n9 with
  | zero => intros; exact V_none
  | succ n9 ih =>
    intro M x1 x2 x3 x4 x6 hI
    refine V_iload (k := 5) dX11_chance_92 rfl ?_
    refine V_iload_n (k := 3) dX11_chance_94 rfl rfl ?_
    refine V_icmpge (tgt := 273) dX11_chance_95 (by decide) (fun h44 => ?_) (fun h44 => ?_)
    · refine V_lload (k := 4) dX11_chance_273 rfl ?_
      refine V_ldc2 dX11_chance_275 gw1712 ?_
      refine V_ldiv dX11_chance_278 (by decide) ?_
      refine V_l2i dX11_chance_279 ?_
      exact V_ret (fun _ => hI) (Or.inr (Or.inl ⟨rfl, _, rfl⟩)) dX11_chance_280 (fun ty x h1 h2 => by cases h1; rfl) rfl
    · refine V_iconst (v := 0) dX11_chance_98 rfl ?_
      refine V_istore (lv' := [(7, .int 0), (0, .ref 130), (1, .int x1), (2, .int x2), (3, .int x3), (4, .long (x4)), (6, .int x6)]) dX11_chance_99 (by decide) rfl ?_
      refine V_sub [1, 2, 3, 4, 5, 6, 0] rfl ?_
      exact vX11_chance_101 (ih) FU M x1 x2 x3 x4 x6 0 hI
def fX11_chance_56 : Nat → vM → Int32 → Int32 → Int32 → Int32 → Option (vR × vM)
  | 0, _, _, _, _, _ => none
  | n9 + 1, M, x1, x2, x3, x4 => if 100 < x4 then if v_in 0 101 = true then fX11_chance_92 FU (v_sl M 161 (Int32.toNatClampNeg 0) 1000000000) x1 x2 x3 0 0 else none else if v_in x4 101 = true then fX11_chance_56 n9 (v_sl M 161 (Int32.toNatClampNeg x4) 0) x1 x2 x3 (x4 + 1) else none
set_option maxRecDepth 20000 in
set_option maxHeartbeats 2000000 in
theorem vX11_chance_56 {l : Launch} {D : va_G} {dA : Nat → ClassId} : ∀ (n9 : Nat) (M : vM) (x1 : Int32) (x2 : Int32) (x3 : Int32) (x4 : Int32), v_WT M.2.2 → V l D dA sX11_chance false 175 5 0 0 56 [(0, .ref 130), (1, .int x1), (2, .int x2), (3, .int x3), (4, .int x4)] [] 175 M (fX11_chance_56 n9 M x1 x2 x3 x4) := by
  intro n9
  induction n9 with
  | zero => intros; exact V_none
  | succ n9 ih =>
    intro M x1 x2 x3 x4 hI
    refine V_iload (k := 4) dX11_chance_56 rfl ?_
    refine V_bipush (v := 100) dX11_chance_58 rfl ?_
    refine V_icmpgt (tgt := 77) dX11_chance_60 (by decide) (fun h45 => ?_) (fun h45 => ?_)
    · refine V_aload_n (k := 0) dX11_chance_77 rfl rfl ?_
      refine V_getr (k := 161) dX11_chance_78 rfl (by decide) vf_X11_114 (by decide) (v_fin hI 148 rfl) ?_
      refine V_iconst (v := 0) dX11_chance_81 rfl ?_
      refine V_ldc2 dX11_chance_82 gw1710 ?_
      refine V_last dX11_chance_85 rfl (by decide) (fun h46 => ?_)
      refine V_lconst (v := 0) dX11_chance_86 rfl ?_
      refine V_lstore (lv' := [(4, .long (0)), (0, .ref 130), (1, .int x1), (2, .int x2), (3, .int x3)]) dX11_chance_87 (by decide) rfl ?_
      refine V_iconst (v := 0) dX11_chance_89 rfl ?_
      refine V_istore (lv' := [(6, .int 0), (4, .long (0)), (0, .ref 130), (1, .int x1), (2, .int x2), (3, .int x3)]) dX11_chance_90 (by decide) rfl ?_
      refine V_sub [2, 3, 4, 5, 1, 0] rfl ?_
      exact vX11_chance_92 FU (v_sl M 161 (Int32.toNatClampNeg 0) 1000000000) x1 x2 x3 0 0 hI
    · refine V_aload_n (k := 0) dX11_chance_63 rfl rfl ?_
      refine V_getr (k := 161) dX11_chance_64 rfl (by decide) vf_X11_114 (by decide) (v_fin hI 148 rfl) ?_
      refine V_iload (k := 4) dX11_chance_67 rfl ?_
      refine V_lconst (v := 0) dX11_chance_69 rfl ?_
      refine V_last dX11_chance_70 rfl (by decide) (fun h47 => ?_)
      refine V_iinc (k := 4) (v := x4 + 1) (lv' := [(4, .int (x4 + 1)), (0, .ref 130), (1, .int x1), (2, .int x2), (3, .int x3)]) dX11_chance_71 rfl rfl (by decide) rfl ?_
      refine V_goto (tgt := 56) dX11_chance_74 (by decide) ?_
      refine V_sub [1, 2, 3, 4, 0] rfl ?_
      exact ih (v_sl M 161 (Int32.toNatClampNeg x4) 0) x1 x2 x3 (x4 + 1) hI
def fX11_chance (M : vM) (x1 : Int32) (x2 : Int32) (x3 : Int32) : Option (vR × vM) := bi (fX11_isWork (v_si M 130 1 0) x1) fun y48 M49 => if y48 = 0 then bi (fX11_fail M49 1) fun y66 M67 => rI y66 M67 else bi (fX11_isIn M49 x2 0 1000) fun y53 M54 => if y53 = 0 then fX11_chance_40 M54 else bi (fX11_isIn M54 x3 0 100) fun y58 M59 => if y58 = 0 then fX11_chance_40 M59 else bv (fX11_tellLasts M59 x1 100) fun M63 => fX11_chance_56 FU M63 x1 x2 x3 0
set_option maxRecDepth 20000 in
set_option maxHeartbeats 2000000 in
theorem cX11_chance_ok {l : Launch} {D : va_G} {dA : Nat → ClassId} (M : vM) (x1 : Int32) (x2 : Int32) (x3 : Int32) (hI : v_WT M.2.2) : Ct l D dA sX11_chance false 175 5 0 0 175 [.ref 130, .int x1, .int x2, .int x3] M (fX11_chance M x1 x2 x3) := by
  refine Ct_of (lv := [(0, .ref 130), (1, .int x1), (2, .int x2), (3, .int x3)]) (by decide +kernel) rfl (Nat.le_of_ble_eq_true rfl) rfl (fun h => by cases h) ?_
  refine V_aload_n (k := 0) dX11_chance_0 rfl rfl ?_
  refine V_iconst (v := 0) dX11_chance_1 rfl ?_
  refine V_puti dX11_chance_2 rfl (by decide) vf_X11_154 (by decide) rfl rfl ?_
  refine V_aload_n (k := 0) dX11_chance_5 rfl rfl ?_
  refine V_iload_n (k := 1) dX11_chance_6 rfl rfl ?_
  refine V_callVi (q := (RX11, TX11, 61)) (cls := 11) (st0 := []) (kc' := 0) (ks' := 0) dX11_chance_7 lk_X11_164 rfl (by decide) rfl rfl rfl (cX11_isWork_ok (v_si M 130 1 0) x1 hI) rfl rfl (by decide) (by decide) (Nat.le_of_ble_eq_true rfl) (Or.inl rfl) rfl rfl (by decide) (by decide) (fun y48 M49 e50 hI51 => ?_)
  refine V_ifne (tgt := 19) dX11_chance_10 (by decide) (fun h52 => ?_) (fun h52 => ?_)
  · refine V_iload_n (k := 2) dX11_chance_19 rfl rfl ?_
    refine V_iconst (v := 0) dX11_chance_20 rfl ?_
    refine V_sipush (v := 1000) dX11_chance_21 rfl ?_
    refine V_callSi (st0 := []) (kc' := 0) (ks' := 0) dX11_chance_24 lk_X11_160 rfl (cX11_isIn_ok M49 x2 0 1000 hI51) rfl rfl (by decide) (by decide) (Nat.le_of_ble_eq_true rfl) (Or.inl rfl) rfl rfl (by decide) (by decide) (fun y53 M54 e55 hI56 => ?_)
    refine V_ifeq (tgt := 40) dX11_chance_27 (by decide) (fun h57 => ?_) (fun h57 => ?_)
    · refine V_sub [0] rfl ?_
      exact vX11_chance_40 M54 hI56
    · refine V_iload_n (k := 3) dX11_chance_30 rfl rfl ?_
      refine V_iconst (v := 0) dX11_chance_31 rfl ?_
      refine V_bipush (v := 100) dX11_chance_32 rfl ?_
      refine V_callSi (st0 := []) (kc' := 0) (ks' := 0) dX11_chance_34 lk_X11_160 rfl (cX11_isIn_ok M54 x3 0 100 hI56) rfl rfl (by decide) (by decide) (Nat.le_of_ble_eq_true rfl) (Or.inl rfl) rfl rfl (by decide) (by decide) (fun y58 M59 e60 hI61 => ?_)
      refine V_ifne (tgt := 46) dX11_chance_37 (by decide) (fun h62 => ?_) (fun h62 => ?_)
      · refine V_aload_n (k := 0) dX11_chance_46 rfl rfl ?_
        refine V_iload_n (k := 1) dX11_chance_47 rfl rfl ?_
        refine V_bipush (v := 100) dX11_chance_48 rfl ?_
        refine V_callVv (q := (RX11, TX11, 61)) (cls := 11) (st0 := []) (kc' := 0) (ks' := 0) dX11_chance_50 lk_X11_391 rfl (by decide) rfl rfl rfl (cX11_tellLasts_ok M59 x1 100 hI61) rfl rfl (by decide) (by decide) (Nat.le_of_ble_eq_true rfl) (Or.inl rfl) rfl rfl (by decide) (by decide) (fun  M63 e64 hI65 => ?_)
        refine V_iconst (v := 0) dX11_chance_53 rfl ?_
        refine V_istore (lv' := [(4, .int 0), (0, .ref 130), (1, .int x1), (2, .int x2), (3, .int x3)]) dX11_chance_54 (by decide) rfl ?_
        refine V_sub [1, 2, 3, 4, 0] rfl ?_
        exact vX11_chance_56 FU M63 x1 x2 x3 0 hI65
      · refine V_sub [0] rfl ?_
        exact vX11_chance_40 M59 hI61
  · refine V_aload_n (k := 0) dX11_chance_13 rfl rfl ?_
    refine V_iconst (v := 1) dX11_chance_14 rfl ?_
    refine V_callVi (q := (RX11, TX11, 61)) (cls := 11) (st0 := []) (kc' := 0) (ks' := 0) dX11_chance_15 lk_X11_287 rfl (by decide) rfl rfl rfl (cX11_fail_ok M49 1 hI51) rfl rfl (by decide) (by decide) (Nat.le_of_ble_eq_true rfl) (Or.inl rfl) rfl rfl (by decide) (by decide) (fun y66 M67 e68 hI69 => ?_)
    exact V_ret (fun _ => hI69) (Or.inr (Or.inl ⟨rfl, _, rfl⟩)) dX11_chance_18 (fun ty x h1 h2 => by cases h1; rfl) rfl
def fX11_choose_74 (k19 : vM → Int32 → Int32 → Int32 → Option (vR × vM)) (M : vM) (x1 : Int32) (x2 : Int32) (x3 : Int32) (x4 : Int32) (s0 : Int32) : Option (vR × vM) := if x4 = 0 then k19 M x1 x2 (x3 + 1) else if v_in x3 144 = true then if (M.1 142 (Int32.toNatClampNeg x3)) = 0 then if s0 = 0 then k19 M x1 x2 (x3 + 1) else rV M else if s0 = 0 then rV M else k19 M x1 x2 (x3 + 1) else none
set_option maxRecDepth 20000 in
set_option maxHeartbeats 2000000 in
theorem vX11_choose_74 {l : Launch} {D : va_G} {dA : Nat → ClassId} {k19 : vM → Int32 → Int32 → Int32 → Option (vR × vM)} (hk19 : ∀ (M : vM) (x1 : Int32) (x2 : Int32) (x3 : Int32), v_WT M.2.2 → V l D dA sX11_choose false 175 2 0 0 19 [(0, .ref 130), (1, .int x1), (2, .int x2), (3, .int x3)] [] 175 M (k19 M x1 x2 x3)) : ∀ (M : vM) (x1 : Int32) (x2 : Int32) (x3 : Int32) (x4 : Int32) (s0 : Int32), v_WT M.2.2 → V l D dA sX11_choose false 175 2 0 0 74 [(0, .ref 130), (1, .int x1), (2, .int x2), (3, .int x3), (4, .int x4)] [.int s0] 175 M (fX11_choose_74 k19 M x1 x2 x3 x4 s0) := by
  intro M x1 x2 x3 x4 s0 hI
  refine V_istore (lv' := [(5, .int s0), (0, .ref 130), (1, .int x1), (2, .int x2), (3, .int x3), (4, .int x4)]) dX11_choose_74 (by decide) rfl ?_
  refine V_iload (k := 5) dX11_choose_76 rfl ?_
  refine V_ifeq (tgt := 104) dX11_choose_78 (by decide) (fun h17 => ?_) (fun h17 => ?_)
  · refine V_iinc (k := 4) (v := x3 + 1) (lv' := [(3, .int (x3 + 1)), (5, .int s0), (0, .ref 130), (1, .int x1), (2, .int x2), (4, .int x4)]) dX11_choose_104 rfl rfl (by decide) rfl ?_
    refine V_goto (tgt := 19) dX11_choose_107 (by decide) ?_
    refine V_sub [2, 3, 4, 0] rfl ?_
    exact hk19 M x1 x2 (x3 + 1) hI
  · refine V_aload_n (k := 1) dX11_choose_81 rfl rfl ?_
    refine V_getr (k := 142) dX11_choose_82 rfl (by decide) vf_X11_52 (by decide) (v_fin hI 129 rfl) ?_
    refine V_iload_n (k := 4) dX11_choose_85 rfl rfl ?_
    refine V_iald dX11_choose_86 rfl (by decide) (fun h18 => ?_)
    refine V_ifne (tgt := 98) dX11_choose_87 (by decide) (fun h19 => ?_) (fun h19 => ?_)
    · refine V_iload (k := 0) dX11_choose_98 rfl ?_
      refine V_ifne (tgt := 104) dX11_choose_100 (by decide) (fun h20 => ?_) (fun h20 => ?_)
      · refine V_iinc (k := 4) (v := x3 + 1) (lv' := [(3, .int (x3 + 1)), (5, .int s0), (0, .ref 130), (1, .int x1), (2, .int x2), (4, .int x4)]) dX11_choose_104 rfl rfl (by decide) rfl ?_
        refine V_goto (tgt := 19) dX11_choose_107 (by decide) ?_
        refine V_sub [2, 3, 4, 0] rfl ?_
        exact hk19 M x1 x2 (x3 + 1) hI
      · exact V_ret (fun _ => hI) (Or.inl ⟨rfl, rfl⟩) dX11_choose_103 (fun ty x h1 h2 => by cases h1) rfl
    · refine V_iload (k := 0) dX11_choose_90 rfl ?_
      refine V_ifeq (tgt := 104) dX11_choose_92 (by decide) (fun h21 => ?_) (fun h21 => ?_)
      · refine V_iinc (k := 4) (v := x3 + 1) (lv' := [(3, .int (x3 + 1)), (5, .int s0), (0, .ref 130), (1, .int x1), (2, .int x2), (4, .int x4)]) dX11_choose_104 rfl rfl (by decide) rfl ?_
        refine V_goto (tgt := 19) dX11_choose_107 (by decide) ?_
        refine V_sub [2, 3, 4, 0] rfl ?_
        exact hk19 M x1 x2 (x3 + 1) hI
      · refine V_goto (tgt := 103) dX11_choose_95 (by decide) ?_
        exact V_ret (fun _ => hI) (Or.inl ⟨rfl, rfl⟩) dX11_choose_103 (fun ty x h1 h2 => by cases h1) rfl
def fX11_choose_53 (k19 : vM → Int32 → Int32 → Int32 → Option (vR × vM)) (M : vM) (x1 : Int32) (x2 : Int32) (x3 : Int32) (s0 : Int32) : Option (vR × vM) := if v_in x3 144 = true then if ((x2 >>> ((M.1 144 (Int32.toNatClampNeg x3)) &&& (31 : Int32))) &&& 1) = 1 then fX11_choose_74 (k19) M x1 x2 x3 s0 1 else fX11_choose_74 (k19) M x1 x2 x3 s0 0 else none
set_option maxRecDepth 20000 in
set_option maxHeartbeats 2000000 in
theorem vX11_choose_53 {l : Launch} {D : va_G} {dA : Nat → ClassId} {k19 : vM → Int32 → Int32 → Int32 → Option (vR × vM)} (hk19 : ∀ (M : vM) (x1 : Int32) (x2 : Int32) (x3 : Int32), v_WT M.2.2 → V l D dA sX11_choose false 175 2 0 0 19 [(0, .ref 130), (1, .int x1), (2, .int x2), (3, .int x3)] [] 175 M (k19 M x1 x2 x3)) : ∀ (M : vM) (x1 : Int32) (x2 : Int32) (x3 : Int32) (s0 : Int32), v_WT M.2.2 → V l D dA sX11_choose false 175 2 0 0 53 [(0, .ref 130), (1, .int x1), (2, .int x2), (3, .int x3)] [.int s0] 175 M (fX11_choose_53 k19 M x1 x2 x3 s0) := by
  intro M x1 x2 x3 s0 hI
  refine V_istore (lv' := [(4, .int s0), (0, .ref 130), (1, .int x1), (2, .int x2), (3, .int x3)]) dX11_choose_53 (by decide) rfl ?_
  refine V_iload_n (k := 3) dX11_choose_55 rfl rfl ?_
  refine V_aload_n (k := 1) dX11_choose_56 rfl rfl ?_
  refine V_getr (k := 144) dX11_choose_57 rfl (by decide) vf_X11_58 (by decide) (v_fin hI 131 rfl) ?_
  refine V_iload_n (k := 4) dX11_choose_60 rfl rfl ?_
  refine V_iald dX11_choose_61 rfl (by decide) (fun h22 => ?_)
  refine V_ishr dX11_choose_62 ?_
  refine V_iconst (v := 1) dX11_choose_63 rfl ?_
  refine V_iand dX11_choose_64 ?_
  refine V_iconst (v := 1) dX11_choose_65 rfl ?_
  refine V_icmpne (tgt := 73) dX11_choose_66 (by decide) (fun h23 => ?_) (fun h23 => ?_)
  · refine V_iconst (v := 0) dX11_choose_73 rfl ?_
    refine V_sub [1, 2, 3, 4, 0] rfl ?_
    exact vX11_choose_74 (hk19) M x1 x2 x3 s0 0 hI
  · refine V_iconst (v := 1) dX11_choose_69 rfl ?_
    refine V_goto (tgt := 74) dX11_choose_70 (by decide) ?_
    refine V_sub [1, 2, 3, 4, 0] rfl ?_
    exact vX11_choose_74 (hk19) M x1 x2 x3 s0 1 hI
def fX11_choose_115 : Nat → vM → Int32 → Int32 → Int32 → Int32 → Option (vR × vM)
  | 0, _, _, _, _, _ => none
  | n9 + 1, M, x1, x2, x3, x4 => if v_in x1 12 = true then if (M.1 136 (Int32.toNatClampNeg x1)) ≤ x4 then bv (fX11_addWay M x1 x3 x2) fun M26 => rV M26 else if v_in ((20 * x1) + x4) 240 = true then fX11_choose_115 n9 M x1 x2 (x3 + (((x2 >>> (x4 &&& (31 : Int32))) &&& 1) * (M.1 141 (Int32.toNatClampNeg ((20 * x1) + x4))))) (x4 + 1) else none else none
set_option maxRecDepth 20000 in
set_option maxHeartbeats 2000000 in
theorem vX11_choose_115 {l : Launch} {D : va_G} {dA : Nat → ClassId} : ∀ (n9 : Nat) (M : vM) (x1 : Int32) (x2 : Int32) (x3 : Int32) (x4 : Int32), v_WT M.2.2 → V l D dA sX11_choose false 175 2 0 0 115 [(0, .ref 130), (1, .int x1), (2, .int x2), (3, .int x3), (4, .int x4)] [] 175 M (fX11_choose_115 n9 M x1 x2 x3 x4) := by
  intro n9
  induction n9 with
  | zero => intros; exact V_none
  | succ n9 ih =>
    intro M x1 x2 x3 x4 hI
    refine V_iload (k := 4) dX11_choose_115 rfl ?_
    refine V_aload_n (k := 0) dX11_choose_117 rfl rfl ?_
    refine V_getr (k := 136) dX11_choose_118 rfl (by decide) vf_X11_34 (by decide) (v_fin hI 123 rfl) ?_
    refine V_iload_n (k := 1) dX11_choose_121 rfl rfl ?_
    refine V_iald dX11_choose_122 rfl (by decide) (fun h24 => ?_)
    refine V_icmpge (tgt := 154) dX11_choose_123 (by decide) (fun h25 => ?_) (fun h25 => ?_)
    · refine V_aload_n (k := 0) dX11_choose_154 rfl rfl ?_
      refine V_iload_n (k := 1) dX11_choose_155 rfl rfl ?_
      refine V_iload_n (k := 3) dX11_choose_156 rfl rfl ?_
      refine V_iload_n (k := 2) dX11_choose_157 rfl rfl ?_
      refine V_callVv (q := (RX11, TX11, 61)) (cls := 11) (st0 := []) (kc' := 0) (ks' := 0) dX11_choose_158 lk_X11_320 rfl (by decide) rfl rfl rfl (cX11_addWay_ok M x1 x3 x2 hI) rfl rfl (by decide) (by decide) (Nat.le_of_ble_eq_true rfl) (Or.inl rfl) rfl rfl (by decide) (by decide) (fun  M26 e27 hI28 => ?_)
      exact V_ret (fun _ => hI28) (Or.inl ⟨rfl, rfl⟩) dX11_choose_161 (fun ty x h1 h2 => by cases h1) rfl
    · refine V_iload_n (k := 3) dX11_choose_126 rfl rfl ?_
      refine V_iload_n (k := 2) dX11_choose_127 rfl rfl ?_
      refine V_iload (k := 4) dX11_choose_128 rfl ?_
      refine V_ishr dX11_choose_130 ?_
      refine V_iconst (v := 1) dX11_choose_131 rfl ?_
      refine V_iand dX11_choose_132 ?_
      refine V_aload_n (k := 0) dX11_choose_133 rfl rfl ?_
      refine V_getr (k := 141) dX11_choose_134 rfl (by decide) vf_X11_49 (by decide) (v_fin hI 128 rfl) ?_
      refine V_bipush (v := 20) dX11_choose_137 rfl ?_
      refine V_iload_n (k := 1) dX11_choose_139 rfl rfl ?_
      refine V_imul dX11_choose_140 ?_
      refine V_iload (k := 4) dX11_choose_141 rfl ?_
      refine V_iadd dX11_choose_143 ?_
      refine V_iald dX11_choose_144 rfl (by decide) (fun h29 => ?_)
      refine V_imul dX11_choose_145 ?_
      refine V_iadd dX11_choose_146 ?_
      refine V_istore_n (lv' := [(3, .int (x3 + (((x2 >>> (x4 &&& (31 : Int32))) &&& 1) * (M.1 141 (Int32.toNatClampNeg ((20 * x1) + x4)))))), (0, .ref 130), (1, .int x1), (2, .int x2), (4, .int x4)]) dX11_choose_147 rfl (by decide) rfl ?_
      refine V_iinc (k := 4) (v := x4 + 1) (lv' := [(4, .int (x4 + 1)), (3, .int (x3 + (((x2 >>> (x4 &&& (31 : Int32))) &&& 1) * (M.1 141 (Int32.toNatClampNeg ((20 * x1) + x4)))))), (0, .ref 130), (1, .int x1), (2, .int x2)]) dX11_choose_148 rfl rfl (by decide) rfl ?_
      refine V_goto (tgt := 115) dX11_choose_151 (by decide) ?_
      refine V_sub [2, 3, 4, 1, 0] rfl ?_
      exact ih M x1 x2 (x3 + (((x2 >>> (x4 &&& (31 : Int32))) &&& 1) * (M.1 141 (Int32.toNatClampNeg ((20 * x1) + x4))))) (x4 + 1) hI
def fX11_choose_19 : Nat → vM → Int32 → Int32 → Int32 → Option (vR × vM)
  | 0, _, _, _, _ => none
  | n9 + 1, M, x1, x2, x3 => if v_in x1 12 = true then if ((12 * x1) + (M.1 138 (Int32.toNatClampNeg x1))) ≤ x3 then fX11_choose_115 FU M x1 x2 0 0 else if v_in x3 144 = true then if ((x2 >>> ((M.1 143 (Int32.toNatClampNeg x3)) &&& (31 : Int32))) &&& 1) = 1 then fX11_choose_53 (fX11_choose_19 n9) M x1 x2 x3 1 else fX11_choose_53 (fX11_choose_19 n9) M x1 x2 x3 0 else none else none
set_option maxRecDepth 20000 in
set_option maxHeartbeats 2000000 in
theorem vX11_choose_19 {l : Launch} {D : va_G} {dA : Nat → ClassId} : ∀ (n9 : Nat) (M : vM) (x1 : Int32) (x2 : Int32) (x3 : Int32), v_WT M.2.2 → V l D dA sX11_choose false 175 2 0 0 19 [(0, .ref 130), (1, .int x1), (2, .int x2), (3, .int x3)] [] 175 M (fX11_choose_19 n9 M x1 x2 x3) := by
  intro n9
  induction n9 with
  | zero => intros; exact V_none
  | succ n9 ih =>
    intro M x1 x2 x3 hI
    refine V_iload_n (k := 3) dX11_choose_19 rfl rfl ?_
    refine V_bipush (v := 12) dX11_choose_20 rfl ?_
    refine V_iload_n (k := 1) dX11_choose_22 rfl rfl ?_
    refine V_imul dX11_choose_23 ?_
    refine V_aload_n (k := 0) dX11_choose_24 rfl rfl ?_
    refine V_getr (k := 138) dX11_choose_25 rfl (by decide) vf_X11_40 (by decide) (v_fin hI 125 rfl) ?_
    refine V_iload_n (k := 1) dX11_choose_28 rfl rfl ?_
    refine V_iald dX11_choose_29 rfl (by decide) (fun h30 => ?_)
    refine V_iadd dX11_choose_30 ?_
    refine V_icmpge (tgt := 110) dX11_choose_31 (by decide) (fun h31 => ?_) (fun h31 => ?_)
    · refine V_iconst (v := 0) dX11_choose_110 rfl ?_
      refine V_istore_n (lv' := [(3, .int 0), (0, .ref 130), (1, .int x1), (2, .int x2)]) dX11_choose_111 rfl (by decide) rfl ?_
      refine V_iconst (v := 0) dX11_choose_112 rfl ?_
      refine V_istore (lv' := [(4, .int 0), (3, .int 0), (0, .ref 130), (1, .int x1), (2, .int x2)]) dX11_choose_113 (by decide) rfl ?_
      refine V_sub [2, 3, 4, 1, 0] rfl ?_
      exact vX11_choose_115 FU M x1 x2 0 0 hI
    · refine V_iload_n (k := 2) dX11_choose_34 rfl rfl ?_
      refine V_aload_n (k := 0) dX11_choose_35 rfl rfl ?_
      refine V_getr (k := 143) dX11_choose_36 rfl (by decide) vf_X11_55 (by decide) (v_fin hI 130 rfl) ?_
      refine V_iload_n (k := 3) dX11_choose_39 rfl rfl ?_
      refine V_iald dX11_choose_40 rfl (by decide) (fun h32 => ?_)
      refine V_ishr dX11_choose_41 ?_
      refine V_iconst (v := 1) dX11_choose_42 rfl ?_
      refine V_iand dX11_choose_43 ?_
      refine V_iconst (v := 1) dX11_choose_44 rfl ?_
      refine V_icmpne (tgt := 52) dX11_choose_45 (by decide) (fun h33 => ?_) (fun h33 => ?_)
      · refine V_iconst (v := 0) dX11_choose_52 rfl ?_
        refine V_sub [0, 1, 2, 3] rfl ?_
        exact vX11_choose_53 (ih) M x1 x2 x3 0 hI
      · refine V_iconst (v := 1) dX11_choose_48 rfl ?_
        refine V_goto (tgt := 53) dX11_choose_49 (by decide) ?_
        refine V_sub [0, 1, 2, 3] rfl ?_
        exact vX11_choose_53 (ih) M x1 x2 x3 1 hI
def fX11_choose (M : vM) (x1 : Int32) (x2 : Int32) : Option (vR × vM) := bi (fX11_bitsOf M x2) fun y34 M35 => if v_in x1 12 = true then if y34 = (M35.1 133 (Int32.toNatClampNeg x1)) then fX11_choose_19 FU M35 x1 x2 (12 * x1) else rV M35 else none
set_option maxRecDepth 20000 in
set_option maxHeartbeats 2000000 in
theorem cX11_choose_ok {l : Launch} {D : va_G} {dA : Nat → ClassId} (M : vM) (x1 : Int32) (x2 : Int32) (hI : v_WT M.2.2) : Ct l D dA sX11_choose false 175 2 0 0 175 [.ref 130, .int x1, .int x2] M (fX11_choose M x1 x2) := by
  refine Ct_of (lv := [(0, .ref 130), (1, .int x1), (2, .int x2)]) (by decide +kernel) rfl (Nat.le_of_ble_eq_true rfl) rfl (fun h => by cases h) ?_
  refine V_iload_n (k := 2) dX11_choose_0 rfl rfl ?_
  refine V_callSi (st0 := []) (kc' := 0) (ks' := 0) dX11_choose_1 lk_X11_324 rfl (cX11_bitsOf_ok M x2 hI) rfl rfl (by decide) (by decide) (Nat.le_of_ble_eq_true rfl) (Or.inl rfl) rfl rfl (by decide) (by decide) (fun y34 M35 e36 hI37 => ?_)
  refine V_aload_n (k := 0) dX11_choose_4 rfl rfl ?_
  refine V_getr (k := 133) dX11_choose_5 rfl (by decide) vf_X11_25 (by decide) (v_fin hI37 120 rfl) ?_
  refine V_iload_n (k := 1) dX11_choose_8 rfl rfl ?_
  refine V_iald dX11_choose_9 rfl (by decide) (fun h38 => ?_)
  refine V_icmpeq (tgt := 14) dX11_choose_10 (by decide) (fun h39 => ?_) (fun h39 => ?_)
  · refine V_bipush (v := 12) dX11_choose_14 rfl ?_
    refine V_iload_n (k := 1) dX11_choose_16 rfl rfl ?_
    refine V_imul dX11_choose_17 ?_
    refine V_istore_n (lv' := [(3, .int (12 * x1)), (0, .ref 130), (1, .int x1), (2, .int x2)]) dX11_choose_18 rfl (by decide) rfl ?_
    refine V_sub [1, 2, 3, 0] rfl ?_
    exact vX11_choose_19 FU M35 x1 x2 (12 * x1) hI37
  · exact V_ret (fun _ => hI37) (Or.inl ⟨rfl, rfl⟩) dX11_choose_13 (fun ty x h1 h2 => by cases h1) rfl
def fX11_costLeft (M : vM) (x1 : Int32) (x2 : Int32) : Option (vR × vM) := bi (fX11_leftAt M x1 x2) fun y3 M4 => if y3 = ((-1)) then rI ((-1)) M4 else if v_in ((2000 * x1) + y3) 12000 = true then rI (M4.1 146 (Int32.toNatClampNeg ((2000 * x1) + y3))) M4 else none
set_option maxRecDepth 20000 in
set_option maxHeartbeats 2000000 in
theorem cX11_costLeft_ok {l : Launch} {D : va_G} {dA : Nat → ClassId} (M : vM) (x1 : Int32) (x2 : Int32) (hI : v_WT M.2.2) : Ct l D dA sX11_costLeft false 175 2 0 0 175 [.ref 130, .int x1, .int x2] M (fX11_costLeft M x1 x2) := by
  refine Ct_of (lv := [(0, .ref 130), (1, .int x1), (2, .int x2)]) (by decide +kernel) rfl (Nat.le_of_ble_eq_true rfl) rfl (fun h => by cases h) ?_
  refine V_aload_n (k := 0) dX11_costLeft_0 rfl rfl ?_
  refine V_iload_n (k := 1) dX11_costLeft_1 rfl rfl ?_
  refine V_iload_n (k := 2) dX11_costLeft_2 rfl rfl ?_
  refine V_callVi (q := (RX11, TX11, 61)) (cls := 11) (st0 := []) (kc' := 0) (ks' := 0) dX11_costLeft_3 lk_X11_378 rfl (by decide) rfl rfl rfl (cX11_leftAt_ok M x1 x2 hI) rfl rfl (by decide) (by decide) (Nat.le_of_ble_eq_true rfl) (Or.inl rfl) rfl rfl (by decide) (by decide) (fun y3 M4 e5 hI6 => ?_)
  refine V_istore_n (lv' := [(3, .int y3), (0, .ref 130), (1, .int x1), (2, .int x2)]) dX11_costLeft_6 rfl (by decide) rfl ?_
  refine V_iload_n (k := 0) dX11_costLeft_7 rfl rfl ?_
  refine V_iconst (v := (-1)) dX11_costLeft_8 rfl ?_
  refine V_icmpne (tgt := 16) dX11_costLeft_9 (by decide) (fun h7 => ?_) (fun h7 => ?_)
  · refine V_aload_n (k := 1) dX11_costLeft_16 rfl rfl ?_
    refine V_getr (k := 146) dX11_costLeft_17 rfl (by decide) vf_X11_64 (by decide) (v_fin hI6 133 rfl) ?_
    refine V_sipush (v := 2000) dX11_costLeft_20 rfl ?_
    refine V_iload_n (k := 2) dX11_costLeft_23 rfl rfl ?_
    refine V_imul dX11_costLeft_24 ?_
    refine V_iload_n (k := 0) dX11_costLeft_25 rfl rfl ?_
    refine V_iadd dX11_costLeft_26 ?_
    refine V_iald dX11_costLeft_27 rfl (by decide) (fun h8 => ?_)
    exact V_ret (fun _ => hI6) (Or.inr (Or.inl ⟨rfl, _, rfl⟩)) dX11_costLeft_28 (fun ty x h1 h2 => by cases h1; rfl) rfl
  · refine V_iconst (v := (-1)) dX11_costLeft_12 rfl ?_
    refine V_goto (tgt := 28) dX11_costLeft_13 (by decide) ?_
    exact V_ret (fun _ => hI6) (Or.inr (Or.inl ⟨rfl, _, rfl⟩)) dX11_costLeft_28 (fun ty x h1 h2 => by cases h1; rfl) rfl
def fX11_count (M : vM) (x1 : Int32) : Option (vR × vM) := if x1 = 0 then rI ((v_si M 130 1 0).1 130 2) (v_si M 130 1 0) else if x1 = 1 then rI ((v_si M 130 1 0).1 130 31) (v_si M 130 1 0) else if x1 = 2 then rI ((v_si M 130 1 0).1 130 21) (v_si M 130 1 0) else bi (fX11_isIn (v_si M 130 1 0) x1 3 6) fun y9 M10 => if y9 = 0 then bi (fX11_fail M10 1) fun y14 M15 => rI y14 M15 else if v_in (x1 - 3) 4 = true then rI (M10.1 156 (Int32.toNatClampNeg (x1 - 3))) M10 else none
set_option maxRecDepth 20000 in
set_option maxHeartbeats 2000000 in
theorem cX11_count_ok {l : Launch} {D : va_G} {dA : Nat → ClassId} (M : vM) (x1 : Int32) (hI : v_WT M.2.2) : Ct l D dA sX11_count false 175 2 0 0 175 [.ref 130, .int x1] M (fX11_count M x1) := by
  refine Ct_of (lv := [(0, .ref 130), (1, .int x1)]) (by decide +kernel) rfl (Nat.le_of_ble_eq_true rfl) rfl (fun h => by cases h) ?_
  refine V_aload_n (k := 0) dX11_count_0 rfl rfl ?_
  refine V_iconst (v := 0) dX11_count_1 rfl ?_
  refine V_puti dX11_count_2 rfl (by decide) vf_X11_154 (by decide) rfl rfl ?_
  refine V_iload_n (k := 1) dX11_count_5 rfl rfl ?_
  refine V_ifne (tgt := 16) dX11_count_6 (by decide) (fun h6 => ?_) (fun h6 => ?_)
  · refine V_iload_n (k := 1) dX11_count_16 rfl rfl ?_
    refine V_iconst (v := 1) dX11_count_17 rfl ?_
    refine V_icmpne (tgt := 28) dX11_count_18 (by decide) (fun h7 => ?_) (fun h7 => ?_)
    · refine V_iload_n (k := 1) dX11_count_28 rfl rfl ?_
      refine V_iconst (v := 2) dX11_count_29 rfl ?_
      refine V_icmpne (tgt := 40) dX11_count_30 (by decide) (fun h8 => ?_) (fun h8 => ?_)
      · refine V_iload_n (k := 1) dX11_count_40 rfl rfl ?_
        refine V_iconst (v := 3) dX11_count_41 rfl ?_
        refine V_bipush (v := 6) dX11_count_42 rfl ?_
        refine V_callSi (st0 := []) (kc' := 0) (ks' := 0) dX11_count_44 lk_X11_160 rfl (cX11_isIn_ok (v_si M 130 1 0) x1 3 6 hI) rfl rfl (by decide) (by decide) (Nat.le_of_ble_eq_true rfl) (Or.inl rfl) rfl rfl (by decide) (by decide) (fun y9 M10 e11 hI12 => ?_)
        refine V_ifeq (tgt := 61) dX11_count_47 (by decide) (fun h13 => ?_) (fun h13 => ?_)
        · refine V_aload_n (k := 0) dX11_count_61 rfl rfl ?_
          refine V_iconst (v := 1) dX11_count_62 rfl ?_
          refine V_callVi (q := (RX11, TX11, 61)) (cls := 11) (st0 := []) (kc' := 0) (ks' := 0) dX11_count_63 lk_X11_287 rfl (by decide) rfl rfl rfl (cX11_fail_ok M10 1 hI12) rfl rfl (by decide) (by decide) (Nat.le_of_ble_eq_true rfl) (Or.inl rfl) rfl rfl (by decide) (by decide) (fun y14 M15 e16 hI17 => ?_)
          exact V_ret (fun _ => hI17) (Or.inr (Or.inl ⟨rfl, _, rfl⟩)) dX11_count_66 (fun ty x h1 h2 => by cases h1; rfl) rfl
        · refine V_aload_n (k := 0) dX11_count_50 rfl rfl ?_
          refine V_getr (k := 156) dX11_count_51 rfl (by decide) vf_X11_95 (by decide) (v_fin hI12 143 rfl) ?_
          refine V_iload_n (k := 1) dX11_count_54 rfl rfl ?_
          refine V_iconst (v := 3) dX11_count_55 rfl ?_
          refine V_isub dX11_count_56 ?_
          refine V_iald dX11_count_57 rfl (by decide) (fun h18 => ?_)
          refine V_goto (tgt := 66) dX11_count_58 (by decide) ?_
          exact V_ret (fun _ => hI12) (Or.inr (Or.inl ⟨rfl, _, rfl⟩)) dX11_count_66 (fun ty x h1 h2 => by cases h1; rfl) rfl
      · refine V_aload_n (k := 0) dX11_count_33 rfl rfl ?_
        refine V_geti dX11_count_34 rfl (by decide) vf_X11_293 (by decide) ?_
        refine V_goto (tgt := 66) dX11_count_37 (by decide) ?_
        exact V_ret (fun _ => hI) (Or.inr (Or.inl ⟨rfl, _, rfl⟩)) dX11_count_66 (fun ty x h1 h2 => by cases h1; rfl) rfl
    · refine V_aload_n (k := 0) dX11_count_21 rfl rfl ?_
      refine V_geti dX11_count_22 rfl (by decide) vf_X11_168 (by decide) ?_
      refine V_goto (tgt := 66) dX11_count_25 (by decide) ?_
      exact V_ret (fun _ => hI) (Or.inr (Or.inl ⟨rfl, _, rfl⟩)) dX11_count_66 (fun ty x h1 h2 => by cases h1; rfl) rfl
  · refine V_aload_n (k := 0) dX11_count_9 rfl rfl ?_
    refine V_geti dX11_count_10 rfl (by decide) vf_X11_157 (by decide) ?_
    refine V_goto (tgt := 66) dX11_count_13 (by decide) ?_
    exact V_ret (fun _ => hI) (Or.inr (Or.inl ⟨rfl, _, rfl⟩)) dX11_count_66 (fun ty x h1 h2 => by cases h1; rfl) rfl
def fX11_court_43 (M : vM) : Option (vR × vM) := bi (fX11_fail M 2) fun y14 M15 => rI y14 M15
set_option maxRecDepth 20000 in
set_option maxHeartbeats 2000000 in
theorem vX11_court_43 {l : Launch} {D : va_G} {dA : Nat → ClassId} : ∀ (M : vM), v_WT M.2.2 → V l D dA sX11_court false 175 3 0 0 43 [(0, .ref 130)] [] 175 M (fX11_court_43 M) := by
  intro M hI
  refine V_aload_n (k := 0) dX11_court_43 rfl rfl ?_
  refine V_iconst (v := 2) dX11_court_44 rfl ?_
  refine V_callVi (q := (RX11, TX11, 61)) (cls := 11) (st0 := []) (kc' := 0) (ks' := 0) dX11_court_45 lk_X11_287 rfl (by decide) rfl rfl rfl (cX11_fail_ok M 2 hI) rfl rfl (by decide) (by decide) (Nat.le_of_ble_eq_true rfl) (Or.inl rfl) rfl rfl (by decide) (by decide) (fun y14 M15 e16 hI17 => ?_)
  exact V_ret (fun _ => hI17) (Or.inr (Or.inl ⟨rfl, _, rfl⟩)) dX11_court_48 (fun ty x h1 h2 => by cases h1; rfl) rfl
def fX11_court_146 (k62 : vM → Int32 → Int32 → Int32 → Int32 → Int32 → Int32 → Option (vR × vM)) (M : vM) (x1 : Int32) (x2 : Int32) (x3 : Int32) (x4 : Int32) (x5 : Int32) (x6 : Int32) (x7 : Int32) : Option (vR × vM) := if x7 = 0 then k62 M x1 x2 x3 x4 (x5 + 1) (x6 + 1) else k62 M x1 x2 x3 x4 (x5 + 0) (x6 + 1)
set_option maxRecDepth 20000 in
set_option maxHeartbeats 2000000 in
theorem vX11_court_146 {l : Launch} {D : va_G} {dA : Nat → ClassId} {k62 : vM → Int32 → Int32 → Int32 → Int32 → Int32 → Int32 → Option (vR × vM)} (hk62 : ∀ (M : vM) (x1 : Int32) (x2 : Int32) (x3 : Int32) (x4 : Int32) (x5 : Int32) (x6 : Int32), v_WT M.2.2 → V l D dA sX11_court false 175 3 0 0 62 [(0, .ref 130), (1, .int x1), (2, .int x2), (3, .int x3), (4, .int x4), (5, .int x5), (6, .int x6)] [] 175 M (k62 M x1 x2 x3 x4 x5 x6)) : ∀ (M : vM) (x1 : Int32) (x2 : Int32) (x3 : Int32) (x4 : Int32) (x5 : Int32) (x6 : Int32) (x7 : Int32), v_WT M.2.2 → V l D dA sX11_court false 175 3 0 0 146 [(0, .ref 130), (1, .int x1), (2, .int x2), (3, .int x3), (4, .int x4), (5, .int x5), (6, .int x6), (7, .int x7)] [] 175 M (fX11_court_146 k62 M x1 x2 x3 x4 x5 x6 x7) := by
  intro M x1 x2 x3 x4 x5 x6 x7 hI
  refine V_iload (k := 5) dX11_court_146 rfl ?_
  refine V_iload (k := 7) dX11_court_148 rfl ?_
  refine V_ifeq (tgt := 157) dX11_court_150 (by decide) (fun h18 => ?_) (fun h18 => ?_)
  · refine V_iconst (v := 1) dX11_court_157 rfl ?_
    refine V_iadd dX11_court_158 ?_
    refine V_istore (lv' := [(5, .int (x5 + 1)), (0, .ref 130), (1, .int x1), (2, .int x2), (3, .int x3), (4, .int x4), (6, .int x6), (7, .int x7)]) dX11_court_159 (by decide) rfl ?_
    refine V_iinc (k := 6) (v := x6 + 1) (lv' := [(6, .int (x6 + 1)), (5, .int (x5 + 1)), (0, .ref 130), (1, .int x1), (2, .int x2), (3, .int x3), (4, .int x4), (7, .int x7)]) dX11_court_161 rfl rfl (by decide) rfl ?_
    refine V_goto (tgt := 62) dX11_court_164 (by decide) ?_
    refine V_sub [2, 3, 4, 5, 6, 1, 0] rfl ?_
    exact hk62 M x1 x2 x3 x4 (x5 + 1) (x6 + 1) hI
  · refine V_iconst (v := 0) dX11_court_153 rfl ?_
    refine V_goto (tgt := 158) dX11_court_154 (by decide) ?_
    refine V_iadd dX11_court_158 ?_
    refine V_istore (lv' := [(5, .int (x5 + 0)), (0, .ref 130), (1, .int x1), (2, .int x2), (3, .int x3), (4, .int x4), (6, .int x6), (7, .int x7)]) dX11_court_159 (by decide) rfl ?_
    refine V_iinc (k := 6) (v := x6 + 1) (lv' := [(6, .int (x6 + 1)), (5, .int (x5 + 0)), (0, .ref 130), (1, .int x1), (2, .int x2), (3, .int x3), (4, .int x4), (7, .int x7)]) dX11_court_161 rfl rfl (by decide) rfl ?_
    refine V_goto (tgt := 62) dX11_court_164 (by decide) ?_
    refine V_sub [2, 3, 4, 5, 6, 1, 0] rfl ?_
    exact hk62 M x1 x2 x3 x4 (x5 + 0) (x6 + 1) hI
def fX11_court_79 (k62 : vM → Int32 → Int32 → Int32 → Int32 → Int32 → Int32 → Option (vR × vM)) : Nat → vM → Int32 → Int32 → Int32 → Int32 → Int32 → Int32 → Int32 → Int32 → Option (vR × vM)
  | 0, _, _, _, _, _, _, _, _, _ => none
  | n9 + 1, M, x1, x2, x3, x4, x5, x6, x7, x8 => if (M.1 130 21) ≤ x8 then fX11_court_146 (k62) M x1 x2 x3 x4 x5 x6 x7 else if x7 = 0 then if v_in x8 400 = true then if (M.1 149 (Int32.toNatClampNeg x8)) = x1 then bi (fX11_markOf M x1 x6) fun y23 M24 => if v_in x8 400 = true then bi (fX11_markOf M24 x1 (M24.1 150 (Int32.toNatClampNeg x8))) fun y28 M29 => bi (fX11_areSame M29 y23 y28 x2 x4 x3) fun y32 M33 => if y32 = 0 then fX11_court_79 k62 n9 M33 x1 x2 x3 x4 x5 x6 0 (x8 + 1) else fX11_court_79 k62 n9 M33 x1 x2 x3 x4 x5 x6 1 (x8 + 1) else none else fX11_court_79 k62 n9 M x1 x2 x3 x4 x5 x6 0 (x8 + 1) else none else fX11_court_146 (k62) M x1 x2 x3 x4 x5 x6 x7
set_option maxRecDepth 20000 in
set_option maxHeartbeats 2000000 in
theorem vX11_court_79 {l : Launch} {D : va_G} {dA : Nat → ClassId} {k62 : vM → Int32 → Int32 → Int32 → Int32 → Int32 → Int32 → Option (vR × vM)} (hk62 : ∀ (M : vM) (x1 : Int32) (x2 : Int32) (x3 : Int32) (x4 : Int32) (x5 : Int32) (x6 : Int32), v_WT M.2.2 → V l D dA sX11_court false 175 3 0 0 62 [(0, .ref 130), (1, .int x1), (2, .int x2), (3, .int x3), (4, .int x4), (5, .int x5), (6, .int x6)] [] 175 M (k62 M x1 x2 x3 x4 x5 x6)) : ∀ (n9 : Nat) (M : vM) (x1 : Int32) (x2 : Int32) (x3 : Int32) (x4 : Int32) (x5 : Int32) (x6 : Int32) (x7 : Int32) (x8 : Int32), v_WT M.2.2 → V l D dA sX11_court false 175 3 0 0 79 [(0, .ref 130), (1, .int x1), (2, .int x2), (3, .int x3), (4, .int x4), (5, .int x5), (6, .int x6), (7, .int x7), (8, .int x8)] [] 175 M (fX11_court_79 k62 n9 M x1 x2 x3 x4 x5 x6 x7 x8) := by
  intro n9
  induction n9 with
  | zero => intros; exact V_none
  | succ n9 ih =>
    intro M x1 x2 x3 x4 x5 x6 x7 x8 hI
    refine V_iload (k := 8) dX11_court_79 rfl ?_
    refine V_aload_n (k := 0) dX11_court_81 rfl rfl ?_
    refine V_geti dX11_court_82 rfl (by decide) vf_X11_293 (by decide) ?_
    refine V_icmpge (tgt := 146) dX11_court_85 (by decide) (fun h19 => ?_) (fun h19 => ?_)
    · refine V_sub [0, 1, 2, 3, 4, 5, 6, 7] rfl ?_
      exact vX11_court_146 (hk62) M x1 x2 x3 x4 x5 x6 x7 hI
    · refine V_iload (k := 7) dX11_court_88 rfl ?_
      refine V_ifne (tgt := 146) dX11_court_90 (by decide) (fun h20 => ?_) (fun h20 => ?_)
      · refine V_sub [0, 1, 2, 3, 4, 5, 6, 7] rfl ?_
        exact vX11_court_146 (hk62) M x1 x2 x3 x4 x5 x6 x7 hI
      · refine V_aload_n (k := 0) dX11_court_93 rfl rfl ?_
        refine V_getr (k := 149) dX11_court_94 rfl (by decide) vf_X11_74 (by decide) (v_fin hI 136 rfl) ?_
        refine V_iload (k := 8) dX11_court_97 rfl ?_
        refine V_iald dX11_court_99 rfl (by decide) (fun h21 => ?_)
        refine V_iload_n (k := 1) dX11_court_100 rfl rfl ?_
        refine V_icmpne (tgt := 137) dX11_court_101 (by decide) (fun h22 => ?_) (fun h22 => ?_)
        · refine V_iconst (v := 0) dX11_court_137 rfl ?_
          refine V_istore (lv' := [(7, .int 0), (0, .ref 130), (1, .int x1), (2, .int x2), (3, .int x3), (4, .int x4), (5, .int x5), (6, .int x6), (8, .int x8)]) dX11_court_138 (by decide) rfl ?_
          refine V_iinc (k := 8) (v := x8 + 1) (lv' := [(8, .int (x8 + 1)), (7, .int 0), (0, .ref 130), (1, .int x1), (2, .int x2), (3, .int x3), (4, .int x4), (5, .int x5), (6, .int x6)]) dX11_court_140 rfl rfl (by decide) rfl ?_
          refine V_goto (tgt := 79) dX11_court_143 (by decide) ?_
          refine V_sub [2, 3, 4, 5, 6, 7, 8, 1, 0] rfl ?_
          exact ih M x1 x2 x3 x4 x5 x6 0 (x8 + 1) hI
        · refine V_aload_n (k := 0) dX11_court_104 rfl rfl ?_
          refine V_iload_n (k := 1) dX11_court_105 rfl rfl ?_
          refine V_iload (k := 6) dX11_court_106 rfl ?_
          refine V_callVi (q := (RX11, TX11, 61)) (cls := 11) (st0 := []) (kc' := 0) (ks' := 0) dX11_court_108 lk_X11_349 rfl (by decide) rfl rfl rfl (cX11_markOf_ok M x1 x6 hI) rfl rfl (by decide) (by decide) (Nat.le_of_ble_eq_true rfl) (Or.inl rfl) rfl rfl (by decide) (by decide) (fun y23 M24 e25 hI26 => ?_)
          refine V_aload_n (k := 0) dX11_court_111 rfl rfl ?_
          refine V_iload_n (k := 1) dX11_court_112 rfl rfl ?_
          refine V_aload_n (k := 0) dX11_court_113 rfl rfl ?_
          refine V_getr (k := 150) dX11_court_114 rfl (by decide) vf_X11_77 (by decide) (v_fin hI26 137 rfl) ?_
          refine V_iload (k := 8) dX11_court_117 rfl ?_
          refine V_iald dX11_court_119 rfl (by decide) (fun h27 => ?_)
          refine V_callVi (q := (RX11, TX11, 61)) (cls := 11) (st0 := [.int y23]) (kc' := 0) (ks' := 0) dX11_court_120 lk_X11_349 rfl (by decide) rfl rfl rfl (cX11_markOf_ok M24 x1 (M24.1 150 (Int32.toNatClampNeg x8)) hI26) rfl rfl (by decide) (by decide) (Nat.le_of_ble_eq_true rfl) (Or.inl rfl) rfl rfl (by decide) (by decide) (fun y28 M29 e30 hI31 => ?_)
          refine V_iload_n (k := 2) dX11_court_123 rfl rfl ?_
          refine V_iload (k := 4) dX11_court_124 rfl ?_
          refine V_iload_n (k := 3) dX11_court_126 rfl rfl ?_
          refine V_callSi (st0 := []) (kc' := 0) (ks' := 0) dX11_court_127 lk_X11_345 rfl (cX11_areSame_ok M29 y23 y28 x2 x4 x3 hI31) rfl rfl (by decide) (by decide) (Nat.le_of_ble_eq_true rfl) (Or.inl rfl) rfl rfl (by decide) (by decide) (fun y32 M33 e34 hI35 => ?_)
          refine V_ifeq (tgt := 137) dX11_court_130 (by decide) (fun h36 => ?_) (fun h36 => ?_)
          · refine V_iconst (v := 0) dX11_court_137 rfl ?_
            refine V_istore (lv' := [(7, .int 0), (0, .ref 130), (1, .int x1), (2, .int x2), (3, .int x3), (4, .int x4), (5, .int x5), (6, .int x6), (8, .int x8)]) dX11_court_138 (by decide) rfl ?_
            refine V_iinc (k := 8) (v := x8 + 1) (lv' := [(8, .int (x8 + 1)), (7, .int 0), (0, .ref 130), (1, .int x1), (2, .int x2), (3, .int x3), (4, .int x4), (5, .int x5), (6, .int x6)]) dX11_court_140 rfl rfl (by decide) rfl ?_
            refine V_goto (tgt := 79) dX11_court_143 (by decide) ?_
            refine V_sub [2, 3, 4, 5, 6, 7, 8, 1, 0] rfl ?_
            exact ih M33 x1 x2 x3 x4 x5 x6 0 (x8 + 1) hI35
          · refine V_iconst (v := 1) dX11_court_133 rfl ?_
            refine V_goto (tgt := 138) dX11_court_134 (by decide) ?_
            refine V_istore (lv' := [(7, .int 1), (0, .ref 130), (1, .int x1), (2, .int x2), (3, .int x3), (4, .int x4), (5, .int x5), (6, .int x6), (8, .int x8)]) dX11_court_138 (by decide) rfl ?_
            refine V_iinc (k := 8) (v := x8 + 1) (lv' := [(8, .int (x8 + 1)), (7, .int 1), (0, .ref 130), (1, .int x1), (2, .int x2), (3, .int x3), (4, .int x4), (5, .int x5), (6, .int x6)]) dX11_court_140 rfl rfl (by decide) rfl ?_
            refine V_goto (tgt := 79) dX11_court_143 (by decide) ?_
            refine V_sub [2, 3, 4, 5, 6, 7, 8, 1, 0] rfl ?_
            exact ih M33 x1 x2 x3 x4 x5 x6 1 (x8 + 1) hI35
def fX11_court_62 : Nat → vM → Int32 → Int32 → Int32 → Int32 → Int32 → Int32 → Option (vR × vM)
  | 0, _, _, _, _, _, _, _ => none
  | n9 + 1, M, x1, x2, x3, x4, x5, x6 => if v_in x1 6 = true then if (M.1 145 (Int32.toNatClampNeg x1)) ≤ x6 then rI x5 M else fX11_court_79 (fX11_court_62 n9) FU M x1 x2 x3 x4 x5 x6 0 0 else none
set_option maxRecDepth 20000 in
set_option maxHeartbeats 2000000 in
theorem vX11_court_62 {l : Launch} {D : va_G} {dA : Nat → ClassId} : ∀ (n9 : Nat) (M : vM) (x1 : Int32) (x2 : Int32) (x3 : Int32) (x4 : Int32) (x5 : Int32) (x6 : Int32), v_WT M.2.2 → V l D dA sX11_court false 175 3 0 0 62 [(0, .ref 130), (1, .int x1), (2, .int x2), (3, .int x3), (4, .int x4), (5, .int x5), (6, .int x6)] [] 175 M (fX11_court_62 n9 M x1 x2 x3 x4 x5 x6) := by
  intro n9
  induction n9 with
  | zero => intros; exact V_none
  | succ n9 ih =>
    intro M x1 x2 x3 x4 x5 x6 hI
    refine V_iload (k := 6) dX11_court_62 rfl ?_
    refine V_aload_n (k := 0) dX11_court_64 rfl rfl ?_
    refine V_getr (k := 145) dX11_court_65 rfl (by decide) vf_X11_61 (by decide) (v_fin hI 132 rfl) ?_
    refine V_iload_n (k := 1) dX11_court_68 rfl rfl ?_
    refine V_iald dX11_court_69 rfl (by decide) (fun h37 => ?_)
    refine V_icmpge (tgt := 167) dX11_court_70 (by decide) (fun h38 => ?_) (fun h38 => ?_)
    · refine V_iload (k := 5) dX11_court_167 rfl ?_
      exact V_ret (fun _ => hI) (Or.inr (Or.inl ⟨rfl, _, rfl⟩)) dX11_court_169 (fun ty x h1 h2 => by cases h1; rfl) rfl
    · refine V_iconst (v := 0) dX11_court_73 rfl ?_
      refine V_istore (lv' := [(7, .int 0), (0, .ref 130), (1, .int x1), (2, .int x2), (3, .int x3), (4, .int x4), (5, .int x5), (6, .int x6)]) dX11_court_74 (by decide) rfl ?_
      refine V_iconst (v := 0) dX11_court_76 rfl ?_
      refine V_istore (lv' := [(8, .int 0), (7, .int 0), (0, .ref 130), (1, .int x1), (2, .int x2), (3, .int x3), (4, .int x4), (5, .int x5), (6, .int x6)]) dX11_court_77 (by decide) rfl ?_
      refine V_sub [2, 3, 4, 5, 6, 7, 8, 1, 0] rfl ?_
      exact vX11_court_79 (ih) FU M x1 x2 x3 x4 x5 x6 0 0 hI
def fX11_court_49 (M : vM) (x1 : Int32) (x2 : Int32) (x3 : Int32) : Option (vR × vM) := bi (fX11_freeBits M x1) fun y39 M40 => fX11_court_62 FU M40 x1 x2 x3 y39 0 0
set_option maxRecDepth 20000 in
set_option maxHeartbeats 2000000 in
theorem vX11_court_49 {l : Launch} {D : va_G} {dA : Nat → ClassId} : ∀ (M : vM) (x1 : Int32) (x2 : Int32) (x3 : Int32), v_WT M.2.2 → V l D dA sX11_court false 175 3 0 0 49 [(0, .ref 130), (1, .int x1), (2, .int x2), (3, .int x3)] [] 175 M (fX11_court_49 M x1 x2 x3) := by
  intro M x1 x2 x3 hI
  refine V_aload_n (k := 0) dX11_court_49 rfl rfl ?_
  refine V_iload_n (k := 1) dX11_court_50 rfl rfl ?_
  refine V_callVi (q := (RX11, TX11, 61)) (cls := 11) (st0 := []) (kc' := 0) (ks' := 0) dX11_court_51 lk_X11_342 rfl (by decide) rfl rfl rfl (cX11_freeBits_ok M x1 hI) rfl rfl (by decide) (by decide) (Nat.le_of_ble_eq_true rfl) (Or.inl rfl) rfl rfl (by decide) (by decide) (fun y39 M40 e41 hI42 => ?_)
  refine V_istore (lv' := [(4, .int y39), (0, .ref 130), (1, .int x1), (2, .int x2), (3, .int x3)]) dX11_court_54 (by decide) rfl ?_
  refine V_iconst (v := 0) dX11_court_56 rfl ?_
  refine V_istore (lv' := [(5, .int 0), (4, .int y39), (0, .ref 130), (1, .int x1), (2, .int x2), (3, .int x3)]) dX11_court_57 (by decide) rfl ?_
  refine V_iconst (v := 0) dX11_court_59 rfl ?_
  refine V_istore (lv' := [(6, .int 0), (5, .int 0), (4, .int y39), (0, .ref 130), (1, .int x1), (2, .int x2), (3, .int x3)]) dX11_court_60 (by decide) rfl ?_
  refine V_sub [3, 4, 5, 6, 2, 1, 0] rfl ?_
  exact vX11_court_62 FU M40 x1 x2 x3 y39 0 0 hI42
def fX11_court (M : vM) (x1 : Int32) (x2 : Int32) (x3 : Int32) : Option (vR × vM) := bi (fX11_isWork (v_si M 130 1 0) x1) fun y43 M44 => if y43 = 0 then bi (fX11_fail M44 1) fun y59 M60 => rI y59 M60 else bi (fX11_isIn M44 x2 0 2) fun y48 M49 => if y48 = 0 then fX11_court_43 M49 else if x2 = 2 then bi (fX11_isIn M49 x3 1 9) fun y54 M55 => if y54 = 0 then fX11_court_43 M55 else fX11_court_49 M55 x1 x2 x3 else fX11_court_49 M49 x1 x2 x3
set_option maxRecDepth 20000 in
set_option maxHeartbeats 2000000 in
theorem cX11_court_ok {l : Launch} {D : va_G} {dA : Nat → ClassId} (M : vM) (x1 : Int32) (x2 : Int32) (x3 : Int32) (hI : v_WT M.2.2) : Ct l D dA sX11_court false 175 3 0 0 175 [.ref 130, .int x1, .int x2, .int x3] M (fX11_court M x1 x2 x3) := by
  refine Ct_of (lv := [(0, .ref 130), (1, .int x1), (2, .int x2), (3, .int x3)]) (by decide +kernel) rfl (Nat.le_of_ble_eq_true rfl) rfl (fun h => by cases h) ?_
  refine V_aload_n (k := 0) dX11_court_0 rfl rfl ?_
  refine V_iconst (v := 0) dX11_court_1 rfl ?_
  refine V_puti dX11_court_2 rfl (by decide) vf_X11_154 (by decide) rfl rfl ?_
  refine V_aload_n (k := 0) dX11_court_5 rfl rfl ?_
  refine V_iload_n (k := 1) dX11_court_6 rfl rfl ?_
  refine V_callVi (q := (RX11, TX11, 61)) (cls := 11) (st0 := []) (kc' := 0) (ks' := 0) dX11_court_7 lk_X11_164 rfl (by decide) rfl rfl rfl (cX11_isWork_ok (v_si M 130 1 0) x1 hI) rfl rfl (by decide) (by decide) (Nat.le_of_ble_eq_true rfl) (Or.inl rfl) rfl rfl (by decide) (by decide) (fun y43 M44 e45 hI46 => ?_)
  refine V_ifne (tgt := 19) dX11_court_10 (by decide) (fun h47 => ?_) (fun h47 => ?_)
  · refine V_iload_n (k := 2) dX11_court_19 rfl rfl ?_
    refine V_iconst (v := 0) dX11_court_20 rfl ?_
    refine V_iconst (v := 2) dX11_court_21 rfl ?_
    refine V_callSi (st0 := []) (kc' := 0) (ks' := 0) dX11_court_22 lk_X11_160 rfl (cX11_isIn_ok M44 x2 0 2 hI46) rfl rfl (by decide) (by decide) (Nat.le_of_ble_eq_true rfl) (Or.inl rfl) rfl rfl (by decide) (by decide) (fun y48 M49 e50 hI51 => ?_)
    refine V_ifeq (tgt := 43) dX11_court_25 (by decide) (fun h52 => ?_) (fun h52 => ?_)
    · refine V_sub [0] rfl ?_
      exact vX11_court_43 M49 hI51
    · refine V_iload_n (k := 2) dX11_court_28 rfl rfl ?_
      refine V_iconst (v := 2) dX11_court_29 rfl ?_
      refine V_icmpne (tgt := 49) dX11_court_30 (by decide) (fun h53 => ?_) (fun h53 => ?_)
      · refine V_sub [0, 1, 2, 3] rfl ?_
        exact vX11_court_49 M49 x1 x2 x3 hI51
      · refine V_iload_n (k := 3) dX11_court_33 rfl rfl ?_
        refine V_iconst (v := 1) dX11_court_34 rfl ?_
        refine V_bipush (v := 9) dX11_court_35 rfl ?_
        refine V_callSi (st0 := []) (kc' := 0) (ks' := 0) dX11_court_37 lk_X11_160 rfl (cX11_isIn_ok M49 x3 1 9 hI51) rfl rfl (by decide) (by decide) (Nat.le_of_ble_eq_true rfl) (Or.inl rfl) rfl rfl (by decide) (by decide) (fun y54 M55 e56 hI57 => ?_)
        refine V_ifne (tgt := 49) dX11_court_40 (by decide) (fun h58 => ?_) (fun h58 => ?_)
        · refine V_sub [0, 1, 2, 3] rfl ?_
          exact vX11_court_49 M55 x1 x2 x3 hI57
        · refine V_sub [0] rfl ?_
          exact vX11_court_43 M55 hI57
  · refine V_aload_n (k := 0) dX11_court_13 rfl rfl ?_
    refine V_iconst (v := 1) dX11_court_14 rfl ?_
    refine V_callVi (q := (RX11, TX11, 61)) (cls := 11) (st0 := []) (kc' := 0) (ks' := 0) dX11_court_15 lk_X11_287 rfl (by decide) rfl rfl rfl (cX11_fail_ok M44 1 hI46) rfl rfl (by decide) (by decide) (Nat.le_of_ble_eq_true rfl) (Or.inl rfl) rfl rfl (by decide) (by decide) (fun y59 M60 e61 hI62 => ?_)
    exact V_ret (fun _ => hI62) (Or.inr (Or.inl ⟨rfl, _, rfl⟩)) dX11_court_18 (fun ty x h1 h2 => by cases h1; rfl) rfl
def fX11_isWay (M : vM) (x1 : Int32) (x2 : Int32) : Option (vR × vM) := bi (fX11_isWork M x1) fun y4 M5 => if y4 = 0 then rI 0 M5 else if v_in x1 6 = true then bi (fX11_isIn M5 x2 0 ((M5.1 145 (Int32.toNatClampNeg x1)) - 1)) fun y10 M11 => if y10 = 0 then rI 0 M11 else rI 1 M11 else none
set_option maxRecDepth 20000 in
set_option maxHeartbeats 2000000 in
theorem cX11_isWay_ok {l : Launch} {D : va_G} {dA : Nat → ClassId} (M : vM) (x1 : Int32) (x2 : Int32) (hI : v_WT M.2.2) : Ct l D dA sX11_isWay false 175 3 0 0 175 [.ref 130, .int x1, .int x2] M (fX11_isWay M x1 x2) := by
  refine Ct_of (lv := [(0, .ref 130), (1, .int x1), (2, .int x2)]) (by decide +kernel) rfl (Nat.le_of_ble_eq_true rfl) rfl (fun h => by cases h) ?_
  refine V_aload_n (k := 0) dX11_isWay_0 rfl rfl ?_
  refine V_iload_n (k := 1) dX11_isWay_1 rfl rfl ?_
  refine V_callVi (q := (RX11, TX11, 61)) (cls := 11) (st0 := []) (kc' := 0) (ks' := 0) dX11_isWay_2 lk_X11_164 rfl (by decide) rfl rfl rfl (cX11_isWork_ok M x1 hI) rfl rfl (by decide) (by decide) (Nat.le_of_ble_eq_true rfl) (Or.inl rfl) rfl rfl (by decide) (by decide) (fun y4 M5 e6 hI7 => ?_)
  refine V_ifeq (tgt := 28) dX11_isWay_5 (by decide) (fun h8 => ?_) (fun h8 => ?_)
  · refine V_iconst (v := 0) dX11_isWay_28 rfl ?_
    exact V_ret (fun _ => hI7) (Or.inr (Or.inr (Or.inl ⟨rfl, _, rfl⟩))) dX11_isWay_29 (fun ty x h1 h2 => by cases h1; cases h2; rfl) rfl
  · refine V_iload_n (k := 2) dX11_isWay_8 rfl rfl ?_
    refine V_iconst (v := 0) dX11_isWay_9 rfl ?_
    refine V_aload_n (k := 0) dX11_isWay_10 rfl rfl ?_
    refine V_getr (k := 145) dX11_isWay_11 rfl (by decide) vf_X11_61 (by decide) (v_fin hI7 132 rfl) ?_
    refine V_iload_n (k := 1) dX11_isWay_14 rfl rfl ?_
    refine V_iald dX11_isWay_15 rfl (by decide) (fun h9 => ?_)
    refine V_iconst (v := 1) dX11_isWay_16 rfl ?_
    refine V_isub dX11_isWay_17 ?_
    refine V_callSi (st0 := []) (kc' := 0) (ks' := 0) dX11_isWay_18 lk_X11_160 rfl (cX11_isIn_ok M5 x2 0 ((M5.1 145 (Int32.toNatClampNeg x1)) - 1) hI7) rfl rfl (by decide) (by decide) (Nat.le_of_ble_eq_true rfl) (Or.inl rfl) rfl rfl (by decide) (by decide) (fun y10 M11 e12 hI13 => ?_)
    refine V_ifeq (tgt := 28) dX11_isWay_21 (by decide) (fun h14 => ?_) (fun h14 => ?_)
    · refine V_iconst (v := 0) dX11_isWay_28 rfl ?_
      exact V_ret (fun _ => hI13) (Or.inr (Or.inr (Or.inl ⟨rfl, _, rfl⟩))) dX11_isWay_29 (fun ty x h1 h2 => by cases h1; cases h2; rfl) rfl
    · refine V_iconst (v := 1) dX11_isWay_24 rfl ?_
      refine V_goto (tgt := 29) dX11_isWay_25 (by decide) ?_
      exact V_ret (fun _ => hI13) (Or.inr (Or.inr (Or.inl ⟨rfl, _, rfl⟩))) dX11_isWay_29 (fun ty x h1 h2 => by cases h1; cases h2; rfl) rfl
def fX11_enter (M : vM) (x1 : Int32) (x2 : Int32) : Option (vR × vM) := if (M.1 130 21) = 400 then rI 0 M else if v_in ((2000 * x1) + x2) 12000 = true then if (M.1 148 (Int32.toNatClampNeg ((2000 * x1) + x2))) = 0 then if v_in (M.1 130 21) 400 = true then if v_in ((v_si M 149 (Int32.toNatClampNeg (M.1 130 21)) x1).1 130 21) 400 = true then bv (fX11_spend (v_si (v_si (v_si M 149 (Int32.toNatClampNeg (M.1 130 21)) x1) 150 (Int32.toNatClampNeg ((v_si M 149 (Int32.toNatClampNeg (M.1 130 21)) x1).1 130 21)) x2) 130 21 (((v_si (v_si M 149 (Int32.toNatClampNeg (M.1 130 21)) x1) 150 (Int32.toNatClampNeg ((v_si M 149 (Int32.toNatClampNeg (M.1 130 21)) x1).1 130 21)) x2).1 130 21) + 1)) x1 x2 148 (2000 * x1)) fun M11 => rI 1 M11 else none else none else rI 0 M else none
set_option maxRecDepth 20000 in
set_option maxHeartbeats 2000000 in
theorem cX11_enter_ok {l : Launch} {D : va_G} {dA : Nat → ClassId} (M : vM) (x1 : Int32) (x2 : Int32) (hI : v_WT M.2.2) : Ct l D dA sX11_enter false 175 4 0 0 175 [.ref 130, .int x1, .int x2] M (fX11_enter M x1 x2) := by
  refine Ct_of (lv := [(0, .ref 130), (1, .int x1), (2, .int x2)]) (by decide +kernel) rfl (Nat.le_of_ble_eq_true rfl) rfl (fun h => by cases h) ?_
  refine V_aload_n (k := 0) dX11_enter_0 rfl rfl ?_
  refine V_geti dX11_enter_1 rfl (by decide) vf_X11_293 (by decide) ?_
  refine V_sipush (v := 400) dX11_enter_4 rfl ?_
  refine V_icmpeq (tgt := 25) dX11_enter_7 (by decide) (fun h6 => ?_) (fun h6 => ?_)
  · refine V_iconst (v := 0) dX11_enter_25 rfl ?_
    exact V_ret (fun _ => hI) (Or.inr (Or.inr (Or.inl ⟨rfl, _, rfl⟩))) dX11_enter_26 (fun ty x h1 h2 => by cases h1; cases h2; rfl) rfl
  · refine V_aload_n (k := 0) dX11_enter_10 rfl rfl ?_
    refine V_getr (k := 148) dX11_enter_11 rfl (by decide) vf_X11_70 (by decide) (v_fin hI 135 rfl) ?_
    refine V_sipush (v := 2000) dX11_enter_14 rfl ?_
    refine V_iload_n (k := 1) dX11_enter_17 rfl rfl ?_
    refine V_imul dX11_enter_18 ?_
    refine V_iload_n (k := 2) dX11_enter_19 rfl rfl ?_
    refine V_iadd dX11_enter_20 ?_
    refine V_zald dX11_enter_21 rfl (by decide) (fun h7 => ?_)
    refine V_ifeq (tgt := 27) dX11_enter_22 (by decide) (fun h8 => ?_) (fun h8 => ?_)
    · refine V_aload_n (k := 0) dX11_enter_27 rfl rfl ?_
      refine V_getr (k := 149) dX11_enter_28 rfl (by decide) vf_X11_74 (by decide) (v_fin hI 136 rfl) ?_
      refine V_aload_n (k := 0) dX11_enter_31 rfl rfl ?_
      refine V_geti dX11_enter_32 rfl (by decide) vf_X11_293 (by decide) ?_
      refine V_iload_n (k := 1) dX11_enter_35 rfl rfl ?_
      refine V_iast dX11_enter_36 rfl (by decide) (fun h9 => ?_)
      refine V_aload_n (k := 0) dX11_enter_37 rfl rfl ?_
      refine V_getr (k := 150) dX11_enter_38 rfl (by decide) vf_X11_77 (by decide) (v_fin hI 137 rfl) ?_
      refine V_aload_n (k := 0) dX11_enter_41 rfl rfl ?_
      refine V_geti dX11_enter_42 rfl (by decide) vf_X11_293 (by decide) ?_
      refine V_iload_n (k := 2) dX11_enter_45 rfl rfl ?_
      refine V_iast dX11_enter_46 rfl (by decide) (fun h10 => ?_)
      refine V_aload_n (k := 0) dX11_enter_47 rfl rfl ?_
      refine V_dup dX11_enter_48 rfl ?_
      refine V_geti dX11_enter_49 rfl (by decide) vf_X11_293 (by decide) ?_
      refine V_iconst (v := 1) dX11_enter_52 rfl ?_
      refine V_iadd dX11_enter_53 ?_
      refine V_puti dX11_enter_54 rfl (by decide) vf_X11_293 (by decide) rfl rfl ?_
      refine V_aload_n (k := 0) dX11_enter_57 rfl rfl ?_
      refine V_iload_n (k := 1) dX11_enter_58 rfl rfl ?_
      refine V_iload_n (k := 2) dX11_enter_59 rfl rfl ?_
      refine V_aload_n (k := 0) dX11_enter_60 rfl rfl ?_
      refine V_getr (k := 148) dX11_enter_61 rfl (by decide) vf_X11_70 (by decide) (v_fin hI 135 rfl) ?_
      refine V_sipush (v := 2000) dX11_enter_64 rfl ?_
      refine V_iload_n (k := 1) dX11_enter_67 rfl rfl ?_
      refine V_imul dX11_enter_68 ?_
      refine V_callVv (q := (RX11, TX11, 61)) (cls := 11) (st0 := []) (kc' := 0) (ks' := 0) dX11_enter_69 lk_X11_352 rfl (by decide) rfl rfl rfl (cX11_spend_ok (v_si (v_si (v_si M 149 (Int32.toNatClampNeg (M.1 130 21)) x1) 150 (Int32.toNatClampNeg ((v_si M 149 (Int32.toNatClampNeg (M.1 130 21)) x1).1 130 21)) x2) 130 21 (((v_si (v_si M 149 (Int32.toNatClampNeg (M.1 130 21)) x1) 150 (Int32.toNatClampNeg ((v_si M 149 (Int32.toNatClampNeg (M.1 130 21)) x1).1 130 21)) x2).1 130 21) + 1)) x1 x2 148 (2000 * x1) (v_isA_of (by decide) rfl) hI) rfl rfl (by decide) (by decide) (Nat.le_of_ble_eq_true rfl) (Or.inl rfl) rfl rfl (by decide) (by decide) (fun  M11 e12 hI13 => ?_)
      refine V_iconst (v := 1) dX11_enter_72 rfl ?_
      exact V_ret (fun _ => hI13) (Or.inr (Or.inr (Or.inl ⟨rfl, _, rfl⟩))) dX11_enter_73 (fun ty x h1 h2 => by cases h1; cases h2; rfl) rfl
    · refine V_iconst (v := 0) dX11_enter_25 rfl ?_
      exact V_ret (fun _ => hI) (Or.inr (Or.inr (Or.inl ⟨rfl, _, rfl⟩))) dX11_enter_26 (fun ty x h1 h2 => by cases h1; cases h2; rfl) rfl
def fX11_done (M : vM) (x1 : Int32) (x2 : Int32) : Option (vR × vM) := bi (fX11_isWay (v_si M 130 1 0) x1 x2) fun y6 M7 => if y6 = 0 then rI 0 (v_si M7 130 1 1) else bi (fX11_enter M7 x1 x2) fun y11 M12 => if v_in 1 4 = true then if y11 = 0 then if v_in 1 4 = true then if v_nz y11 = y11 then rI y11 (v_si M12 156 (Int32.toNatClampNeg 1) ((M12.1 156 (Int32.toNatClampNeg 1)) + 1)) else none else none else if v_in 1 4 = true then if v_nz y11 = y11 then rI y11 (v_si M12 156 (Int32.toNatClampNeg 1) ((M12.1 156 (Int32.toNatClampNeg 1)) + 0)) else none else none else none
set_option maxRecDepth 20000 in
set_option maxHeartbeats 2000000 in
theorem cX11_done_ok {l : Launch} {D : va_G} {dA : Nat → ClassId} (M : vM) (x1 : Int32) (x2 : Int32) (hI : v_WT M.2.2) : Ct l D dA sX11_done false 175 5 0 0 175 [.ref 130, .int x1, .int x2] M (fX11_done M x1 x2) := by
  refine Ct_of (lv := [(0, .ref 130), (1, .int x1), (2, .int x2)]) (by decide +kernel) rfl (Nat.le_of_ble_eq_true rfl) rfl (fun h => by cases h) ?_
  refine V_aload_n (k := 0) dX11_done_0 rfl rfl ?_
  refine V_iconst (v := 0) dX11_done_1 rfl ?_
  refine V_puti dX11_done_2 rfl (by decide) vf_X11_154 (by decide) rfl rfl ?_
  refine V_aload_n (k := 0) dX11_done_5 rfl rfl ?_
  refine V_iload_n (k := 1) dX11_done_6 rfl rfl ?_
  refine V_iload_n (k := 2) dX11_done_7 rfl rfl ?_
  refine V_callVi (q := (RX11, TX11, 61)) (cls := 11) (st0 := []) (kc' := 0) (ks' := 0) dX11_done_8 lk_X11_362 rfl (by decide) rfl rfl rfl (cX11_isWay_ok (v_si M 130 1 0) x1 x2 hI) rfl rfl (by decide) (by decide) (Nat.le_of_ble_eq_true rfl) (Or.inl rfl) rfl rfl (by decide) (by decide) (fun y6 M7 e8 hI9 => ?_)
  refine V_ifne (tgt := 21) dX11_done_11 (by decide) (fun h10 => ?_) (fun h10 => ?_)
  · refine V_aload_n (k := 0) dX11_done_21 rfl rfl ?_
    refine V_iload_n (k := 1) dX11_done_22 rfl rfl ?_
    refine V_iload_n (k := 2) dX11_done_23 rfl rfl ?_
    refine V_callVi (q := (RX11, TX11, 61)) (cls := 11) (st0 := []) (kc' := 0) (ks' := 0) dX11_done_24 lk_X11_375 rfl (by decide) rfl rfl rfl (cX11_enter_ok M7 x1 x2 hI9) rfl rfl (by decide) (by decide) (Nat.le_of_ble_eq_true rfl) (Or.inl rfl) rfl rfl (by decide) (by decide) (fun y11 M12 e13 hI14 => ?_)
    refine V_istore_n (lv' := [(3, .int y11), (0, .ref 130), (1, .int x1), (2, .int x2)]) dX11_done_27 rfl (by decide) rfl ?_
    refine V_aload_n (k := 1) dX11_done_28 rfl rfl ?_
    refine V_getr (k := 156) dX11_done_29 rfl (by decide) vf_X11_95 (by decide) (v_fin hI14 143 rfl) ?_
    refine V_iconst (v := 1) dX11_done_32 rfl ?_
    refine V_dup2 dX11_done_33 rfl rfl ?_
    refine V_iald dX11_done_34 rfl (by decide) (fun h15 => ?_)
    refine V_iload_n (k := 0) dX11_done_35 rfl rfl ?_
    refine V_ifeq (tgt := 43) dX11_done_36 (by decide) (fun h16 => ?_) (fun h16 => ?_)
    · refine V_iconst (v := 1) dX11_done_43 rfl ?_
      refine V_iadd dX11_done_44 ?_
      refine V_iast dX11_done_45 rfl (by decide) (fun h17 => ?_)
      refine V_iload_n (k := 0) dX11_done_46 rfl rfl ?_
      exact V_retz (fun _ => hI14) rfl dX11_done_47
    · refine V_iconst (v := 0) dX11_done_39 rfl ?_
      refine V_goto (tgt := 44) dX11_done_40 (by decide) ?_
      refine V_iadd dX11_done_44 ?_
      refine V_iast dX11_done_45 rfl (by decide) (fun h18 => ?_)
      refine V_iload_n (k := 0) dX11_done_46 rfl rfl ?_
      exact V_retz (fun _ => hI14) rfl dX11_done_47
  · refine V_aload_n (k := 0) dX11_done_14 rfl rfl ?_
    refine V_iconst (v := 1) dX11_done_15 rfl ?_
    refine V_puti dX11_done_16 rfl (by decide) vf_X11_154 (by decide) rfl rfl ?_
    refine V_iconst (v := 0) dX11_done_19 rfl ?_
    exact V_ret (fun _ => hI9) (Or.inr (Or.inr (Or.inl ⟨rfl, _, rfl⟩))) dX11_done_20 (fun ty x h1 h2 => by cases h1; cases h2; rfl) rfl
def fX11_doneOf_4 : Nat → vM → Int32 → Int32 → Int32 → Option (vR × vM)
  | 0, _, _, _, _ => none
  | n9 + 1, M, x1, x2, x3 => if (M.1 130 21) ≤ x3 then rI x2 M else if v_in x3 400 = true then if (M.1 149 (Int32.toNatClampNeg x3)) = x1 then fX11_doneOf_4 n9 M x1 (x2 + 1) (x3 + 1) else fX11_doneOf_4 n9 M x1 (x2 + 0) (x3 + 1) else none
set_option maxRecDepth 20000 in
set_option maxHeartbeats 2000000 in
theorem vX11_doneOf_4 {l : Launch} {D : va_G} {dA : Nat → ClassId} : ∀ (n9 : Nat) (M : vM) (x1 : Int32) (x2 : Int32) (x3 : Int32), v_WT M.2.2 → V l D dA sX11_doneOf false 175 1 0 0 4 [(0, .ref 130), (1, .int x1), (2, .int x2), (3, .int x3)] [] 175 M (fX11_doneOf_4 n9 M x1 x2 x3) := by
  intro n9
  induction n9 with
  | zero => intros; exact V_none
  | succ n9 ih =>
    intro M x1 x2 x3 hI
    refine V_iload_n (k := 3) dX11_doneOf_4 rfl rfl ?_
    refine V_aload_n (k := 0) dX11_doneOf_5 rfl rfl ?_
    refine V_geti dX11_doneOf_6 rfl (by decide) vf_X11_293 (by decide) ?_
    refine V_icmpge (tgt := 36) dX11_doneOf_9 (by decide) (fun h4 => ?_) (fun h4 => ?_)
    · refine V_iload_n (k := 2) dX11_doneOf_36 rfl rfl ?_
      exact V_ret (fun _ => hI) (Or.inr (Or.inl ⟨rfl, _, rfl⟩)) dX11_doneOf_37 (fun ty x h1 h2 => by cases h1; rfl) rfl
    · refine V_iload_n (k := 2) dX11_doneOf_12 rfl rfl ?_
      refine V_aload_n (k := 0) dX11_doneOf_13 rfl rfl ?_
      refine V_getr (k := 149) dX11_doneOf_14 rfl (by decide) vf_X11_74 (by decide) (v_fin hI 136 rfl) ?_
      refine V_iload_n (k := 3) dX11_doneOf_17 rfl rfl ?_
      refine V_iald dX11_doneOf_18 rfl (by decide) (fun h5 => ?_)
      refine V_iload_n (k := 1) dX11_doneOf_19 rfl rfl ?_
      refine V_icmpne (tgt := 27) dX11_doneOf_20 (by decide) (fun h6 => ?_) (fun h6 => ?_)
      · refine V_iconst (v := 0) dX11_doneOf_27 rfl ?_
        refine V_iadd dX11_doneOf_28 ?_
        refine V_istore_n (lv' := [(2, .int (x2 + 0)), (0, .ref 130), (1, .int x1), (3, .int x3)]) dX11_doneOf_29 rfl (by decide) rfl ?_
        refine V_iinc (k := 3) (v := x3 + 1) (lv' := [(3, .int (x3 + 1)), (2, .int (x2 + 0)), (0, .ref 130), (1, .int x1)]) dX11_doneOf_30 rfl rfl (by decide) rfl ?_
        refine V_goto (tgt := 4) dX11_doneOf_33 (by decide) ?_
        refine V_sub [2, 3, 1, 0] rfl ?_
        exact ih M x1 (x2 + 0) (x3 + 1) hI
      · refine V_iconst (v := 1) dX11_doneOf_23 rfl ?_
        refine V_goto (tgt := 28) dX11_doneOf_24 (by decide) ?_
        refine V_iadd dX11_doneOf_28 ?_
        refine V_istore_n (lv' := [(2, .int (x2 + 1)), (0, .ref 130), (1, .int x1), (3, .int x3)]) dX11_doneOf_29 rfl (by decide) rfl ?_
        refine V_iinc (k := 3) (v := x3 + 1) (lv' := [(3, .int (x3 + 1)), (2, .int (x2 + 1)), (0, .ref 130), (1, .int x1)]) dX11_doneOf_30 rfl rfl (by decide) rfl ?_
        refine V_goto (tgt := 4) dX11_doneOf_33 (by decide) ?_
        refine V_sub [2, 3, 1, 0] rfl ?_
        exact ih M x1 (x2 + 1) (x3 + 1) hI
def fX11_doneOf (M : vM) (x1 : Int32) : Option (vR × vM) := fX11_doneOf_4 FU M x1 0 0
set_option maxRecDepth 20000 in
set_option maxHeartbeats 2000000 in
theorem cX11_doneOf_ok {l : Launch} {D : va_G} {dA : Nat → ClassId} (M : vM) (x1 : Int32) (hI : v_WT M.2.2) : Ct l D dA sX11_doneOf false 175 1 0 0 175 [.ref 130, .int x1] M (fX11_doneOf M x1) := by
  refine Ct_of (lv := [(0, .ref 130), (1, .int x1)]) (by decide +kernel) rfl (Nat.le_of_ble_eq_true rfl) rfl (fun h => by cases h) ?_
  refine V_iconst (v := 0) dX11_doneOf_0 rfl ?_
  refine V_istore_n (lv' := [(2, .int 0), (0, .ref 130), (1, .int x1)]) dX11_doneOf_1 rfl (by decide) rfl ?_
  refine V_iconst (v := 0) dX11_doneOf_2 rfl ?_
  refine V_istore_n (lv' := [(3, .int 0), (2, .int 0), (0, .ref 130), (1, .int x1)]) dX11_doneOf_3 rfl (by decide) rfl ?_
  refine V_sub [2, 3, 1, 0] rfl ?_
  exact vX11_doneOf_4 FU M x1 0 0 hI
def fX11_draw (M : vM) (x1 : Int32) : Option (vR × vM) := if x1 = 0 then none else rI (((((v_si M 130 50 (((M.1 130 50) * 1103515245) + 12345)).1 130 50) >>> (16 &&& (31 : Int32))) &&& 32767) - ((((v_si M 130 50 (((M.1 130 50) * 1103515245) + 12345)).1 130 50) >>> (16 &&& (31 : Int32))) &&& 32767) / x1 * x1) (v_si M 130 50 (((M.1 130 50) * 1103515245) + 12345))
set_option maxRecDepth 20000 in
set_option maxHeartbeats 2000000 in
theorem cX11_draw_ok {l : Launch} {D : va_G} {dA : Nat → ClassId} (M : vM) (x1 : Int32) (hI : v_WT M.2.2) : Ct l D dA sX11_draw false 175 1 0 0 175 [.ref 130, .int x1] M (fX11_draw M x1) := by
  refine Ct_of (lv := [(0, .ref 130), (1, .int x1)]) (by decide +kernel) rfl (Nat.le_of_ble_eq_true rfl) rfl (fun h => by cases h) ?_
  refine V_aload_n (k := 0) dX11_draw_0 rfl rfl ?_
  refine V_aload_n (k := 0) dX11_draw_1 rfl rfl ?_
  refine V_geti dX11_draw_2 rfl (by decide) vf_X11_412 (by decide) ?_
  refine V_ldcw dX11_draw_5 gw1758 ?_
  refine V_imul dX11_draw_8 ?_
  refine V_sipush (v := 12345) dX11_draw_9 rfl ?_
  refine V_iadd dX11_draw_12 ?_
  refine V_puti dX11_draw_13 rfl (by decide) vf_X11_412 (by decide) rfl rfl ?_
  refine V_aload_n (k := 0) dX11_draw_16 rfl rfl ?_
  refine V_geti dX11_draw_17 rfl (by decide) vf_X11_412 (by decide) ?_
  refine V_bipush (v := 16) dX11_draw_20 rfl ?_
  refine V_ishr dX11_draw_22 ?_
  refine V_sipush (v := 32767) dX11_draw_23 rfl ?_
  refine V_iand dX11_draw_26 ?_
  refine V_iload_n (k := 1) dX11_draw_27 rfl rfl ?_
  refine V_iremg dX11_draw_28 (fun h2 => ?_)
  exact V_ret (fun _ => hI) (Or.inr (Or.inl ⟨rfl, _, rfl⟩)) dX11_draw_29 (fun ty x h1 h2 => by cases h1; rfl) rfl
def fX11_drawn_42 (M : vM) : Option (vR × vM) := bi (fX11_fail M 2) fun y12 M13 => rI y12 M13
set_option maxRecDepth 20000 in
set_option maxHeartbeats 2000000 in
theorem vX11_drawn_42 {l : Launch} {D : va_G} {dA : Nat → ClassId} : ∀ (M : vM), v_WT M.2.2 → V l D dA sX11_drawn false 175 5 0 0 42 [(0, .ref 130)] [] 175 M (fX11_drawn_42 M) := by
  intro M hI
  refine V_aload_n (k := 0) dX11_drawn_42 rfl rfl ?_
  refine V_iconst (v := 2) dX11_drawn_43 rfl ?_
  refine V_callVi (q := (RX11, TX11, 61)) (cls := 11) (st0 := []) (kc' := 0) (ks' := 0) dX11_drawn_44 lk_X11_287 rfl (by decide) rfl rfl rfl (cX11_fail_ok M 2 hI) rfl rfl (by decide) (by decide) (Nat.le_of_ble_eq_true rfl) (Or.inl rfl) rfl rfl (by decide) (by decide) (fun y12 M13 e14 hI15 => ?_)
  exact V_ret (fun _ => hI15) (Or.inr (Or.inl ⟨rfl, _, rfl⟩)) dX11_drawn_47 (fun ty x h1 h2 => by cases h1; rfl) rfl
def fX11_drawn_74 (k65 : vM → Int32 → Int32 → Int32 → Int32 → Int32 → Int32 → Int32 → Option (vR × vM)) : Nat → vM → Int32 → Int32 → Int32 → Int32 → Int32 → Int32 → Int32 → Int32 → Option (vR × vM)
  | 0, _, _, _, _, _, _, _, _, _ => none
  | n9 + 1, M, x1, x2, x4, x5, x6, x7, x8, x9 => if (M.1 130 2) ≤ x9 then k65 M x1 x2 x4 x5 x6 x7 (x8 + 1) else bi (fX11_draw M 1000) fun y17 M18 => if y17 < x2 then bi (fX11_leftAt M18 x9 0) fun y22 M23 => if y22 = ((-1)) then fX11_drawn_74 k65 n9 M23 x1 x2 x4 x5 x6 (x7 + 1) x8 (x9 + 1) else bi (fX11_enter M23 x9 y22) fun y27 M28 => if y27 = 0 then fX11_drawn_74 k65 n9 M28 x1 x2 x4 x5 x6 (x7 + 1) x8 (x9 + 1) else if v_in ((2000 * x9) + y22) 12000 = true then fX11_drawn_74 k65 n9 M28 x1 x2 x4 (x5 + (M28.1 146 (Int32.toNatClampNeg ((2000 * x9) + y22)))) (x6 + 1) x7 x8 (x9 + 1) else none else fX11_drawn_74 k65 n9 M18 x1 x2 x4 x5 x6 x7 x8 (x9 + 1)
set_option maxRecDepth 20000 in
set_option maxHeartbeats 2000000 in
theorem vX11_drawn_74 {l : Launch} {D : va_G} {dA : Nat → ClassId} {k65 : vM → Int32 → Int32 → Int32 → Int32 → Int32 → Int32 → Int32 → Option (vR × vM)} (hk65 : ∀ (M : vM) (x1 : Int32) (x2 : Int32) (x4 : Int32) (x5 : Int32) (x6 : Int32) (x7 : Int32) (x8 : Int32), v_WT M.2.2 → V l D dA sX11_drawn false 175 5 0 0 65 [(0, .ref 130), (1, .int x1), (2, .int x2), (4, .int x4), (5, .int x5), (6, .int x6), (7, .int x7), (8, .int x8)] [] 175 M (k65 M x1 x2 x4 x5 x6 x7 x8)) : ∀ (n9 : Nat) (M : vM) (x1 : Int32) (x2 : Int32) (x4 : Int32) (x5 : Int32) (x6 : Int32) (x7 : Int32) (x8 : Int32) (x9 : Int32), v_WT M.2.2 → V l D dA sX11_drawn false 175 5 0 0 74 [(0, .ref 130), (1, .int x1), (2, .int x2), (4, .int x4), (5, .int x5), (6, .int x6), (7, .int x7), (8, .int x8), (9, .int x9)] [] 175 M (fX11_drawn_74 k65 n9 M x1 x2 x4 x5 x6 x7 x8 x9) := by
  intro n9
  induction n9 with
  | zero => intros; exact V_none
  | succ n9 ih =>
    intro M x1 x2 x4 x5 x6 x7 x8 x9 hI
    refine V_iload (k := 8) dX11_drawn_74 rfl ?_
    refine V_aload_n (k := 0) dX11_drawn_76 rfl rfl ?_
    refine V_geti dX11_drawn_77 rfl (by decide) vf_X11_157 (by decide) ?_
    refine V_icmpge (tgt := 157) dX11_drawn_80 (by decide) (fun h16 => ?_) (fun h16 => ?_)
    · refine V_iinc (k := 7) (v := x8 + 1) (lv' := [(8, .int (x8 + 1)), (0, .ref 130), (1, .int x1), (2, .int x2), (4, .int x4), (5, .int x5), (6, .int x6), (7, .int x7), (9, .int x9)]) dX11_drawn_157 rfl rfl (by decide) rfl ?_
      refine V_goto (tgt := 65) dX11_drawn_160 (by decide) ?_
      refine V_sub [1, 2, 3, 4, 5, 6, 7, 0] rfl ?_
      exact hk65 M x1 x2 x4 x5 x6 x7 (x8 + 1) hI
    · refine V_aload_n (k := 0) dX11_drawn_83 rfl rfl ?_
      refine V_sipush (v := 1000) dX11_drawn_84 rfl ?_
      refine V_callVi (q := (RX11, TX11, 61)) (cls := 11) (st0 := []) (kc' := 0) (ks' := 0) dX11_drawn_87 lk_X11_416 rfl (by decide) rfl rfl rfl (cX11_draw_ok M 1000 hI) rfl rfl (by decide) (by decide) (Nat.le_of_ble_eq_true rfl) (Or.inl rfl) rfl rfl (by decide) (by decide) (fun y17 M18 e19 hI20 => ?_)
      refine V_iload_n (k := 2) dX11_drawn_90 rfl rfl ?_
      refine V_icmplt (tgt := 97) dX11_drawn_91 (by decide) (fun h21 => ?_) (fun h21 => ?_)
      · refine V_aload_n (k := 0) dX11_drawn_97 rfl rfl ?_
        refine V_iload (k := 8) dX11_drawn_98 rfl ?_
        refine V_iconst (v := 0) dX11_drawn_100 rfl ?_
        refine V_callVi (q := (RX11, TX11, 61)) (cls := 11) (st0 := []) (kc' := 0) (ks' := 0) dX11_drawn_101 lk_X11_378 rfl (by decide) rfl rfl rfl (cX11_leftAt_ok M18 x9 0 hI20) rfl rfl (by decide) (by decide) (Nat.le_of_ble_eq_true rfl) (Or.inl rfl) rfl rfl (by decide) (by decide) (fun y22 M23 e24 hI25 => ?_)
        refine V_istore (lv' := [(10, .int y22), (0, .ref 130), (1, .int x1), (2, .int x2), (4, .int x4), (5, .int x5), (6, .int x6), (7, .int x7), (8, .int x8), (9, .int x9)]) dX11_drawn_104 (by decide) rfl ?_
        refine V_iload (k := 0) dX11_drawn_106 rfl ?_
        refine V_iconst (v := (-1)) dX11_drawn_108 rfl ?_
        refine V_icmpeq (tgt := 148) dX11_drawn_109 (by decide) (fun h26 => ?_) (fun h26 => ?_)
        · refine V_iinc (k := 7) (v := x7 + 1) (lv' := [(7, .int (x7 + 1)), (10, .int y22), (0, .ref 130), (1, .int x1), (2, .int x2), (4, .int x4), (5, .int x5), (6, .int x6), (8, .int x8), (9, .int x9)]) dX11_drawn_148 rfl rfl (by decide) rfl ?_
          refine V_iinc (k := 9) (v := x9 + 1) (lv' := [(9, .int (x9 + 1)), (7, .int (x7 + 1)), (10, .int y22), (0, .ref 130), (1, .int x1), (2, .int x2), (4, .int x4), (5, .int x5), (6, .int x6), (8, .int x8)]) dX11_drawn_151 rfl rfl (by decide) rfl ?_
          refine V_goto (tgt := 74) dX11_drawn_154 (by decide) ?_
          refine V_sub [3, 4, 5, 6, 7, 8, 1, 9, 0] rfl ?_
          exact ih M23 x1 x2 x4 x5 x6 (x7 + 1) x8 (x9 + 1) hI25
        · refine V_aload_n (k := 1) dX11_drawn_112 rfl rfl ?_
          refine V_iload (k := 9) dX11_drawn_113 rfl ?_
          refine V_iload (k := 0) dX11_drawn_115 rfl ?_
          refine V_callVi (q := (RX11, TX11, 61)) (cls := 11) (st0 := []) (kc' := 0) (ks' := 0) dX11_drawn_117 lk_X11_375 rfl (by decide) rfl rfl rfl (cX11_enter_ok M23 x9 y22 hI25) rfl rfl (by decide) (by decide) (Nat.le_of_ble_eq_true rfl) (Or.inl rfl) rfl rfl (by decide) (by decide) (fun y27 M28 e29 hI30 => ?_)
          refine V_ifeq (tgt := 148) dX11_drawn_120 (by decide) (fun h31 => ?_) (fun h31 => ?_)
          · refine V_iinc (k := 7) (v := x7 + 1) (lv' := [(7, .int (x7 + 1)), (10, .int y22), (0, .ref 130), (1, .int x1), (2, .int x2), (4, .int x4), (5, .int x5), (6, .int x6), (8, .int x8), (9, .int x9)]) dX11_drawn_148 rfl rfl (by decide) rfl ?_
            refine V_iinc (k := 9) (v := x9 + 1) (lv' := [(9, .int (x9 + 1)), (7, .int (x7 + 1)), (10, .int y22), (0, .ref 130), (1, .int x1), (2, .int x2), (4, .int x4), (5, .int x5), (6, .int x6), (8, .int x8)]) dX11_drawn_151 rfl rfl (by decide) rfl ?_
            refine V_goto (tgt := 74) dX11_drawn_154 (by decide) ?_
            refine V_sub [3, 4, 5, 6, 7, 8, 1, 9, 0] rfl ?_
            exact ih M28 x1 x2 x4 x5 x6 (x7 + 1) x8 (x9 + 1) hI30
          · refine V_iload (k := 5) dX11_drawn_123 rfl ?_
            refine V_aload_n (k := 1) dX11_drawn_125 rfl rfl ?_
            refine V_getr (k := 146) dX11_drawn_126 rfl (by decide) vf_X11_64 (by decide) (v_fin hI30 133 rfl) ?_
            refine V_sipush (v := 2000) dX11_drawn_129 rfl ?_
            refine V_iload (k := 9) dX11_drawn_132 rfl ?_
            refine V_imul dX11_drawn_134 ?_
            refine V_iload (k := 0) dX11_drawn_135 rfl ?_
            refine V_iadd dX11_drawn_137 ?_
            refine V_iald dX11_drawn_138 rfl (by decide) (fun h32 => ?_)
            refine V_iadd dX11_drawn_139 ?_
            refine V_istore (lv' := [(5, .int (x5 + (M28.1 146 (Int32.toNatClampNeg ((2000 * x9) + y22))))), (10, .int y22), (0, .ref 130), (1, .int x1), (2, .int x2), (4, .int x4), (6, .int x6), (7, .int x7), (8, .int x8), (9, .int x9)]) dX11_drawn_140 (by decide) rfl ?_
            refine V_iinc (k := 6) (v := x6 + 1) (lv' := [(6, .int (x6 + 1)), (5, .int (x5 + (M28.1 146 (Int32.toNatClampNeg ((2000 * x9) + y22))))), (10, .int y22), (0, .ref 130), (1, .int x1), (2, .int x2), (4, .int x4), (7, .int x7), (8, .int x8), (9, .int x9)]) dX11_drawn_142 rfl rfl (by decide) rfl ?_
            refine V_goto (tgt := 151) dX11_drawn_145 (by decide) ?_
            refine V_iinc (k := 9) (v := x9 + 1) (lv' := [(9, .int (x9 + 1)), (6, .int (x6 + 1)), (5, .int (x5 + (M28.1 146 (Int32.toNatClampNeg ((2000 * x9) + y22))))), (10, .int y22), (0, .ref 130), (1, .int x1), (2, .int x2), (4, .int x4), (7, .int x7), (8, .int x8)]) dX11_drawn_151 rfl rfl (by decide) rfl ?_
            refine V_goto (tgt := 74) dX11_drawn_154 (by decide) ?_
            refine V_sub [4, 5, 6, 7, 2, 1, 8, 9, 0] rfl ?_
            exact ih M28 x1 x2 x4 (x5 + (M28.1 146 (Int32.toNatClampNeg ((2000 * x9) + y22)))) (x6 + 1) x7 x8 (x9 + 1) hI30
      · refine V_goto (tgt := 151) dX11_drawn_94 (by decide) ?_
        refine V_iinc (k := 8) (v := x9 + 1) (lv' := [(9, .int (x9 + 1)), (0, .ref 130), (1, .int x1), (2, .int x2), (4, .int x4), (5, .int x5), (6, .int x6), (7, .int x7), (8, .int x8)]) dX11_drawn_151 rfl rfl (by decide) rfl ?_
        refine V_goto (tgt := 74) dX11_drawn_154 (by decide) ?_
        refine V_sub [1, 2, 3, 4, 5, 6, 7, 8, 0] rfl ?_
        exact ih M18 x1 x2 x4 x5 x6 x7 x8 (x9 + 1) hI20
def fX11_drawn_65 : Nat → vM → Int32 → Int32 → Int32 → Int32 → Int32 → Int32 → Int32 → Option (vR × vM)
  | 0, _, _, _, _, _, _, _, _ => none
  | n9 + 1, M, x1, x2, x4, x5, x6, x7, x8 => if x1 ≤ x8 then if x4 = 0 then rI x5 M else if x4 = 1 then rI x6 M else rI x7 M else fX11_drawn_74 (fX11_drawn_65 n9) FU M x1 x2 x4 x5 x6 x7 x8 0
set_option maxRecDepth 20000 in
set_option maxHeartbeats 2000000 in
theorem vX11_drawn_65 {l : Launch} {D : va_G} {dA : Nat → ClassId} : ∀ (n9 : Nat) (M : vM) (x1 : Int32) (x2 : Int32) (x4 : Int32) (x5 : Int32) (x6 : Int32) (x7 : Int32) (x8 : Int32), v_WT M.2.2 → V l D dA sX11_drawn false 175 5 0 0 65 [(0, .ref 130), (1, .int x1), (2, .int x2), (4, .int x4), (5, .int x5), (6, .int x6), (7, .int x7), (8, .int x8)] [] 175 M (fX11_drawn_65 n9 M x1 x2 x4 x5 x6 x7 x8) := by
  intro n9
  induction n9 with
  | zero => intros; exact V_none
  | succ n9 ih =>
    intro M x1 x2 x4 x5 x6 x7 x8 hI
    refine V_iload (k := 7) dX11_drawn_65 rfl ?_
    refine V_iload_n (k := 1) dX11_drawn_67 rfl rfl ?_
    refine V_icmpge (tgt := 163) dX11_drawn_68 (by decide) (fun h33 => ?_) (fun h33 => ?_)
    · refine V_iload (k := 3) dX11_drawn_163 rfl ?_
      refine V_ifne (tgt := 173) dX11_drawn_165 (by decide) (fun h34 => ?_) (fun h34 => ?_)
      · refine V_iload (k := 3) dX11_drawn_173 rfl ?_
        refine V_iconst (v := 1) dX11_drawn_175 rfl ?_
        refine V_icmpne (tgt := 184) dX11_drawn_176 (by decide) (fun h35 => ?_) (fun h35 => ?_)
        · refine V_iload (k := 6) dX11_drawn_184 rfl ?_
          exact V_ret (fun _ => hI) (Or.inr (Or.inl ⟨rfl, _, rfl⟩)) dX11_drawn_186 (fun ty x h1 h2 => by cases h1; rfl) rfl
        · refine V_iload (k := 5) dX11_drawn_179 rfl ?_
          refine V_goto (tgt := 186) dX11_drawn_181 (by decide) ?_
          exact V_ret (fun _ => hI) (Or.inr (Or.inl ⟨rfl, _, rfl⟩)) dX11_drawn_186 (fun ty x h1 h2 => by cases h1; rfl) rfl
      · refine V_iload (k := 4) dX11_drawn_168 rfl ?_
        refine V_goto (tgt := 186) dX11_drawn_170 (by decide) ?_
        exact V_ret (fun _ => hI) (Or.inr (Or.inl ⟨rfl, _, rfl⟩)) dX11_drawn_186 (fun ty x h1 h2 => by cases h1; rfl) rfl
    · refine V_iconst (v := 0) dX11_drawn_71 rfl ?_
      refine V_istore (lv' := [(9, .int 0), (0, .ref 130), (1, .int x1), (2, .int x2), (4, .int x4), (5, .int x5), (6, .int x6), (7, .int x7), (8, .int x8)]) dX11_drawn_72 (by decide) rfl ?_
      refine V_sub [1, 2, 3, 4, 5, 6, 7, 8, 0] rfl ?_
      exact vX11_drawn_74 (ih) FU M x1 x2 x4 x5 x6 x7 x8 0 hI
def fX11_drawn (M : vM) (x1 : Int32) (x2 : Int32) (x3 : Int32) (x4 : Int32) : Option (vR × vM) := bi (fX11_isIn (v_si M 130 1 0) x4 0 2) fun y36 M37 => if y36 = 0 then bi (fX11_fail M37 1) fun y51 M52 => rI y51 M52 else bi (fX11_isIn M37 x1 1 100) fun y41 M42 => if y41 = 0 then fX11_drawn_42 M42 else bi (fX11_isIn M42 x2 0 1000) fun y46 M47 => if y46 = 0 then fX11_drawn_42 M47 else fX11_drawn_65 FU (v_si M47 130 50 x3) x1 x2 x4 0 0 0 0
set_option maxRecDepth 20000 in
set_option maxHeartbeats 2000000 in
theorem cX11_drawn_ok {l : Launch} {D : va_G} {dA : Nat → ClassId} (M : vM) (x1 : Int32) (x2 : Int32) (x3 : Int32) (x4 : Int32) (hI : v_WT M.2.2) : Ct l D dA sX11_drawn false 175 5 0 0 175 [.ref 130, .int x1, .int x2, .int x3, .int x4] M (fX11_drawn M x1 x2 x3 x4) := by
  refine Ct_of (lv := [(0, .ref 130), (1, .int x1), (2, .int x2), (3, .int x3), (4, .int x4)]) (by decide +kernel) rfl (Nat.le_of_ble_eq_true rfl) rfl (fun h => by cases h) ?_
  refine V_aload_n (k := 0) dX11_drawn_0 rfl rfl ?_
  refine V_iconst (v := 0) dX11_drawn_1 rfl ?_
  refine V_puti dX11_drawn_2 rfl (by decide) vf_X11_154 (by decide) rfl rfl ?_
  refine V_iload (k := 4) dX11_drawn_5 rfl ?_
  refine V_iconst (v := 0) dX11_drawn_7 rfl ?_
  refine V_iconst (v := 2) dX11_drawn_8 rfl ?_
  refine V_callSi (st0 := []) (kc' := 0) (ks' := 0) dX11_drawn_9 lk_X11_160 rfl (cX11_isIn_ok (v_si M 130 1 0) x4 0 2 hI) rfl rfl (by decide) (by decide) (Nat.le_of_ble_eq_true rfl) (Or.inl rfl) rfl rfl (by decide) (by decide) (fun y36 M37 e38 hI39 => ?_)
  refine V_ifne (tgt := 21) dX11_drawn_12 (by decide) (fun h40 => ?_) (fun h40 => ?_)
  · refine V_iload_n (k := 1) dX11_drawn_21 rfl rfl ?_
    refine V_iconst (v := 1) dX11_drawn_22 rfl ?_
    refine V_bipush (v := 100) dX11_drawn_23 rfl ?_
    refine V_callSi (st0 := []) (kc' := 0) (ks' := 0) dX11_drawn_25 lk_X11_160 rfl (cX11_isIn_ok M37 x1 1 100 hI39) rfl rfl (by decide) (by decide) (Nat.le_of_ble_eq_true rfl) (Or.inl rfl) rfl rfl (by decide) (by decide) (fun y41 M42 e43 hI44 => ?_)
    refine V_ifeq (tgt := 42) dX11_drawn_28 (by decide) (fun h45 => ?_) (fun h45 => ?_)
    · refine V_sub [0] rfl ?_
      exact vX11_drawn_42 M42 hI44
    · refine V_iload_n (k := 2) dX11_drawn_31 rfl rfl ?_
      refine V_iconst (v := 0) dX11_drawn_32 rfl ?_
      refine V_sipush (v := 1000) dX11_drawn_33 rfl ?_
      refine V_callSi (st0 := []) (kc' := 0) (ks' := 0) dX11_drawn_36 lk_X11_160 rfl (cX11_isIn_ok M42 x2 0 1000 hI44) rfl rfl (by decide) (by decide) (Nat.le_of_ble_eq_true rfl) (Or.inl rfl) rfl rfl (by decide) (by decide) (fun y46 M47 e48 hI49 => ?_)
      refine V_ifne (tgt := 48) dX11_drawn_39 (by decide) (fun h50 => ?_) (fun h50 => ?_)
      · refine V_aload_n (k := 0) dX11_drawn_48 rfl rfl ?_
        refine V_iload_n (k := 3) dX11_drawn_49 rfl rfl ?_
        refine V_puti dX11_drawn_50 rfl (by decide) vf_X11_412 (by decide) rfl rfl ?_
        refine V_iconst (v := 0) dX11_drawn_53 rfl ?_
        refine V_istore (lv' := [(5, .int 0), (0, .ref 130), (1, .int x1), (2, .int x2), (3, .int x3), (4, .int x4)]) dX11_drawn_54 (by decide) rfl ?_
        refine V_iconst (v := 0) dX11_drawn_56 rfl ?_
        refine V_istore (lv' := [(6, .int 0), (5, .int 0), (0, .ref 130), (1, .int x1), (2, .int x2), (3, .int x3), (4, .int x4)]) dX11_drawn_57 (by decide) rfl ?_
        refine V_iconst (v := 0) dX11_drawn_59 rfl ?_
        refine V_istore (lv' := [(7, .int 0), (6, .int 0), (5, .int 0), (0, .ref 130), (1, .int x1), (2, .int x2), (3, .int x3), (4, .int x4)]) dX11_drawn_60 (by decide) rfl ?_
        refine V_iconst (v := 0) dX11_drawn_62 rfl ?_
        refine V_istore (lv' := [(8, .int 0), (7, .int 0), (6, .int 0), (5, .int 0), (0, .ref 130), (1, .int x1), (2, .int x2), (3, .int x3), (4, .int x4)]) dX11_drawn_63 (by decide) rfl ?_
        refine V_sub [4, 5, 6, 8, 3, 2, 1, 0] rfl ?_
        exact vX11_drawn_65 FU (v_si M47 130 50 x3) x1 x2 x4 0 0 0 0 hI49
      · refine V_sub [0] rfl ?_
        exact vX11_drawn_42 M47 hI49
  · refine V_aload_n (k := 0) dX11_drawn_15 rfl rfl ?_
    refine V_iconst (v := 1) dX11_drawn_16 rfl ?_
    refine V_callVi (q := (RX11, TX11, 61)) (cls := 11) (st0 := []) (kc' := 0) (ks' := 0) dX11_drawn_17 lk_X11_287 rfl (by decide) rfl rfl rfl (cX11_fail_ok M37 1 hI39) rfl rfl (by decide) (by decide) (Nat.le_of_ble_eq_true rfl) (Or.inl rfl) rfl rfl (by decide) (by decide) (fun y51 M52 e53 hI54 => ?_)
    exact V_ret (fun _ => hI54) (Or.inr (Or.inl ⟨rfl, _, rfl⟩)) dX11_drawn_20 (fun ty x h1 h2 => by cases h1; rfl) rfl
def fX11_fault (M : vM) : Option (vR × vM) := rI ((v_si M 130 1 0).1 130 40) (v_si M 130 1 0)
set_option maxRecDepth 20000 in
set_option maxHeartbeats 2000000 in
theorem cX11_fault_ok {l : Launch} {D : va_G} {dA : Nat → ClassId} (M : vM) (hI : v_WT M.2.2) : Ct l D dA sX11_fault false 175 1 0 0 175 [.ref 130] M (fX11_fault M) := by
  refine Ct_of (lv := [(0, .ref 130)]) (by decide +kernel) rfl (Nat.le_of_ble_eq_true rfl) rfl (fun h => by cases h) ?_
  refine V_aload_n (k := 0) dX11_fault_0 rfl rfl ?_
  refine V_iconst (v := 0) dX11_fault_1 rfl ?_
  refine V_puti dX11_fault_2 rfl (by decide) vf_X11_154 (by decide) rfl rfl ?_
  refine V_aload_n (k := 0) dX11_fault_5 rfl rfl ?_
  refine V_geti dX11_fault_6 rfl (by decide) vf_X11_101 (by decide) ?_
  exact V_ret (fun _ => hI) (Or.inr (Or.inl ⟨rfl, _, rfl⟩)) dX11_fault_9 (fun ty x h1 h2 => by cases h1; rfl) rfl
def fX11_feed_76 (k23 : vM → Int32 → Int32 → Int32 → Int32 → Int32 → Int32 → Option (vR × vM)) (M : vM) (x1 : Int32) (x2 : Int32) (x3 : Int32) (x4 : Int32) (x5 : Int32) (x6 : Int32) (s0 : Int32) : Option (vR × vM) := if v_in (M.1 130 31) 700 = true then k23 (v_si (v_si M 157 (Int32.toNatClampNeg (M.1 130 31)) ((s0 >>> ((24 - (8 * (x6 - x6 / 4 * 4))) &&& (31 : Int32))) &&& 255)) 130 31 (((v_si M 157 (Int32.toNatClampNeg (M.1 130 31)) ((s0 >>> ((24 - (8 * (x6 - x6 / 4 * 4))) &&& (31 : Int32))) &&& 255)).1 130 31) + 1)) x1 x2 x3 x4 x5 (x6 + 1) else none
set_option maxRecDepth 20000 in
set_option maxHeartbeats 2000000 in
theorem vX11_feed_76 {l : Launch} {D : va_G} {dA : Nat → ClassId} {k23 : vM → Int32 → Int32 → Int32 → Int32 → Int32 → Int32 → Option (vR × vM)} (hk23 : ∀ (M : vM) (x1 : Int32) (x2 : Int32) (x3 : Int32) (x4 : Int32) (x5 : Int32) (x6 : Int32), v_WT M.2.2 → V l D dA sX11_feed false 175 1 0 0 23 [(0, .ref 130), (1, .int x1), (2, .int x2), (3, .int x3), (4, .int x4), (5, .int x5), (6, .int x6)] [] 175 M (k23 M x1 x2 x3 x4 x5 x6)) : ∀ (M : vM) (x1 : Int32) (x2 : Int32) (x3 : Int32) (x4 : Int32) (x5 : Int32) (x6 : Int32) (s0 : Int32), v_WT M.2.2 → V l D dA sX11_feed false 175 1 0 0 76 [(0, .ref 130), (1, .int x1), (2, .int x2), (3, .int x3), (4, .int x4), (5, .int x5), (6, .int x6)] [.int s0] 175 M (fX11_feed_76 k23 M x1 x2 x3 x4 x5 x6 s0) := by
  intro M x1 x2 x3 x4 x5 x6 s0 hI
  refine V_istore (lv' := [(7, .int s0), (0, .ref 130), (1, .int x1), (2, .int x2), (3, .int x3), (4, .int x4), (5, .int x5), (6, .int x6)]) dX11_feed_76 (by decide) rfl ?_
  refine V_aload_n (k := 1) dX11_feed_78 rfl rfl ?_
  refine V_getr (k := 157) dX11_feed_79 rfl (by decide) vf_X11_98 (by decide) (v_fin hI 144 rfl) ?_
  refine V_aload_n (k := 1) dX11_feed_82 rfl rfl ?_
  refine V_geti dX11_feed_83 rfl (by decide) vf_X11_168 (by decide) ?_
  refine V_iload (k := 0) dX11_feed_86 rfl ?_
  refine V_bipush (v := 24) dX11_feed_88 rfl ?_
  refine V_bipush (v := 8) dX11_feed_90 rfl ?_
  refine V_iload (k := 7) dX11_feed_92 rfl ?_
  refine V_iconst (v := 4) dX11_feed_94 rfl ?_
  refine V_irem dX11_feed_95 (by decide) ?_
  refine V_imul dX11_feed_96 ?_
  refine V_isub dX11_feed_97 ?_
  refine V_ishr dX11_feed_98 ?_
  refine V_sipush (v := 255) dX11_feed_99 rfl ?_
  refine V_iand dX11_feed_102 ?_
  refine V_iast dX11_feed_103 rfl (by decide) (fun h8 => ?_)
  refine V_aload_n (k := 1) dX11_feed_104 rfl rfl ?_
  refine V_dup dX11_feed_105 rfl ?_
  refine V_geti dX11_feed_106 rfl (by decide) vf_X11_168 (by decide) ?_
  refine V_iconst (v := 1) dX11_feed_109 rfl ?_
  refine V_iadd dX11_feed_110 ?_
  refine V_puti dX11_feed_111 rfl (by decide) vf_X11_168 (by decide) rfl rfl ?_
  refine V_iinc (k := 7) (v := x6 + 1) (lv' := [(6, .int (x6 + 1)), (7, .int s0), (0, .ref 130), (1, .int x1), (2, .int x2), (3, .int x3), (4, .int x4), (5, .int x5)]) dX11_feed_114 rfl rfl (by decide) rfl ?_
  refine V_goto (tgt := 23) dX11_feed_117 (by decide) ?_
  refine V_sub [2, 3, 4, 5, 6, 7, 0] rfl ?_
  exact hk23 (v_si (v_si M 157 (Int32.toNatClampNeg (M.1 130 31)) ((s0 >>> ((24 - (8 * (x6 - x6 / 4 * 4))) &&& (31 : Int32))) &&& 255)) 130 31 (((v_si M 157 (Int32.toNatClampNeg (M.1 130 31)) ((s0 >>> ((24 - (8 * (x6 - x6 / 4 * 4))) &&& (31 : Int32))) &&& 255)).1 130 31) + 1)) x1 x2 x3 x4 x5 (x6 + 1) hI
def fX11_feed_23 : Nat → vM → Int32 → Int32 → Int32 → Int32 → Int32 → Int32 → Option (vR × vM)
  | 0, _, _, _, _, _, _, _ => none
  | n9 + 1, M, x1, x2, x3, x4, x5, x6 => if 20 ≤ x6 then rI (M.1 130 31) M else if 4 ≤ x6 then if 8 ≤ x6 then if 12 ≤ x6 then if 16 ≤ x6 then fX11_feed_76 (fX11_feed_23 n9) M x1 x2 x3 x4 x5 x6 x5 else fX11_feed_76 (fX11_feed_23 n9) M x1 x2 x3 x4 x5 x6 x4 else fX11_feed_76 (fX11_feed_23 n9) M x1 x2 x3 x4 x5 x6 x3 else fX11_feed_76 (fX11_feed_23 n9) M x1 x2 x3 x4 x5 x6 x2 else fX11_feed_76 (fX11_feed_23 n9) M x1 x2 x3 x4 x5 x6 x1
set_option maxRecDepth 20000 in
set_option maxHeartbeats 2000000 in
theorem vX11_feed_23 {l : Launch} {D : va_G} {dA : Nat → ClassId} : ∀ (n9 : Nat) (M : vM) (x1 : Int32) (x2 : Int32) (x3 : Int32) (x4 : Int32) (x5 : Int32) (x6 : Int32), v_WT M.2.2 → V l D dA sX11_feed false 175 1 0 0 23 [(0, .ref 130), (1, .int x1), (2, .int x2), (3, .int x3), (4, .int x4), (5, .int x5), (6, .int x6)] [] 175 M (fX11_feed_23 n9 M x1 x2 x3 x4 x5 x6) := by
  intro n9
  induction n9 with
  | zero => intros; exact V_none
  | succ n9 ih =>
    intro M x1 x2 x3 x4 x5 x6 hI
    refine V_iload (k := 6) dX11_feed_23 rfl ?_
    refine V_bipush (v := 20) dX11_feed_25 rfl ?_
    refine V_icmpge (tgt := 120) dX11_feed_27 (by decide) (fun h9 => ?_) (fun h9 => ?_)
    · refine V_aload_n (k := 0) dX11_feed_120 rfl rfl ?_
      refine V_geti dX11_feed_121 rfl (by decide) vf_X11_168 (by decide) ?_
      exact V_ret (fun _ => hI) (Or.inr (Or.inl ⟨rfl, _, rfl⟩)) dX11_feed_124 (fun ty x h1 h2 => by cases h1; rfl) rfl
    · refine V_iload (k := 6) dX11_feed_30 rfl ?_
      refine V_iconst (v := 4) dX11_feed_32 rfl ?_
      refine V_icmpge (tgt := 40) dX11_feed_33 (by decide) (fun h10 => ?_) (fun h10 => ?_)
      · refine V_iload (k := 6) dX11_feed_40 rfl ?_
        refine V_bipush (v := 8) dX11_feed_42 rfl ?_
        refine V_icmpge (tgt := 51) dX11_feed_44 (by decide) (fun h11 => ?_) (fun h11 => ?_)
        · refine V_iload (k := 6) dX11_feed_51 rfl ?_
          refine V_bipush (v := 12) dX11_feed_53 rfl ?_
          refine V_icmpge (tgt := 62) dX11_feed_55 (by decide) (fun h12 => ?_) (fun h12 => ?_)
          · refine V_iload (k := 6) dX11_feed_62 rfl ?_
            refine V_bipush (v := 16) dX11_feed_64 rfl ?_
            refine V_icmpge (tgt := 74) dX11_feed_66 (by decide) (fun h13 => ?_) (fun h13 => ?_)
            · refine V_iload (k := 5) dX11_feed_74 rfl ?_
              refine V_sub [0, 1, 2, 3, 4, 5, 6] rfl ?_
              exact vX11_feed_76 (ih) M x1 x2 x3 x4 x5 x6 x5 hI
            · refine V_iload (k := 4) dX11_feed_69 rfl ?_
              refine V_goto (tgt := 76) dX11_feed_71 (by decide) ?_
              refine V_sub [0, 1, 2, 3, 4, 5, 6] rfl ?_
              exact vX11_feed_76 (ih) M x1 x2 x3 x4 x5 x6 x4 hI
          · refine V_iload_n (k := 3) dX11_feed_58 rfl rfl ?_
            refine V_goto (tgt := 76) dX11_feed_59 (by decide) ?_
            refine V_sub [0, 1, 2, 3, 4, 5, 6] rfl ?_
            exact vX11_feed_76 (ih) M x1 x2 x3 x4 x5 x6 x3 hI
        · refine V_iload_n (k := 2) dX11_feed_47 rfl rfl ?_
          refine V_goto (tgt := 76) dX11_feed_48 (by decide) ?_
          refine V_sub [0, 1, 2, 3, 4, 5, 6] rfl ?_
          exact vX11_feed_76 (ih) M x1 x2 x3 x4 x5 x6 x2 hI
      · refine V_iload_n (k := 1) dX11_feed_36 rfl rfl ?_
        refine V_goto (tgt := 76) dX11_feed_37 (by decide) ?_
        refine V_sub [0, 1, 2, 3, 4, 5, 6] rfl ?_
        exact vX11_feed_76 (ih) M x1 x2 x3 x4 x5 x6 x1 hI
def fX11_feed (M : vM) (x1 : Int32) (x2 : Int32) (x3 : Int32) (x4 : Int32) (x5 : Int32) : Option (vR × vM) := if (((v_si M 130 1 0).1 130 31) + 20) ≤ 700 then fX11_feed_23 FU (v_si M 130 1 0) x1 x2 x3 x4 x5 0 else rI ((-1)) (v_si M 130 1 0)
set_option maxRecDepth 20000 in
set_option maxHeartbeats 2000000 in
theorem cX11_feed_ok {l : Launch} {D : va_G} {dA : Nat → ClassId} (M : vM) (x1 : Int32) (x2 : Int32) (x3 : Int32) (x4 : Int32) (x5 : Int32) (hI : v_WT M.2.2) : Ct l D dA sX11_feed false 175 1 0 0 175 [.ref 130, .int x1, .int x2, .int x3, .int x4, .int x5] M (fX11_feed M x1 x2 x3 x4 x5) := by
  refine Ct_of (lv := [(0, .ref 130), (1, .int x1), (2, .int x2), (3, .int x3), (4, .int x4), (5, .int x5)]) (by decide +kernel) rfl (Nat.le_of_ble_eq_true rfl) rfl (fun h => by cases h) ?_
  refine V_aload_n (k := 0) dX11_feed_0 rfl rfl ?_
  refine V_iconst (v := 0) dX11_feed_1 rfl ?_
  refine V_puti dX11_feed_2 rfl (by decide) vf_X11_154 (by decide) rfl rfl ?_
  refine V_aload_n (k := 0) dX11_feed_5 rfl rfl ?_
  refine V_geti dX11_feed_6 rfl (by decide) vf_X11_168 (by decide) ?_
  refine V_bipush (v := 20) dX11_feed_9 rfl ?_
  refine V_iadd dX11_feed_11 ?_
  refine V_sipush (v := 700) dX11_feed_12 rfl ?_
  refine V_icmple (tgt := 20) dX11_feed_15 (by decide) (fun h14 => ?_) (fun h14 => ?_)
  · refine V_iconst (v := 0) dX11_feed_20 rfl ?_
    refine V_istore (lv' := [(6, .int 0), (0, .ref 130), (1, .int x1), (2, .int x2), (3, .int x3), (4, .int x4), (5, .int x5)]) dX11_feed_21 (by decide) rfl ?_
    refine V_sub [1, 2, 3, 4, 5, 6, 0] rfl ?_
    exact vX11_feed_23 FU (v_si M 130 1 0) x1 x2 x3 x4 x5 0 hI
  · refine V_iconst (v := (-1)) dX11_feed_18 rfl ?_
    exact V_ret (fun _ => hI) (Or.inr (Or.inl ⟨rfl, _, rfl⟩)) dX11_feed_19 (fun ty x h1 h2 => by cases h1; rfl) rfl
def fX11_findOf_2 : Nat → vM → Int32 → Int32 → Int32 → Option (vR × vM)
  | 0, _, _, _, _ => none
  | n9 + 1, M, x1, x2, x3 => if v_in x1 6 = true then if (M.1 145 (Int32.toNatClampNeg x1)) ≤ x3 then rI ((-1)) M else bi (fX11_markOf M x1 x3) fun y6 M7 => if y6 = x2 then rI x3 M7 else fX11_findOf_2 n9 M7 x1 x2 (x3 + 1) else none
set_option maxRecDepth 20000 in
set_option maxHeartbeats 2000000 in
theorem vX11_findOf_2 {l : Launch} {D : va_G} {dA : Nat → ClassId} : ∀ (n9 : Nat) (M : vM) (x1 : Int32) (x2 : Int32) (x3 : Int32), v_WT M.2.2 → V l D dA sX11_findOf false 175 2 0 0 2 [(0, .ref 130), (1, .int x1), (2, .int x2), (3, .int x3)] [] 175 M (fX11_findOf_2 n9 M x1 x2 x3) := by
  intro n9
  induction n9 with
  | zero => intros; exact V_none
  | succ n9 ih =>
    intro M x1 x2 x3 hI
    refine V_iload_n (k := 3) dX11_findOf_2 rfl rfl ?_
    refine V_aload_n (k := 0) dX11_findOf_3 rfl rfl ?_
    refine V_getr (k := 145) dX11_findOf_4 rfl (by decide) vf_X11_61 (by decide) (v_fin hI 132 rfl) ?_
    refine V_iload_n (k := 1) dX11_findOf_7 rfl rfl ?_
    refine V_iald dX11_findOf_8 rfl (by decide) (fun h4 => ?_)
    refine V_icmpge (tgt := 30) dX11_findOf_9 (by decide) (fun h5 => ?_) (fun h5 => ?_)
    · refine V_iconst (v := (-1)) dX11_findOf_30 rfl ?_
      exact V_ret (fun _ => hI) (Or.inr (Or.inl ⟨rfl, _, rfl⟩)) dX11_findOf_31 (fun ty x h1 h2 => by cases h1; rfl) rfl
    · refine V_aload_n (k := 0) dX11_findOf_12 rfl rfl ?_
      refine V_iload_n (k := 1) dX11_findOf_13 rfl rfl ?_
      refine V_iload_n (k := 3) dX11_findOf_14 rfl rfl ?_
      refine V_callVi (q := (RX11, TX11, 61)) (cls := 11) (st0 := []) (kc' := 0) (ks' := 0) dX11_findOf_15 lk_X11_349 rfl (by decide) rfl rfl rfl (cX11_markOf_ok M x1 x3 hI) rfl rfl (by decide) (by decide) (Nat.le_of_ble_eq_true rfl) (Or.inl rfl) rfl rfl (by decide) (by decide) (fun y6 M7 e8 hI9 => ?_)
      refine V_iload_n (k := 2) dX11_findOf_18 rfl rfl ?_
      refine V_icmpne (tgt := 24) dX11_findOf_19 (by decide) (fun h10 => ?_) (fun h10 => ?_)
      · refine V_iinc (k := 3) (v := x3 + 1) (lv' := [(3, .int (x3 + 1)), (0, .ref 130), (1, .int x1), (2, .int x2)]) dX11_findOf_24 rfl rfl (by decide) rfl ?_
        refine V_goto (tgt := 2) dX11_findOf_27 (by decide) ?_
        refine V_sub [1, 2, 3, 0] rfl ?_
        exact ih M7 x1 x2 (x3 + 1) hI9
      · refine V_iload_n (k := 3) dX11_findOf_22 rfl rfl ?_
        exact V_ret (fun _ => hI9) (Or.inr (Or.inl ⟨rfl, _, rfl⟩)) dX11_findOf_23 (fun ty x h1 h2 => by cases h1; rfl) rfl
def fX11_findOf (M : vM) (x1 : Int32) (x2 : Int32) : Option (vR × vM) := fX11_findOf_2 FU M x1 x2 0
set_option maxRecDepth 20000 in
set_option maxHeartbeats 2000000 in
theorem cX11_findOf_ok {l : Launch} {D : va_G} {dA : Nat → ClassId} (M : vM) (x1 : Int32) (x2 : Int32) (hI : v_WT M.2.2) : Ct l D dA sX11_findOf false 175 2 0 0 175 [.ref 130, .int x1, .int x2] M (fX11_findOf M x1 x2) := by
  refine Ct_of (lv := [(0, .ref 130), (1, .int x1), (2, .int x2)]) (by decide +kernel) rfl (Nat.le_of_ble_eq_true rfl) rfl (fun h => by cases h) ?_
  refine V_iconst (v := 0) dX11_findOf_0 rfl ?_
  refine V_istore_n (lv' := [(3, .int 0), (0, .ref 130), (1, .int x1), (2, .int x2)]) dX11_findOf_1 rfl (by decide) rfl ?_
  refine V_sub [1, 2, 3, 0] rfl ?_
  exact vX11_findOf_2 FU M x1 x2 0 hI
def fX11_find (M : vM) (x1 : Int32) (x2 : Int32) : Option (vR × vM) := bi (fX11_isWork (v_si M 130 1 0) x1) fun y2 M3 => if y2 = 0 then bi (fX11_fail M3 1) fun y7 M8 => rI y7 M8 else bi (fX11_findOf M3 x1 x2) fun y11 M12 => rI y11 M12
set_option maxRecDepth 20000 in
set_option maxHeartbeats 2000000 in
theorem cX11_find_ok {l : Launch} {D : va_G} {dA : Nat → ClassId} (M : vM) (x1 : Int32) (x2 : Int32) (hI : v_WT M.2.2) : Ct l D dA sX11_find false 175 3 0 0 175 [.ref 130, .int x1, .int x2] M (fX11_find M x1 x2) := by
  refine Ct_of (lv := [(0, .ref 130), (1, .int x1), (2, .int x2)]) (by decide +kernel) rfl (Nat.le_of_ble_eq_true rfl) rfl (fun h => by cases h) ?_
  refine V_aload_n (k := 0) dX11_find_0 rfl rfl ?_
  refine V_iconst (v := 0) dX11_find_1 rfl ?_
  refine V_puti dX11_find_2 rfl (by decide) vf_X11_154 (by decide) rfl rfl ?_
  refine V_aload_n (k := 0) dX11_find_5 rfl rfl ?_
  refine V_iload_n (k := 1) dX11_find_6 rfl rfl ?_
  refine V_callVi (q := (RX11, TX11, 61)) (cls := 11) (st0 := []) (kc' := 0) (ks' := 0) dX11_find_7 lk_X11_164 rfl (by decide) rfl rfl rfl (cX11_isWork_ok (v_si M 130 1 0) x1 hI) rfl rfl (by decide) (by decide) (Nat.le_of_ble_eq_true rfl) (Or.inl rfl) rfl rfl (by decide) (by decide) (fun y2 M3 e4 hI5 => ?_)
  refine V_ifeq (tgt := 22) dX11_find_10 (by decide) (fun h6 => ?_) (fun h6 => ?_)
  · refine V_aload_n (k := 0) dX11_find_22 rfl rfl ?_
    refine V_iconst (v := 1) dX11_find_23 rfl ?_
    refine V_callVi (q := (RX11, TX11, 61)) (cls := 11) (st0 := []) (kc' := 0) (ks' := 0) dX11_find_24 lk_X11_287 rfl (by decide) rfl rfl rfl (cX11_fail_ok M3 1 hI5) rfl rfl (by decide) (by decide) (Nat.le_of_ble_eq_true rfl) (Or.inl rfl) rfl rfl (by decide) (by decide) (fun y7 M8 e9 hI10 => ?_)
    exact V_ret (fun _ => hI10) (Or.inr (Or.inl ⟨rfl, _, rfl⟩)) dX11_find_27 (fun ty x h1 h2 => by cases h1; rfl) rfl
  · refine V_aload_n (k := 0) dX11_find_13 rfl rfl ?_
    refine V_iload_n (k := 1) dX11_find_14 rfl rfl ?_
    refine V_iload_n (k := 2) dX11_find_15 rfl rfl ?_
    refine V_callVi (q := (RX11, TX11, 61)) (cls := 11) (st0 := []) (kc' := 0) (ks' := 0) dX11_find_16 lk_X11_369 rfl (by decide) rfl rfl rfl (cX11_findOf_ok M3 x1 x2 hI5) rfl rfl (by decide) (by decide) (Nat.le_of_ble_eq_true rfl) (Or.inl rfl) rfl rfl (by decide) (by decide) (fun y11 M12 e13 hI14 => ?_)
    refine V_goto (tgt := 27) dX11_find_19 (by decide) ?_
    exact V_ret (fun _ => hI14) (Or.inr (Or.inl ⟨rfl, _, rfl⟩)) dX11_find_27 (fun ty x h1 h2 => by cases h1; rfl) rfl
def fX11_sortPeople_27 (k2 : vM → Int32 → Int32 → Option (vR × vM)) : Nat → vM → Int32 → Int32 → Int32 → Int32 → Option (vR × vM)
  | 0, _, _, _, _, _ => none
  | n9 + 1, M, x1, x2, x3, x4 => if x4 ≤ 0 then if v_in x4 12 = true then k2 (v_si M 163 (Int32.toNatClampNeg x4) x3) x1 (x2 + 1) else none else if v_in (x4 - 1) 12 = true then if x3 ≤ (M.1 163 (Int32.toNatClampNeg (x4 - 1))) then if v_in x4 12 = true then k2 (v_si M 163 (Int32.toNatClampNeg x4) x3) x1 (x2 + 1) else none else if v_in (x4 - 1) 12 = true then if v_in x4 12 = true then fX11_sortPeople_27 k2 n9 (v_si M 163 (Int32.toNatClampNeg x4) (M.1 163 (Int32.toNatClampNeg (x4 - 1)))) x1 x2 x3 (x4 + (-1)) else none else none else none
set_option maxRecDepth 20000 in
set_option maxHeartbeats 2000000 in
theorem vX11_sortPeople_27 {l : Launch} {D : va_G} {dA : Nat → ClassId} {k2 : vM → Int32 → Int32 → Option (vR × vM)} (hk2 : ∀ (M : vM) (x1 : Int32) (x2 : Int32), v_WT M.2.2 → V l D dA sX11_sortPeople false 175 1 0 0 2 [(0, .ref 130), (1, .int x1), (2, .int x2)] [] 175 M (k2 M x1 x2)) : ∀ (n9 : Nat) (M : vM) (x1 : Int32) (x2 : Int32) (x3 : Int32) (x4 : Int32), v_WT M.2.2 → V l D dA sX11_sortPeople false 175 1 0 0 27 [(0, .ref 130), (1, .int x1), (2, .int x2), (3, .int x3), (4, .int x4)] [] 175 M (fX11_sortPeople_27 k2 n9 M x1 x2 x3 x4) := by
  intro n9
  induction n9 with
  | zero => intros; exact V_none
  | succ n9 ih =>
    intro M x1 x2 x3 x4 hI
    refine V_iload (k := 4) dX11_sortPeople_27 rfl ?_
    refine V_ifle (tgt := 67) dX11_sortPeople_29 (by decide) (fun h11 => ?_) (fun h11 => ?_)
    · refine V_aload_n (k := 0) dX11_sortPeople_67 rfl rfl ?_
      refine V_getr (k := 163) dX11_sortPeople_68 rfl (by decide) vf_X11_121 (by decide) (v_fin hI 150 rfl) ?_
      refine V_iload (k := 4) dX11_sortPeople_71 rfl ?_
      refine V_iload_n (k := 3) dX11_sortPeople_73 rfl rfl ?_
      refine V_iast dX11_sortPeople_74 rfl (by decide) (fun h12 => ?_)
      refine V_iinc (k := 2) (v := x2 + 1) (lv' := [(2, .int (x2 + 1)), (0, .ref 130), (1, .int x1), (3, .int x3), (4, .int x4)]) dX11_sortPeople_75 rfl rfl (by decide) rfl ?_
      refine V_goto (tgt := 2) dX11_sortPeople_78 (by decide) ?_
      refine V_sub [1, 2, 0] rfl ?_
      exact hk2 (v_si M 163 (Int32.toNatClampNeg x4) x3) x1 (x2 + 1) hI
    · refine V_aload_n (k := 0) dX11_sortPeople_32 rfl rfl ?_
      refine V_getr (k := 163) dX11_sortPeople_33 rfl (by decide) vf_X11_121 (by decide) (v_fin hI 150 rfl) ?_
      refine V_iload (k := 4) dX11_sortPeople_36 rfl ?_
      refine V_iconst (v := 1) dX11_sortPeople_38 rfl ?_
      refine V_isub dX11_sortPeople_39 ?_
      refine V_iald dX11_sortPeople_40 rfl (by decide) (fun h13 => ?_)
      refine V_iload_n (k := 3) dX11_sortPeople_41 rfl rfl ?_
      refine V_icmpge (tgt := 67) dX11_sortPeople_42 (by decide) (fun h14 => ?_) (fun h14 => ?_)
      · refine V_aload_n (k := 0) dX11_sortPeople_67 rfl rfl ?_
        refine V_getr (k := 163) dX11_sortPeople_68 rfl (by decide) vf_X11_121 (by decide) (v_fin hI 150 rfl) ?_
        refine V_iload (k := 4) dX11_sortPeople_71 rfl ?_
        refine V_iload_n (k := 3) dX11_sortPeople_73 rfl rfl ?_
        refine V_iast dX11_sortPeople_74 rfl (by decide) (fun h15 => ?_)
        refine V_iinc (k := 2) (v := x2 + 1) (lv' := [(2, .int (x2 + 1)), (0, .ref 130), (1, .int x1), (3, .int x3), (4, .int x4)]) dX11_sortPeople_75 rfl rfl (by decide) rfl ?_
        refine V_goto (tgt := 2) dX11_sortPeople_78 (by decide) ?_
        refine V_sub [1, 2, 0] rfl ?_
        exact hk2 (v_si M 163 (Int32.toNatClampNeg x4) x3) x1 (x2 + 1) hI
      · refine V_aload_n (k := 0) dX11_sortPeople_45 rfl rfl ?_
        refine V_getr (k := 163) dX11_sortPeople_46 rfl (by decide) vf_X11_121 (by decide) (v_fin hI 150 rfl) ?_
        refine V_iload (k := 4) dX11_sortPeople_49 rfl ?_
        refine V_aload_n (k := 0) dX11_sortPeople_51 rfl rfl ?_
        refine V_getr (k := 163) dX11_sortPeople_52 rfl (by decide) vf_X11_121 (by decide) (v_fin hI 150 rfl) ?_
        refine V_iload (k := 4) dX11_sortPeople_55 rfl ?_
        refine V_iconst (v := 1) dX11_sortPeople_57 rfl ?_
        refine V_isub dX11_sortPeople_58 ?_
        refine V_iald dX11_sortPeople_59 rfl (by decide) (fun h16 => ?_)
        refine V_iast dX11_sortPeople_60 rfl (by decide) (fun h17 => ?_)
        refine V_iinc (k := 4) (v := x4 + (-1)) (lv' := [(4, .int (x4 + (-1))), (0, .ref 130), (1, .int x1), (2, .int x2), (3, .int x3)]) dX11_sortPeople_61 rfl rfl (by decide) rfl ?_
        refine V_goto (tgt := 27) dX11_sortPeople_64 (by decide) ?_
        refine V_sub [1, 2, 3, 4, 0] rfl ?_
        exact ih (v_si M 163 (Int32.toNatClampNeg x4) (M.1 163 (Int32.toNatClampNeg (x4 - 1)))) x1 x2 x3 (x4 + (-1)) hI
def fX11_sortPeople_2 : Nat → vM → Int32 → Int32 → Option (vR × vM)
  | 0, _, _, _ => none
  | n9 + 1, M, x1, x2 => if v_in x1 6 = true then if (M.1 153 (Int32.toNatClampNeg x1)) ≤ x2 then rV M else if v_in ((12 * x1) + x2) 72 = true then fX11_sortPeople_27 (fX11_sortPeople_2 n9) FU M x1 x2 (M.1 154 (Int32.toNatClampNeg ((12 * x1) + x2))) x2 else none else none
set_option maxRecDepth 20000 in
set_option maxHeartbeats 2000000 in
theorem vX11_sortPeople_2 {l : Launch} {D : va_G} {dA : Nat → ClassId} : ∀ (n9 : Nat) (M : vM) (x1 : Int32) (x2 : Int32), v_WT M.2.2 → V l D dA sX11_sortPeople false 175 1 0 0 2 [(0, .ref 130), (1, .int x1), (2, .int x2)] [] 175 M (fX11_sortPeople_2 n9 M x1 x2) := by
  intro n9
  induction n9 with
  | zero => intros; exact V_none
  | succ n9 ih =>
    intro M x1 x2 hI
    refine V_iload_n (k := 2) dX11_sortPeople_2 rfl rfl ?_
    refine V_aload_n (k := 0) dX11_sortPeople_3 rfl rfl ?_
    refine V_getr (k := 153) dX11_sortPeople_4 rfl (by decide) vf_X11_86 (by decide) (v_fin hI 140 rfl) ?_
    refine V_iload_n (k := 1) dX11_sortPeople_7 rfl rfl ?_
    refine V_iald dX11_sortPeople_8 rfl (by decide) (fun h18 => ?_)
    refine V_icmpge (tgt := 81) dX11_sortPeople_9 (by decide) (fun h19 => ?_) (fun h19 => ?_)
    · exact V_ret (fun _ => hI) (Or.inl ⟨rfl, rfl⟩) dX11_sortPeople_81 (fun ty x h1 h2 => by cases h1) rfl
    · refine V_aload_n (k := 0) dX11_sortPeople_12 rfl rfl ?_
      refine V_getr (k := 154) dX11_sortPeople_13 rfl (by decide) vf_X11_89 (by decide) (v_fin hI 141 rfl) ?_
      refine V_bipush (v := 12) dX11_sortPeople_16 rfl ?_
      refine V_iload_n (k := 1) dX11_sortPeople_18 rfl rfl ?_
      refine V_imul dX11_sortPeople_19 ?_
      refine V_iload_n (k := 2) dX11_sortPeople_20 rfl rfl ?_
      refine V_iadd dX11_sortPeople_21 ?_
      refine V_iald dX11_sortPeople_22 rfl (by decide) (fun h20 => ?_)
      refine V_istore_n (lv' := [(3, .int (M.1 154 (Int32.toNatClampNeg ((12 * x1) + x2)))), (0, .ref 130), (1, .int x1), (2, .int x2)]) dX11_sortPeople_23 rfl (by decide) rfl ?_
      refine V_iload_n (k := 3) dX11_sortPeople_24 rfl rfl ?_
      refine V_istore (lv' := [(4, .int x2), (3, .int (M.1 154 (Int32.toNatClampNeg ((12 * x1) + x2)))), (0, .ref 130), (1, .int x1), (2, .int x2)]) dX11_sortPeople_25 (by decide) rfl ?_
      refine V_sub [2, 3, 4, 1, 0] rfl ?_
      exact vX11_sortPeople_27 (ih) FU M x1 x2 (M.1 154 (Int32.toNatClampNeg ((12 * x1) + x2))) x2 hI
def fX11_sortPeople (M : vM) (x1 : Int32) : Option (vR × vM) := fX11_sortPeople_2 FU M x1 0
set_option maxRecDepth 20000 in
set_option maxHeartbeats 2000000 in
theorem cX11_sortPeople_ok {l : Launch} {D : va_G} {dA : Nat → ClassId} (M : vM) (x1 : Int32) (hI : v_WT M.2.2) : Ct l D dA sX11_sortPeople false 175 1 0 0 175 [.ref 130, .int x1] M (fX11_sortPeople M x1) := by
  refine Ct_of (lv := [(0, .ref 130), (1, .int x1)]) (by decide +kernel) rfl (Nat.le_of_ble_eq_true rfl) rfl (fun h => by cases h) ?_
  refine V_iconst (v := 0) dX11_sortPeople_0 rfl ?_
  refine V_istore_n (lv' := [(2, .int 0), (0, .ref 130), (1, .int x1)]) dX11_sortPeople_1 rfl (by decide) rfl ?_
  refine V_sub [1, 2, 0] rfl ?_
  exact vX11_sortPeople_2 FU M x1 0 hI
def fX11_given_22 (M : vM) : Option (vR × vM) := bi (fX11_fail M 1) fun y19 M20 => rI y19 M20
set_option maxRecDepth 20000 in
set_option maxHeartbeats 2000000 in
theorem vX11_given_22 {l : Launch} {D : va_G} {dA : Nat → ClassId} : ∀ (M : vM), v_WT M.2.2 → V l D dA sX11_given false 175 3 0 0 22 [(0, .ref 130)] [] 175 M (fX11_given_22 M) := by
  intro M hI
  refine V_aload_n (k := 0) dX11_given_22 rfl rfl ?_
  refine V_iconst (v := 1) dX11_given_23 rfl ?_
  refine V_callVi (q := (RX11, TX11, 61)) (cls := 11) (st0 := []) (kc' := 0) (ks' := 0) dX11_given_24 lk_X11_287 rfl (by decide) rfl rfl rfl (cX11_fail_ok M 1 hI) rfl rfl (by decide) (by decide) (Nat.le_of_ble_eq_true rfl) (Or.inl rfl) rfl rfl (by decide) (by decide) (fun y19 M20 e21 hI22 => ?_)
  exact V_ret (fun _ => hI22) (Or.inr (Or.inl ⟨rfl, _, rfl⟩)) dX11_given_27 (fun ty x h1 h2 => by cases h1; rfl) rfl
def fX11_given_197 (M : vM) (x2 : Int32) (x5 : Int32) (x6 : Int32) : Option (vR × vM) := if x2 = 2 then rI x5 M else rI x6 M
set_option maxRecDepth 20000 in
set_option maxHeartbeats 2000000 in
theorem vX11_given_197 {l : Launch} {D : va_G} {dA : Nat → ClassId} : ∀ (M : vM) (x2 : Int32) (x5 : Int32) (x6 : Int32), v_WT M.2.2 → V l D dA sX11_given false 175 3 0 0 197 [(2, .int x2), (5, .int x5), (6, .int x6)] [] 175 M (fX11_given_197 M x2 x5 x6) := by
  intro M x2 x5 x6 hI
  refine V_iload_n (k := 0) dX11_given_197 rfl rfl ?_
  refine V_iconst (v := 2) dX11_given_198 rfl ?_
  refine V_icmpne (tgt := 207) dX11_given_199 (by decide) (fun h23 => ?_) (fun h23 => ?_)
  · refine V_iload (k := 2) dX11_given_207 rfl ?_
    exact V_ret (fun _ => hI) (Or.inr (Or.inl ⟨rfl, _, rfl⟩)) dX11_given_209 (fun ty x h1 h2 => by cases h1; rfl) rfl
  · refine V_iload (k := 1) dX11_given_202 rfl ?_
    refine V_goto (tgt := 209) dX11_given_204 (by decide) ?_
    exact V_ret (fun _ => hI) (Or.inr (Or.inl ⟨rfl, _, rfl⟩)) dX11_given_209 (fun ty x h1 h2 => by cases h1; rfl) rfl
def fX11_given_176 (M : vM) (x2 : Int32) (x3 : Int32) (x5 : Int32) (s0 : Int32) : Option (vR × vM) := if x3 ≤ 0 then fX11_given_197 M x2 x5 s0 else if v_in (x3 - 1) 12 = true then fX11_given_197 M x2 x5 (if M.1 163 (Int32.toNatClampNeg (x3 - 1)) < s0 then M.1 163 (Int32.toNatClampNeg (x3 - 1)) else s0) else none
set_option maxRecDepth 20000 in
set_option maxHeartbeats 2000000 in
theorem vX11_given_176 {l : Launch} {D : va_G} {dA : Nat → ClassId} : ∀ (M : vM) (x2 : Int32) (x3 : Int32) (x5 : Int32) (s0 : Int32), v_WT M.2.2 → V l D dA sX11_given false 175 3 0 0 176 [(0, .ref 130), (2, .int x2), (3, .int x3), (5, .int x5)] [.int s0] 175 M (fX11_given_176 M x2 x3 x5 s0) := by
  intro M x2 x3 x5 s0 hI
  refine V_istore (lv' := [(6, .int s0), (0, .ref 130), (2, .int x2), (3, .int x3), (5, .int x5)]) dX11_given_176 (by decide) rfl ?_
  refine V_iload_n (k := 3) dX11_given_178 rfl rfl ?_
  refine V_ifle (tgt := 197) dX11_given_179 (by decide) (fun h24 => ?_) (fun h24 => ?_)
  · refine V_sub [2, 4, 0] rfl ?_
    exact vX11_given_197 M x2 x5 s0 hI
  · refine V_iload (k := 0) dX11_given_182 rfl ?_
    refine V_aload_n (k := 1) dX11_given_184 rfl rfl ?_
    refine V_getr (k := 163) dX11_given_185 rfl (by decide) vf_X11_121 (by decide) (v_fin hI 150 rfl) ?_
    refine V_iload_n (k := 3) dX11_given_188 rfl rfl ?_
    refine V_iconst (v := 1) dX11_given_189 rfl ?_
    refine V_isub dX11_given_190 ?_
    refine V_iald dX11_given_191 rfl (by decide) (fun h25 => ?_)
    refine V_mmin dX11_given_192 gw1461 gw793 gw101 gw794 (by decide) (Nat.le_of_ble_eq_true rfl) ?_
    refine V_istore (lv' := [(6, .int (if M.1 163 (Int32.toNatClampNeg (x3 - 1)) < s0 then M.1 163 (Int32.toNatClampNeg (x3 - 1)) else s0)), (0, .ref 130), (2, .int x2), (3, .int x3), (5, .int x5)]) dX11_given_195 (by decide) rfl ?_
    refine V_sub [2, 4, 0] rfl ?_
    exact vX11_given_197 M x2 x5 (if M.1 163 (Int32.toNatClampNeg (x3 - 1)) < s0 then M.1 163 (Int32.toNatClampNeg (x3 - 1)) else s0) hI
def fX11_given_154 (M : vM) (x1 : Int32) (x2 : Int32) (x3 : Int32) (x5 : Int32) : Option (vR × vM) := bi (fX11_costLeft M x1 x3) fun y26 M27 => if y26 = ((-1)) then fX11_given_176 M27 x2 x3 x5 9999 else bi (fX11_costLeft M27 x1 x3) fun y31 M32 => fX11_given_176 M32 x2 x3 x5 y31
set_option maxRecDepth 20000 in
set_option maxHeartbeats 2000000 in
theorem vX11_given_154 {l : Launch} {D : va_G} {dA : Nat → ClassId} : ∀ (M : vM) (x1 : Int32) (x2 : Int32) (x3 : Int32) (x5 : Int32), v_WT M.2.2 → V l D dA sX11_given false 175 3 0 0 154 [(0, .ref 130), (1, .int x1), (2, .int x2), (3, .int x3), (5, .int x5)] [] 175 M (fX11_given_154 M x1 x2 x3 x5) := by
  intro M x1 x2 x3 x5 hI
  refine V_aload_n (k := 0) dX11_given_154 rfl rfl ?_
  refine V_iload_n (k := 1) dX11_given_155 rfl rfl ?_
  refine V_iload_n (k := 3) dX11_given_156 rfl rfl ?_
  refine V_callVi (q := (RX11, TX11, 61)) (cls := 11) (st0 := []) (kc' := 0) (ks' := 0) dX11_given_157 lk_X11_409 rfl (by decide) rfl rfl rfl (cX11_costLeft_ok M x1 x3 hI) rfl rfl (by decide) (by decide) (Nat.le_of_ble_eq_true rfl) (Or.inl rfl) rfl rfl (by decide) (by decide) (fun y26 M27 e28 hI29 => ?_)
  refine V_iconst (v := (-1)) dX11_given_160 rfl ?_
  refine V_icmpne (tgt := 170) dX11_given_161 (by decide) (fun h30 => ?_) (fun h30 => ?_)
  · refine V_aload_n (k := 0) dX11_given_170 rfl rfl ?_
    refine V_iload_n (k := 1) dX11_given_171 rfl rfl ?_
    refine V_iload_n (k := 3) dX11_given_172 rfl rfl ?_
    refine V_callVi (q := (RX11, TX11, 61)) (cls := 11) (st0 := []) (kc' := 0) (ks' := 0) dX11_given_173 lk_X11_409 rfl (by decide) rfl rfl rfl (cX11_costLeft_ok M27 x1 x3 hI29) rfl rfl (by decide) (by decide) (Nat.le_of_ble_eq_true rfl) (Or.inl rfl) rfl rfl (by decide) (by decide) (fun y31 M32 e33 hI34 => ?_)
    refine V_sub [0, 2, 3, 4] rfl ?_
    exact vX11_given_176 M32 x2 x3 x5 y31 hI34
  · refine V_sipush (v := 9999) dX11_given_164 rfl ?_
    refine V_goto (tgt := 176) dX11_given_167 (by decide) ?_
    refine V_sub [0, 2, 3, 4] rfl ?_
    exact vX11_given_176 M27 x2 x3 x5 9999 hI29
def fX11_given_133 (M : vM) (x1 : Int32) (x2 : Int32) (x3 : Int32) (s0 : Int32) : Option (vR × vM) := if x3 ≤ 0 then fX11_given_154 M x1 x2 x3 s0 else bi (fX11_costLeft M x1 (x3 - 1)) fun y36 M37 => fX11_given_154 M37 x1 x2 x3 (if s0 < y36 then y36 else s0)
set_option maxRecDepth 20000 in
set_option maxHeartbeats 2000000 in
theorem vX11_given_133 {l : Launch} {D : va_G} {dA : Nat → ClassId} : ∀ (M : vM) (x1 : Int32) (x2 : Int32) (x3 : Int32) (s0 : Int32), v_WT M.2.2 → V l D dA sX11_given false 175 3 0 0 133 [(0, .ref 130), (1, .int x1), (2, .int x2), (3, .int x3)] [.int s0] 175 M (fX11_given_133 M x1 x2 x3 s0) := by
  intro M x1 x2 x3 s0 hI
  refine V_istore (lv' := [(5, .int s0), (0, .ref 130), (1, .int x1), (2, .int x2), (3, .int x3)]) dX11_given_133 (by decide) rfl ?_
  refine V_iload_n (k := 4) dX11_given_135 rfl rfl ?_
  refine V_ifle (tgt := 154) dX11_given_136 (by decide) (fun h35 => ?_) (fun h35 => ?_)
  · refine V_sub [1, 2, 3, 4, 0] rfl ?_
    exact vX11_given_154 M x1 x2 x3 s0 hI
  · refine V_iload (k := 0) dX11_given_139 rfl ?_
    refine V_aload_n (k := 1) dX11_given_141 rfl rfl ?_
    refine V_iload_n (k := 2) dX11_given_142 rfl rfl ?_
    refine V_iload_n (k := 4) dX11_given_143 rfl rfl ?_
    refine V_iconst (v := 1) dX11_given_144 rfl ?_
    refine V_isub dX11_given_145 ?_
    refine V_callVi (q := (RX11, TX11, 61)) (cls := 11) (st0 := [.int s0]) (kc' := 0) (ks' := 0) dX11_given_146 lk_X11_409 rfl (by decide) rfl rfl rfl (cX11_costLeft_ok M x1 (x3 - 1) hI) rfl rfl (by decide) (by decide) (Nat.le_of_ble_eq_true rfl) (Or.inl rfl) rfl rfl (by decide) (by decide) (fun y36 M37 e38 hI39 => ?_)
    refine V_mmax dX11_given_149 gw1721 gw834 gw101 gw835 (by decide) (Nat.le_of_ble_eq_true rfl) ?_
    refine V_istore (lv' := [(5, .int (if s0 < y36 then y36 else s0)), (0, .ref 130), (1, .int x1), (2, .int x2), (3, .int x3)]) dX11_given_152 (by decide) rfl ?_
    refine V_sub [1, 2, 3, 4, 0] rfl ?_
    exact vX11_given_154 M37 x1 x2 x3 (if s0 < y36 then y36 else s0) hI39
def fX11_given_97 (M : vM) (x1 : Int32) (x2 : Int32) (x3 : Int32) (x4 : Int32) : Option (vR × vM) := if 2 ≤ x2 then if v_in x1 6 = true then if (M.1 153 (Int32.toNatClampNeg x1)) ≤ x3 then fX11_given_133 M x1 x2 x3 0 else if v_in x3 12 = true then fX11_given_133 M x1 x2 x3 (M.1 163 (Int32.toNatClampNeg x3)) else none else none else if x2 = 0 then rI x4 M else rI x3 M
set_option maxRecDepth 20000 in
set_option maxHeartbeats 2000000 in
theorem vX11_given_97 {l : Launch} {D : va_G} {dA : Nat → ClassId} : ∀ (M : vM) (x1 : Int32) (x2 : Int32) (x3 : Int32) (x4 : Int32), v_WT M.2.2 → V l D dA sX11_given false 175 3 0 0 97 [(0, .ref 130), (1, .int x1), (2, .int x2), (3, .int x3), (4, .int x4)] [] 175 M (fX11_given_97 M x1 x2 x3 x4) := by
  intro M x1 x2 x3 x4 hI
  refine V_iload_n (k := 2) dX11_given_97 rfl rfl ?_
  refine V_iconst (v := 2) dX11_given_98 rfl ?_
  refine V_icmpge (tgt := 113) dX11_given_99 (by decide) (fun h40 => ?_) (fun h40 => ?_)
  · refine V_iload_n (k := 3) dX11_given_113 rfl rfl ?_
    refine V_aload_n (k := 0) dX11_given_114 rfl rfl ?_
    refine V_getr (k := 153) dX11_given_115 rfl (by decide) vf_X11_86 (by decide) (v_fin hI 140 rfl) ?_
    refine V_iload_n (k := 1) dX11_given_118 rfl rfl ?_
    refine V_iald dX11_given_119 rfl (by decide) (fun h41 => ?_)
    refine V_icmpge (tgt := 132) dX11_given_120 (by decide) (fun h42 => ?_) (fun h42 => ?_)
    · refine V_iconst (v := 0) dX11_given_132 rfl ?_
      refine V_sub [0, 1, 2, 3] rfl ?_
      exact vX11_given_133 M x1 x2 x3 0 hI
    · refine V_aload_n (k := 0) dX11_given_123 rfl rfl ?_
      refine V_getr (k := 163) dX11_given_124 rfl (by decide) vf_X11_121 (by decide) (v_fin hI 150 rfl) ?_
      refine V_iload_n (k := 3) dX11_given_127 rfl rfl ?_
      refine V_iald dX11_given_128 rfl (by decide) (fun h43 => ?_)
      refine V_goto (tgt := 133) dX11_given_129 (by decide) ?_
      refine V_sub [0, 1, 2, 3] rfl ?_
      exact vX11_given_133 M x1 x2 x3 (M.1 163 (Int32.toNatClampNeg x3)) hI
  · refine V_iload_n (k := 2) dX11_given_102 rfl rfl ?_
    refine V_ifne (tgt := 111) dX11_given_103 (by decide) (fun h44 => ?_) (fun h44 => ?_)
    · refine V_iload_n (k := 3) dX11_given_111 rfl rfl ?_
      exact V_ret (fun _ => hI) (Or.inr (Or.inl ⟨rfl, _, rfl⟩)) dX11_given_112 (fun ty x h1 h2 => by cases h1; rfl) rfl
    · refine V_iload (k := 4) dX11_given_106 rfl ?_
      refine V_goto (tgt := 112) dX11_given_108 (by decide) ?_
      exact V_ret (fun _ => hI) (Or.inr (Or.inl ⟨rfl, _, rfl⟩)) dX11_given_112 (fun ty x h1 h2 => by cases h1; rfl) rfl
def fX11_given_38 : Nat → vM → Int32 → Int32 → Int32 → Int32 → Option (vR × vM)
  | 0, _, _, _, _, _ => none
  | n9 + 1, M, x1, x2, x3, x4 => if v_in x1 6 = true then if (M.1 153 (Int32.toNatClampNeg x1)) ≤ x3 then fX11_given_97 M x1 x2 x3 x4 else bi (fX11_costLeft M x1 x3) fun y47 M48 => if y47 = ((-1)) then fX11_given_97 M48 x1 x2 x3 x4 else if v_in x3 12 = true then bi (fX11_costLeft M48 x1 x3) fun y53 M54 => if (M48.1 163 (Int32.toNatClampNeg x3)) ≤ y53 then fX11_given_97 M54 x1 x2 x3 x4 else if v_in x3 12 = true then bi (fX11_costLeft M54 x1 x3) fun y59 M60 => fX11_given_38 n9 M60 x1 x2 (x3 + 1) (x4 + ((M54.1 163 (Int32.toNatClampNeg x3)) - y59)) else none else none else none
set_option maxRecDepth 20000 in
set_option maxHeartbeats 2000000 in
theorem vX11_given_38 {l : Launch} {D : va_G} {dA : Nat → ClassId} : ∀ (n9 : Nat) (M : vM) (x1 : Int32) (x2 : Int32) (x3 : Int32) (x4 : Int32), v_WT M.2.2 → V l D dA sX11_given false 175 3 0 0 38 [(0, .ref 130), (1, .int x1), (2, .int x2), (3, .int x3), (4, .int x4)] [] 175 M (fX11_given_38 n9 M x1 x2 x3 x4) := by
  intro n9
  induction n9 with
  | zero => intros; exact V_none
  | succ n9 ih =>
    intro M x1 x2 x3 x4 hI
    refine V_iload_n (k := 3) dX11_given_38 rfl rfl ?_
    refine V_aload_n (k := 0) dX11_given_39 rfl rfl ?_
    refine V_getr (k := 153) dX11_given_40 rfl (by decide) vf_X11_86 (by decide) (v_fin hI 140 rfl) ?_
    refine V_iload_n (k := 1) dX11_given_43 rfl rfl ?_
    refine V_iald dX11_given_44 rfl (by decide) (fun h45 => ?_)
    refine V_icmpge (tgt := 97) dX11_given_45 (by decide) (fun h46 => ?_) (fun h46 => ?_)
    · refine V_sub [0, 1, 2, 3, 4] rfl ?_
      exact vX11_given_97 M x1 x2 x3 x4 hI
    · refine V_aload_n (k := 0) dX11_given_48 rfl rfl ?_
      refine V_iload_n (k := 1) dX11_given_49 rfl rfl ?_
      refine V_iload_n (k := 3) dX11_given_50 rfl rfl ?_
      refine V_callVi (q := (RX11, TX11, 61)) (cls := 11) (st0 := []) (kc' := 0) (ks' := 0) dX11_given_51 lk_X11_409 rfl (by decide) rfl rfl rfl (cX11_costLeft_ok M x1 x3 hI) rfl rfl (by decide) (by decide) (Nat.le_of_ble_eq_true rfl) (Or.inl rfl) rfl rfl (by decide) (by decide) (fun y47 M48 e49 hI50 => ?_)
      refine V_iconst (v := (-1)) dX11_given_54 rfl ?_
      refine V_icmpeq (tgt := 97) dX11_given_55 (by decide) (fun h51 => ?_) (fun h51 => ?_)
      · refine V_sub [0, 1, 2, 3, 4] rfl ?_
        exact vX11_given_97 M48 x1 x2 x3 x4 hI50
      · refine V_aload_n (k := 0) dX11_given_58 rfl rfl ?_
        refine V_getr (k := 163) dX11_given_59 rfl (by decide) vf_X11_121 (by decide) (v_fin hI50 150 rfl) ?_
        refine V_iload_n (k := 3) dX11_given_62 rfl rfl ?_
        refine V_iald dX11_given_63 rfl (by decide) (fun h52 => ?_)
        refine V_aload_n (k := 0) dX11_given_64 rfl rfl ?_
        refine V_iload_n (k := 1) dX11_given_65 rfl rfl ?_
        refine V_iload_n (k := 3) dX11_given_66 rfl rfl ?_
        refine V_callVi (q := (RX11, TX11, 61)) (cls := 11) (st0 := [.int (M48.1 163 (Int32.toNatClampNeg x3))]) (kc' := 0) (ks' := 0) dX11_given_67 lk_X11_409 rfl (by decide) rfl rfl rfl (cX11_costLeft_ok M48 x1 x3 hI50) rfl rfl (by decide) (by decide) (Nat.le_of_ble_eq_true rfl) (Or.inl rfl) rfl rfl (by decide) (by decide) (fun y53 M54 e55 hI56 => ?_)
        refine V_icmple (tgt := 97) dX11_given_70 (by decide) (fun h57 => ?_) (fun h57 => ?_)
        · refine V_sub [0, 1, 2, 3, 4] rfl ?_
          exact vX11_given_97 M54 x1 x2 x3 x4 hI56
        · refine V_iload (k := 4) dX11_given_73 rfl ?_
          refine V_aload_n (k := 0) dX11_given_75 rfl rfl ?_
          refine V_getr (k := 163) dX11_given_76 rfl (by decide) vf_X11_121 (by decide) (v_fin hI56 150 rfl) ?_
          refine V_iload_n (k := 3) dX11_given_79 rfl rfl ?_
          refine V_iald dX11_given_80 rfl (by decide) (fun h58 => ?_)
          refine V_aload_n (k := 0) dX11_given_81 rfl rfl ?_
          refine V_iload_n (k := 1) dX11_given_82 rfl rfl ?_
          refine V_iload_n (k := 3) dX11_given_83 rfl rfl ?_
          refine V_callVi (q := (RX11, TX11, 61)) (cls := 11) (st0 := [.int (M54.1 163 (Int32.toNatClampNeg x3)), .int x4]) (kc' := 0) (ks' := 0) dX11_given_84 lk_X11_409 rfl (by decide) rfl rfl rfl (cX11_costLeft_ok M54 x1 x3 hI56) rfl rfl (by decide) (by decide) (Nat.le_of_ble_eq_true rfl) (Or.inl rfl) rfl rfl (by decide) (by decide) (fun y59 M60 e61 hI62 => ?_)
          refine V_isub dX11_given_87 ?_
          refine V_iadd dX11_given_88 ?_
          refine V_istore (lv' := [(4, .int (x4 + ((M54.1 163 (Int32.toNatClampNeg x3)) - y59))), (0, .ref 130), (1, .int x1), (2, .int x2), (3, .int x3)]) dX11_given_89 (by decide) rfl ?_
          refine V_iinc (k := 4) (v := x3 + 1) (lv' := [(3, .int (x3 + 1)), (4, .int (x4 + ((M54.1 163 (Int32.toNatClampNeg x3)) - y59))), (0, .ref 130), (1, .int x1), (2, .int x2)]) dX11_given_91 rfl rfl (by decide) rfl ?_
          refine V_goto (tgt := 38) dX11_given_94 (by decide) ?_
          refine V_sub [2, 3, 4, 0, 1] rfl ?_
          exact ih M60 x1 x2 (x3 + 1) (x4 + ((M54.1 163 (Int32.toNatClampNeg x3)) - y59)) hI62
def fX11_given (M : vM) (x1 : Int32) (x2 : Int32) : Option (vR × vM) := bi (fX11_isWork (v_si M 130 1 0) x1) fun y63 M64 => if y63 = 0 then fX11_given_22 M64 else bi (fX11_isIn M64 x2 0 3) fun y68 M69 => if y68 = 0 then fX11_given_22 M69 else bv (fX11_sortPeople M69 x1) fun M73 => fX11_given_38 FU M73 x1 x2 0 0
set_option maxRecDepth 20000 in
set_option maxHeartbeats 2000000 in
theorem cX11_given_ok {l : Launch} {D : va_G} {dA : Nat → ClassId} (M : vM) (x1 : Int32) (x2 : Int32) (hI : v_WT M.2.2) : Ct l D dA sX11_given false 175 3 0 0 175 [.ref 130, .int x1, .int x2] M (fX11_given M x1 x2) := by
  refine Ct_of (lv := [(0, .ref 130), (1, .int x1), (2, .int x2)]) (by decide +kernel) rfl (Nat.le_of_ble_eq_true rfl) rfl (fun h => by cases h) ?_
  refine V_aload_n (k := 0) dX11_given_0 rfl rfl ?_
  refine V_iconst (v := 0) dX11_given_1 rfl ?_
  refine V_puti dX11_given_2 rfl (by decide) vf_X11_154 (by decide) rfl rfl ?_
  refine V_aload_n (k := 0) dX11_given_5 rfl rfl ?_
  refine V_iload_n (k := 1) dX11_given_6 rfl rfl ?_
  refine V_callVi (q := (RX11, TX11, 61)) (cls := 11) (st0 := []) (kc' := 0) (ks' := 0) dX11_given_7 lk_X11_164 rfl (by decide) rfl rfl rfl (cX11_isWork_ok (v_si M 130 1 0) x1 hI) rfl rfl (by decide) (by decide) (Nat.le_of_ble_eq_true rfl) (Or.inl rfl) rfl rfl (by decide) (by decide) (fun y63 M64 e65 hI66 => ?_)
  refine V_ifeq (tgt := 22) dX11_given_10 (by decide) (fun h67 => ?_) (fun h67 => ?_)
  · refine V_sub [0] rfl ?_
    exact vX11_given_22 M64 hI66
  · refine V_iload_n (k := 2) dX11_given_13 rfl rfl ?_
    refine V_iconst (v := 0) dX11_given_14 rfl ?_
    refine V_iconst (v := 3) dX11_given_15 rfl ?_
    refine V_callSi (st0 := []) (kc' := 0) (ks' := 0) dX11_given_16 lk_X11_160 rfl (cX11_isIn_ok M64 x2 0 3 hI66) rfl rfl (by decide) (by decide) (Nat.le_of_ble_eq_true rfl) (Or.inl rfl) rfl rfl (by decide) (by decide) (fun y68 M69 e70 hI71 => ?_)
    refine V_ifne (tgt := 28) dX11_given_19 (by decide) (fun h72 => ?_) (fun h72 => ?_)
    · refine V_aload_n (k := 0) dX11_given_28 rfl rfl ?_
      refine V_iload_n (k := 1) dX11_given_29 rfl rfl ?_
      refine V_callVv (q := (RX11, TX11, 61)) (cls := 11) (st0 := []) (kc' := 0) (ks' := 0) dX11_given_30 lk_X11_406 rfl (by decide) rfl rfl rfl (cX11_sortPeople_ok M69 x1 hI71) rfl rfl (by decide) (by decide) (Nat.le_of_ble_eq_true rfl) (Or.inl rfl) rfl rfl (by decide) (by decide) (fun  M73 e74 hI75 => ?_)
      refine V_iconst (v := 0) dX11_given_33 rfl ?_
      refine V_istore_n (lv' := [(3, .int 0), (0, .ref 130), (1, .int x1), (2, .int x2)]) dX11_given_34 rfl (by decide) rfl ?_
      refine V_iconst (v := 0) dX11_given_35 rfl ?_
      refine V_istore (lv' := [(4, .int 0), (3, .int 0), (0, .ref 130), (1, .int x1), (2, .int x2)]) dX11_given_36 (by decide) rfl ?_
      refine V_sub [2, 3, 4, 1, 0] rfl ?_
      exact vX11_given_38 FU M73 x1 x2 0 0 hI75
    · refine V_sub [0] rfl ?_
      exact vX11_given_22 M69 hI71
