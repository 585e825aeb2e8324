/-! String.length, String.charAt of the string constants -/
def v_ch (i k : Nat) : Int32 := (v_bytS.getD i []).getD k 0
theorem v_chl : ((List.range v_nS).all fun i => decide ((v_bytS.getD i []).length = v_lenS.getD i 0) && decide (v_lenS.getD i 0 < 40)) = true := by decide +kernel
theorem v_cha : ((List.range v_nS).all fun i => (List.range 40).all fun k => decide (((v_ch i k &&& 255).toUInt32 % 65536).toInt32 = v_ch i k) && decide (narrow .char (.int (v_ch i k)) = .int (v_ch i k))) = true := by decide +kernel
theorem v_chb {i k : Nat} (hi : i < v_nS) (hk : k < v_lenS.getD i 0) : ((v_ch i k &&& 255).toUInt32 % 65536).toInt32 = v_ch i k ∧ narrow .char (.int (v_ch i k)) = .int (v_ch i k) := by
  have h1 := List.all_eq_true.mp v_chl i (List.mem_range.mpr hi)
  simp only [Bool.and_eq_true, decide_eq_true_eq] at h1
  have h2 := List.all_eq_true.mp (List.all_eq_true.mp v_cha i (List.mem_range.mpr hi)) k (List.mem_range.mpr (by omega))
  simp only [Bool.and_eq_true, decide_eq_true_eq] at h2
  exact h2
theorem v_sh0 : ((List.range v_nS).all fun i => decide (nI (v_lenS.getD i 0) >>> ((0 : Int32) &&& 31) = nI (v_lenS.getD i 0))) = true := by decide +kernel
theorem v_sh1 {i : Nat} (hi : i < v_nS) : nI (v_lenS.getD i 0) >>> ((0 : Int32) &&& 31) = nI (v_lenS.getD i 0) := of_decide_eq_true (List.all_eq_true.mp v_sh0 i (List.mem_range.mpr hi))
section V15
variable {l : Launch} {D : va_G} {dA : Nat → ClassId} {S : vS} {al : Bool} {nf d kc ks pc pc' : Nat} {lv lv' : List (Nat × Value)} {st st' : List Value} {n : Nat} {M : vM} {o : Option (vR × vM)}
theorem V_callVsi {S' : vS} {d' mc' ms' idx np kc' ks' i : Nat} {av stk st0 : List Value} {f : Option (vR × vM)} {K : Int32 → vM → Option (vR × vM)} (hdg : decode S.2.1 pc = .ok (.invokevirtual idx, 3)) (hlk : vLkV S.1.cls idx S' np) (hh' : S'.2.2.2.2 = []) (hi : i < v_nS) (hq1 : S'.1.cls = "java/lang/String") (hCt : Ct l D dA S' false n d' mc' ms' n (.ref (1000 + i) :: av) M f) (hnp : av.length = np) (hstk : av.reverse ++ .ref (1000 + i) :: st0 = stk) (hd' : d' + 1 ≤ d) (hmx : S'.2.2.1 ≤ 45) (hcat : (st0.map fun v => v.category).sum ≤ 8) (hh : S.2.2.2.2 = [] ∨ ∀ k M1, f ≠ some (.inl k, M1)) (hal : al = false) (hnf : nf = n) (hkc : mc' + kc' ≤ kc) (hks : ms' + ks' ≤ ks)
    (kk : ∀ x M1, f = rI x M1 → v_WT M1.2.2 → V l D dA S al nf d kc' ks' (pc + 3) lv (.int x :: st0) n M1 (K x M1)) : V l D dA S al nf d kc ks pc lv stk n M (bi f K) := by
  subst hal
  refine V_callG (al' := false) (nf' := n) (mc' := mc') (ms' := ms') (st0 := st0) (fun {r1 M1 p e R s m args below meth cd H locs cells slots A ls ad} C Wd hl hf h1 h2 => ⟨((Value.ref (1000 + i) :: av).map (vcv ad)).toArray, ?_⟩) hh (Or.inl ⟨rfl, rfl⟩) (fun _ => hnf.symm) hkc hks (fun _ => hnf) (fun _ h => by cases h) (fun r1 M1 hf => (hCt r1 M1 hf).1) ?_
  · obtain ⟨hx, hb, hml, hret, hown, hts, hlocks, htab, hnm, hfr, hlo⟩ := id C
    obtain ⟨⟨g1, g2, g3, g4, g5⟩, g6, g7⟩ := hlk
    have hM := (hCt r1 M1 hf).2 ad H.size
    have hcode : v_code S' = Cond.code S'.1 S'.2.1 S'.2.2.1 S'.2.2.2.1 := by simp [v_code, hh']
    have hcode2 : Cond.code S'.1 S'.2.1 S'.2.2.1 S'.2.2.2.1 ∈ v_G := by rw [← hcode]; exact g3
    have hcw : Cond.code S'.1 S'.2.1 S'.2.2.1 S'.2.2.2.1 ∈ v_ws S' := List.mem_cons_of_mem _ hcode2
    have hstack : (F0 m pc ls (stk.map (vcv ad))).stack = (av.map (vcv ad)).reverse ++ .ref (ad (1000 + i)) :: st0.map (vcv ad) := by
      subst hstk
      simp [vcv]
    have hpre : PreV s H S'.1.cls (ad (1000 + i)) (v_Pc D dA ad n M H.size (.ref (1000 + i) :: av)) (av.map (vcv ad)) := ⟨v_Pc_blind, by rw [hq1]; exact vk_recv (adK := fun i => ad (1000 + i)) (i := i) Wd.2.2.2.2.2.2.2.1 hi Wd.2.2.2.1, fun U hU hW => v_pre Wd U hU hW⟩
    have hmax : 8 + (S'.2.2.1 + 11) + (v_rm d' mc' ms').locals ≤ R.locals := by
      show 8 + (S'.2.2.1 + 11) + 64 * d' ≤ R.locals
      omega
    rcases g1 with g1 | ⟨h, g1⟩
    · exact vx_runV (Ts := v_G) ⟨hx, hb, hml, hown, hts⟩ hM (n := np) (C := S'.1.cls) ⟨⟨rfl, rfl, Nat.le_trans hd' hfr, hmax, v_pay hts g3, hcw, hts _ hcode2, hts _ g2, g4, v_lenOf g5, hts _ g1⟩, hts _ g6, hts _ g7⟩ hpre rfl (by simp [hnp]) hl.1 hstack (lv_room (v_catsum hcat)) hdg ⟨h1, h2⟩
    · exact vx_runVN (Ts := v_G) (host := h) ⟨hx, hb, hml, hown, hts⟩ hM (n := np) (C := S'.1.cls) ⟨⟨⟨rfl, rfl, Nat.le_trans hd' hfr, hmax, v_pay hts g3, hcw⟩, hts _ hcode2, hts _ g2, g4, v_lenOf g5, v_nwU (fun _ => (Wd.2.2.2.2.2).1 _ g1) rfl⟩, hts _ g6, hts _ g7⟩ hpre rfl (by simp [hnp]) hl.1 hstack (lv_room (v_catsum hcat)) hdg ⟨h1, h2⟩
  · intro v M1 hf hI
    cases v with
    | none => exact V_none
    | some v =>
      cases v <;> first | exact kk _ M1 hf (hI rfl) | exact V_none
theorem V_true {c : Prop} [Decidable c] {o2 : Option (vR × vM)} (hc : c) (k : V l D dA S al nf d kc ks pc lv st n M (if c then o else o2)) : V l D dA S al nf d kc ks pc lv st n M o := by
  rw [if_pos hc] at k
  exact k
theorem V_false {c : Prop} [Decidable c] {o2 : Option (vR × vM)} (hc : ¬ c) (k : V l D dA S al nf d kc ks pc lv st n M (if c then o2 else o)) : V l D dA S al nf d kc ks pc lv st n M o := by
  rw [if_neg hc] at k
  exact k
end V15
section V16
variable {l : Launch} {D : va_G} {dA : Nat → ClassId}
theorem cJ0_coder_ok (M : vM) (i : Nat) (hi : i < v_nS) (hI : v_WT M.2.2) : Ct l D dA sJ0_coder_7d493 false 175 1 0 0 175 [.ref (1000 + i)] M (rI 0 M) := by
  refine Ct_of (lv := [(0, .ref (1000 + i))]) (by decide +kernel) rfl (Nat.le_of_ble_eq_true rfl) rfl (fun h => by cases h) ?_
  refine V_gets dJ0_coder_7d493_0 gw661 ?_
  refine V_false (c := (1 : Int32) = 0) (o2 := none) (by decide) ?_
  refine V_ifeq (tgt := 13) dJ0_coder_7d493_3 (by decide) (fun h => absurd h (by decide)) (fun h => ?_)
  refine V_aload_n (k := 0) dJ0_coder_7d493_6 rfl rfl ?_
  refine V_scod hi dJ0_coder_7d493_7 gw1788 ?_
  refine V_goto (tgt := 14) dJ0_coder_7d493_10 (by decide) ?_
  exact V_ret (fun _ => hI) (Or.inr (Or.inr (Or.inr (Or.inr (Or.inr (Or.inl ⟨rfl, _, rfl⟩)))))) dJ0_coder_7d493_14 (fun ty x h1 h2 => by cases h1; cases h2; rfl) rfl
theorem cJ0_isLatin1_ok (M : vM) (i : Nat) (hi : i < v_nS) (hI : v_WT M.2.2) : Ct l D dA sJ0_isLatin1_aae02 false 175 1 0 0 175 [.ref (1000 + i)] M (rI 1 M) := by
  refine Ct_of (lv := [(0, .ref (1000 + i))]) (by decide +kernel) rfl (Nat.le_of_ble_eq_true rfl) rfl (fun h => by cases h) ?_
  refine V_gets dJ0_isLatin1_aae02_0 gw661 ?_
  refine V_false (c := (1 : Int32) = 0) (o2 := none) (by decide) ?_
  refine V_ifeq (tgt := 17) dJ0_isLatin1_aae02_3 (by decide) (fun h => absurd h (by decide)) (fun h => ?_)
  refine V_aload_n (k := 0) dJ0_isLatin1_aae02_6 rfl rfl ?_
  refine V_scod hi dJ0_isLatin1_aae02_7 gw1788 ?_
  refine V_true (c := (0 : Int32) = 0) (o2 := none) rfl ?_
  refine V_ifne (tgt := 17) dJ0_isLatin1_aae02_10 (by decide) (fun h => absurd rfl h) (fun h => ?_)
  refine V_iconst (v := 1) dJ0_isLatin1_aae02_13 rfl ?_
  refine V_goto (tgt := 18) dJ0_isLatin1_aae02_14 (by decide) ?_
  exact V_ret (fun _ => hI) (Or.inr (Or.inr (Or.inl ⟨rfl, _, rfl⟩))) dJ0_isLatin1_aae02_18 (fun ty x h1 h2 => by cases h1; cases h2; rfl) rfl
def fJ0_length_8abf5 (M : vM) (i : Nat) : Option (vR × vM) := rI (nI (v_lenS.getD i 0)) M
theorem cJ0_length_8abf5_ok (M : vM) (i : Nat) (hi : i < v_nS) (hI : v_WT M.2.2) : Ct l D dA sJ0_length_8abf5 false 175 2 0 0 175 [.ref (1000 + i)] M (fJ0_length_8abf5 M i) := by
  refine Ct_of (lv := [(0, .ref (1000 + i))]) (by decide +kernel) rfl (Nat.le_of_ble_eq_true rfl) rfl (fun h => by cases h) ?_
  refine V_aload_n (k := 0) dJ0_length_8abf5_0 rfl rfl ?_
  refine V_sval hi dJ0_length_8abf5_1 gw1787 ?_
  refine V_salen hi dJ0_length_8abf5_4 ?_
  refine V_aload_n (k := 0) dJ0_length_8abf5_5 rfl rfl ?_
  show V l D dA sJ0_length_8abf5 false 175 2 0 0 _ _ _ 175 M (bi (rI 0 M) fun x M1 => rI (nI (v_lenS.getD i 0)) M1)
  refine V_callVsi (st0 := [.int (nI (v_lenS.getD i 0))]) (kc' := 0) (ks' := 0) dJ0_length_8abf5_6 lk_J0_335 rfl hi rfl (cJ0_coder_ok M i hi hI) rfl rfl (by decide) (by decide) (Nat.le_of_ble_eq_true rfl) (Or.inl rfl) rfl rfl (by decide) (by decide) (fun x M1 e hI1 => ?_)
  cases e
  refine V_ishr dJ0_length_8abf5_9 ?_
  exact V_ret (fun _ => hI) (Or.inr (Or.inl ⟨rfl, _, rfl⟩)) dJ0_length_8abf5_10 (fun ty x h1 h2 => by cases h1; rfl) (by rw [v_sh1 hi]; rfl)
theorem cJ3_checkIndex_ok (M : vM) (i : Int32) (len : Nat) (hlen : len < 2 ^ 31) (w : Value) (hw : w = .null ∨ w = .ref 5000) (hI : v_WT M.2.2) : Ct l D dA sJ3_checkIndex_8e157 false 175 1 0 0 175 [.int i, .int (nI len), w] M (if v_in i len = true then rI i M else none) := by
  by_cases hin : v_in i len = true
  · rw [if_pos hin]
    have h0 : ¬ i < 0 := fun q => v_in_vp hin (Or.inl q)
    have h1 : i < nI len := by
      obtain ⟨j, hj, rfl⟩ := vp_in_of (v_in_vp hin) hlen
      exact nI_lt hj hlen
    have main : ∀ w, (lg_sl [.int i, .int (nI len), w]).length ≤ 3 → Ct l D dA sJ3_checkIndex_8e157 false 175 1 0 0 175 [.int i, .int (nI len), w] M (rI i M) := by
      intro w hw
      refine Ct_of (lv := [(0, .int i), (1, .int (nI len)), (2, w)]) (by decide +kernel) rfl hw rfl (fun h => by cases h) ?_
      refine V_iload_n (k := 0) dJ3_checkIndex_8e157_0 rfl rfl ?_
      refine V_false (c := i < 0) (o2 := none) h0 ?_
      refine V_iflt (tgt := 9) dJ3_checkIndex_8e157_1 (by decide) (fun h => absurd h h0) (fun h => ?_)
      refine V_iload_n (k := 0) dJ3_checkIndex_8e157_4 rfl rfl ?_
      refine V_iload_n (k := 1) dJ3_checkIndex_8e157_5 rfl rfl ?_
      refine V_true (c := i < nI len) (o2 := none) h1 ?_
      refine V_icmplt (tgt := 16) dJ3_checkIndex_8e157_6 (by decide) (fun h => ?_) (fun h => absurd h1 h)
      refine V_iload_n (k := 0) dJ3_checkIndex_8e157_16 rfl rfl ?_
      exact V_ret (fun _ => hI) (Or.inr (Or.inl ⟨rfl, _, rfl⟩)) dJ3_checkIndex_8e157_17 (fun ty x h1 h2 => by cases h1; rfl) rfl
    rcases hw with rfl | rfl <;> exact main _ (Nat.le_of_ble_eq_true rfl)
  · rw [if_neg hin]
    intro r M' h
    cases h
theorem cJ0_checkIndex_ok (M : vM) (i : Int32) (len : Nat) (hlen : len < 2 ^ 31) (hI : v_WT M.2.2) : Ct l D dA sJ0_checkIndex_df160 false 175 2 0 0 175 [.int i, .int (nI len)] M (bi (if v_in i len = true then rI i M else none) fun x M1 => rV M1) := by
  refine Ct_of (lv := [(0, .int i), (1, .int (nI len))]) (by decide +kernel) rfl (Nat.le_of_ble_eq_true rfl) rfl (fun h => by cases h) ?_
  refine V_iload_n (k := 0) dJ0_checkIndex_df160_0 rfl rfl ?_
  refine V_iload_n (k := 1) dJ0_checkIndex_df160_1 rfl rfl ?_
  refine V_getsF dJ0_checkIndex_df160_2 gw677 ?_ ?_
  · refine V_callSi (st0 := []) (kc' := 0) (ks' := 0) dJ0_checkIndex_df160_5 lk_J0_1059 rfl (cJ3_checkIndex_ok M i len hlen .null (Or.inl rfl) hI) rfl rfl (by decide) (by decide) (Nat.le_of_ble_eq_true rfl) (Or.inl rfl) rfl rfl (by decide) (by decide) (fun x M1 e hI1 => ?_)
    refine V_pop dJ0_checkIndex_df160_8 rfl ?_
    exact V_ret (fun _ => hI1) (Or.inl ⟨rfl, rfl⟩) dJ0_checkIndex_df160_9 (fun ty x h1 h2 => by cases h1) rfl
  · refine V_callSi (st0 := []) (kc' := 0) (ks' := 0) dJ0_checkIndex_df160_5 lk_J0_1059 rfl (cJ3_checkIndex_ok M i len hlen (.ref 5000) (Or.inr rfl) hI) rfl rfl (by decide) (by decide) (Nat.le_of_ble_eq_true rfl) (Or.inl rfl) rfl rfl (by decide) (by decide) (fun x M1 e hI1 => ?_)
    refine V_pop dJ0_checkIndex_df160_8 rfl ?_
    exact V_ret (fun _ => hI1) (Or.inl ⟨rfl, rfl⟩) dJ0_checkIndex_df160_9 (fun ty x h1 h2 => by cases h1) rfl
theorem v_lenlt {i : Nat} (hi : i < v_nS) : v_lenS.getD i 0 < 40 := by
  have h1 := List.all_eq_true.mp v_chl i (List.mem_range.mpr hi)
  simp only [Bool.and_eq_true, decide_eq_true_eq] at h1
  exact h1.2
theorem cJ1_charAt_ok (M : vM) (i : Nat) (hi : i < v_nS) (j : Int32) (hj : v_in j (v_lenS.getD i 0) = true) (hI : v_WT M.2.2) : Ct l D dA sJ1_charAt_3b067 false 175 3 0 0 175 [.ref (2000 + i), .int j] M (rI (v_ch i j.toNatClampNeg) M) := by
  have hc := v_chb hi (v_in_lt hj)
  refine Ct_of (lv := [(0, .ref (2000 + i)), (1, .int j)]) (by decide +kernel) rfl (Nat.le_of_ble_eq_true rfl) rfl (fun h => by cases h) ?_
  refine V_iload_n (k := 1) dJ1_charAt_3b067_0 rfl rfl ?_
  refine V_aload_n (k := 0) dJ1_charAt_3b067_1 rfl rfl ?_
  refine V_salen hi dJ1_charAt_3b067_2 ?_
  have e0 : (bv (bi (if v_in j (v_lenS.getD i 0) = true then rI j M else none) fun x M1 => rV M1) fun M1 => rI (v_ch i j.toNatClampNeg) M) = rI (v_ch i j.toNatClampNeg) M := by
    rw [if_pos hj]; rfl
  rw [← e0]
  refine V_callSv (st0 := []) (kc' := 0) (ks' := 0) dJ1_charAt_3b067_3 lk_J1_9 rfl (cJ0_checkIndex_ok M j (v_lenS.getD i 0) (by have := v_lenlt hi; omega) hI) rfl rfl (by decide) (by decide) (Nat.le_of_ble_eq_true rfl) (Or.inl rfl) rfl rfl (by decide) (by decide) (fun M1 e hI1 => ?_)
  rw [if_pos hj] at e
  cases e
  refine V_aload_n (k := 0) dJ1_charAt_3b067_6 rfl rfl ?_
  refine V_iload_n (k := 1) dJ1_charAt_3b067_7 rfl rfl ?_
  refine V_sbald hi dJ1_charAt_3b067_8 hj ?_
  refine V_sipush (v := 255) dJ1_charAt_3b067_9 rfl ?_
  refine V_iand dJ1_charAt_3b067_12 ?_
  refine V_i2c dJ1_charAt_3b067_13 ?_
  refine V_ret (fun _ => hI) (Or.inr (Or.inr (Or.inr (Or.inr (Or.inr (Or.inr ⟨rfl, _, rfl⟩)))))) dJ1_charAt_3b067_14 (fun ty x h1 h2 => by cases h1; cases h2; exact hc.2) ?_
  show [Value.int (v_ch i j.toNatClampNeg)] = [Value.int ((v_ch i j.toNatClampNeg &&& 255).toUInt32 % 65536).toInt32]
  rw [hc.1]
def fJ0_charAt_5068e (M : vM) (i : Nat) (j : Int32) : Option (vR × vM) := if v_in j (v_lenS.getD i 0) = true then rI (v_ch i j.toNatClampNeg) M else none
theorem cJ0_charAt_5068e_ok (M : vM) (i : Nat) (j : Int32) (hi : i < v_nS) (hI : v_WT M.2.2) : Ct l D dA sJ0_charAt_5068e false 175 4 0 0 175 [.ref (1000 + i), .int j] M (fJ0_charAt_5068e M i j) := by
  unfold fJ0_charAt_5068e
  by_cases hj : v_in j (v_lenS.getD i 0) = true
  · rw [if_pos hj]
    have hc := v_chb hi (v_in_lt hj)
    refine Ct_of (lv := [(0, .ref (1000 + i)), (1, .int j)]) (by decide +kernel) rfl (Nat.le_of_ble_eq_true rfl) rfl (fun h => by cases h) ?_
    refine V_aload_n (k := 0) dJ0_charAt_5068e_0 rfl rfl ?_
    show V l D dA sJ0_charAt_5068e false 175 4 0 0 _ _ _ 175 M (bi (rI 1 M) fun x M1 => if x = 0 then none else bi (rI (v_ch i j.toNatClampNeg) M1) fun x M1 => rI x M1)
    refine V_callVsi (st0 := []) (kc' := 0) (ks' := 0) dJ0_charAt_5068e_1 lk_J0_492 rfl hi rfl (cJ0_isLatin1_ok M i hi hI) rfl rfl (by decide) (by decide) (Nat.le_of_ble_eq_true rfl) (Or.inl rfl) rfl rfl (by decide) (by decide) (fun x M1 e hI1 => ?_)
    cases e
    refine V_ifeq (tgt := 16) dJ0_charAt_5068e_4 (by decide) (fun h => absurd h (by decide)) (fun h => ?_)
    refine V_aload_n (k := 0) dJ0_charAt_5068e_7 rfl rfl ?_
    refine V_sval hi dJ0_charAt_5068e_8 gw1787 ?_
    refine V_iload_n (k := 1) dJ0_charAt_5068e_11 rfl rfl ?_
    refine V_callSi (st0 := []) (kc' := 0) (ks' := 0) dJ0_charAt_5068e_12 lk_J0_495 rfl (cJ1_charAt_ok M i hi j hj hI) rfl rfl (by decide) (by decide) (Nat.le_of_ble_eq_true rfl) (Or.inl rfl) rfl rfl (by decide) (by decide) (fun x M1 e hI1 => ?_)
    cases e
    exact V_ret (fun _ => hI) (Or.inr (Or.inr (Or.inr (Or.inr (Or.inr (Or.inr ⟨rfl, _, rfl⟩)))))) dJ0_charAt_5068e_15 (fun ty x h1 h2 => by cases h1; cases h2; exact hc.2) rfl
  · rw [if_neg hj]
    intro r M' h
    cases h
end V16
