section V10
variable {l : Launch} {D : va_G} {dA : Nat → ClassId} {S : vS} {al : Bool} {nf d kc ks pc pc' : Nat} {lv lv' : List (Nat × Value)} {st st' : List Value} {n : Nat} {M : vM} {o : Option (vR × vM)}
theorem V_step2 (h : ∀ {p : Program} {e : Env} {R : Room} {s : State} {m : MethodId} {args : Array Value} {below : List Frame} {meth : Method} {c : Code} {H : Heap} {locs : List Loc} {cells slots : Nat} {Q : State → Prop} {A : Nat → Prop} {ls : Array Slot} {ad : Nat → Nat},
      vCx S d R p s m args meth c → v_Wd D dA ad n M A s H locs → lv_has ls S.2.2.1 (lv.map (vcl ad)) → cells ≤ R.cells → slots ≤ R.slots → W p l e R s m args below meth c H locs cells slots Q (F0 m pc' ls (st'.map (vcv ad))) → W p l e R s m args below meth c H locs cells slots Q (F0 m pc ls (st.map (vcv ad))))
    (k : V l D dA S al nf d kc ks pc' lv st' n M o) : V l D dA S al nf d kc ks pc lv st n M o := by
  intro r M' ho
  refine ⟨(k r M' ho).1, ?_⟩
  intro ad p e R s m args below meth c H locs cells slots Q A ls C Wd Zr h3 h4 hl Rt
  exact h C Wd hl (by omega) (by omega) ((k r M' ho).2 ad p e R s m args below meth c H locs cells slots Q A ls C Wd Zr h3 h4 hl Rt)
theorem V_mmax {idx : Nat} {x y : Int32} (hd : decode S.2.1 pc = .ok (.invokestatic idx, 3)) (h1 : Cond.methodLink S.1.cls idx Lib.Math.max.name ∈ v_G) (h2 : Cond.static Lib.Math.max.name ∈ v_G) (h3 : Cond.initialized "java/lang/Math" ∈ v_G) (h4 : Cond.code Lib.Math.max.name Lib.Math.max.code 2 (some .int) ∈ v_G) (hdd : 1 ≤ d) (hcat : (st.map fun v => v.category).sum ≤ 8)
    (kk : V l D dA S al nf d kc ks (pc + 3) lv (.int (if x < y then y else x) :: st) n M o) : V l D dA S al nf d kc ks pc lv (.int y :: .int x :: st) n M o := by
  refine V_step2 (fun {p e R s m args below meth c H locs cells slots Q A ls ad} C Wd hl hc hs w => ?_) kk
  obtain ⟨hx, hb, hml, hret, hown, hts, hlocks, htab, hnm, hfr, hlo⟩ := id C
  have hcat9 := v_catsum (ad := ad) hcat
  exact va_mmax hx hb (hml.trans hl.1.symm) hown (hts _ h1) (hts _ h2) (hts _ h3) (hts _ h4) (by omega) (by omega) hc hs hd w
theorem V_mmin {idx : Nat} {x y : Int32} (hd : decode S.2.1 pc = .ok (.invokestatic idx, 3)) (h1 : Cond.methodLink S.1.cls idx Lib.Math.min.name ∈ v_G) (h2 : Cond.static Lib.Math.min.name ∈ v_G) (h3 : Cond.initialized "java/lang/Math" ∈ v_G) (h4 : Cond.code Lib.Math.min.name Lib.Math.min.code 2 (some .int) ∈ v_G) (hdd : 1 ≤ d) (hcat : (st.map fun v => v.category).sum ≤ 8)
    (kk : V l D dA S al nf d kc ks (pc + 3) lv (.int (if y < x then y else x) :: st) n M o) : V l D dA S al nf d kc ks pc lv (.int y :: .int x :: st) n M o := by
  refine V_step2 (fun {p e R s m args below meth c H locs cells slots Q A ls ad} C Wd hl hc hs w => ?_) kk
  obtain ⟨hx, hb, hml, hret, hown, hts, hlocks, htab, hnm, hfr, hlo⟩ := id C
  have hcat9 := v_catsum (ad := ad) hcat
  exact va_mmin hx hb (hml.trans hl.1.symm) hown (hts _ h1) (hts _ h2) (hts _ h3) (hts _ h4) (by omega) (by omega) hc hs hd w
theorem V_ldc {idx : Nat} {v : Int32} (hd : decode S.2.1 pc = .ok (.ldc idx, 2)) (h1 : Cond.constant S.1.cls idx v ∈ v_G) (kk : V l D dA S al nf d kc ks (pc + 2) lv (.int v :: st) n M o) : V l D dA S al nf d kc ks pc lv st n M o :=
  V_step2 (fun C _ _ _ _ w => lv_ldc C.1 C.2.1 C.2.2.2.2.1 (C.2.2.2.2.2.1 _ h1) hd w) kk
theorem V_ldcw {idx : Nat} {v : Int32} (hd : decode S.2.1 pc = .ok (.ldc_w idx, 3)) (h1 : Cond.constant S.1.cls idx v ∈ v_G) (kk : V l D dA S al nf d kc ks (pc + 3) lv (.int v :: st) n M o) : V l D dA S al nf d kc ks pc lv st n M o :=
  V_step2 (fun C _ _ _ _ w => lv_ldcw C.1 C.2.1 C.2.2.2.2.1 (C.2.2.2.2.2.1 _ h1) hd w) kk
theorem V_ldc2 {idx : Nat} {v : Int64} (hd : decode S.2.1 pc = .ok (.ldc2_w idx, 3)) (h1 : Cond.constantLong S.1.cls idx v ∈ v_G) (kk : V l D dA S al nf d kc ks (pc + 3) lv (.long v :: st) n M o) : V l D dA S al nf d kc ks pc lv st n M o :=
  V_step2 (fun C _ _ _ _ w => lv_ldc2 C.1 C.2.1 C.2.2.2.2.1 (C.2.2.2.2.2.1 _ h1) hd w) kk
theorem V_ldcS {idx sid : Nat} {tx : String} (hd : decode S.2.1 pc = .ok (.ldc idx, 2)) (h1 : (S.1.cls, (idx, (tx, sid))) ∈ v_STR) (kk : V l D dA S al nf d kc ks (pc + 2) lv (.ref (1000 + sid) :: st) n M o) : V l D dA S al nf d kc ks pc lv st n M o :=
  V_step2 (fun C Wd _ _ _ w => va_ldcS C.1 C.2.1 C.2.2.2.2.1 (Wd.2.2.2.2.2.2.1 _ h1) hd w) kk
theorem V_idiv {a b : Int32} (hd : decode S.2.1 pc = .ok (.idiv, 1)) (hne : ¬ b = 0) (kk : V l D dA S al nf d kc ks (pc + 1) lv (.int (a / b) :: st) n M o) : V l D dA S al nf d kc ks pc lv (.int b :: .int a :: st) n M o :=
  V_step (fun hx hb _ w => lv_idiv hx hb hd hne w) kk
theorem V_irem {a b : Int32} (hd : decode S.2.1 pc = .ok (.irem, 1)) (hne : ¬ b = 0) (kk : V l D dA S al nf d kc ks (pc + 1) lv (.int (a - a / b * b) :: st) n M o) : V l D dA S al nf d kc ks pc lv (.int b :: .int a :: st) n M o :=
  V_step (fun hx hb _ w => lv_irem hx hb hd hne w) kk
/-- a remainder by a number that isn't known: none by 0 -/
theorem V_iremg {a b : Int32} (hd : decode S.2.1 pc = .ok (.irem, 1)) (kk : ¬ b = 0 → V l D dA S al nf d kc ks (pc + 1) lv (.int (a - a / b * b) :: st) n M o) : V l D dA S al nf d kc ks pc lv (.int b :: .int a :: st) n M (if b = 0 then none else o) := by
  by_cases h : b = 0
  · rw [if_pos h]
    exact V_none
  · rw [if_neg h]
    exact V_irem hd h (kk h)
theorem V_ldiv {a b : Int64} (hd : decode S.2.1 pc = .ok (.ldiv, 1)) (hne : ¬ b = 0) (kk : V l D dA S al nf d kc ks (pc + 1) lv (.long (a / b) :: st) n M o) : V l D dA S al nf d kc ks pc lv (.long b :: .long a :: st) n M o :=
  V_step (fun hx hb _ w => lv_ldiv hx hb hd hne w) kk
/-- String.value, String.coder, the row of bytes, COMPACT_STRINGS -/
theorem V_sval {i idx : Nat} (hi : i < v_nS) (hd : decode S.2.1 pc = .ok (.getfield idx, 3)) (h1 : Cond.fieldLink S.1.cls idx "java/lang/String" "value" "[B" ∈ v_G) (kk : V l D dA S al nf d kc ks (pc + 3) lv (.ref (2000 + i) :: st) n M o) : V l D dA S al nf d kc ks pc lv (.ref (1000 + i) :: st) n M o :=
  V_step2 (fun C Wd _ _ _ w => vk_getf C.1 C.2.1 ((Wd.2.2.2.2.2.2.2.1).1 i hi).2.2.1 Wd.2.2.2.1 C.2.2.2.2.1 (C.2.2.2.2.2.1 _ h1) (fun _ h => h) hd w) kk
theorem V_scod {i idx : Nat} (hi : i < v_nS) (hd : decode S.2.1 pc = .ok (.getfield idx, 3)) (h1 : Cond.fieldLink S.1.cls idx "java/lang/String" "coder" "B" ∈ v_G) (kk : V l D dA S al nf d kc ks (pc + 3) lv (.int 0 :: st) n M o) : V l D dA S al nf d kc ks pc lv (.ref (1000 + i) :: st) n M o :=
  V_step2 (fun C Wd _ _ _ w => vk_getf C.1 C.2.1 ((Wd.2.2.2.2.2.2.2.1).1 i hi).2.1 Wd.2.2.2.1 C.2.2.2.2.1 (C.2.2.2.2.2.1 _ h1) (fun _ h => h) hd w) kk
theorem V_salen {i : Nat} (hi : i < v_nS) (hd : decode S.2.1 pc = .ok (.arraylength, 1)) (kk : V l D dA S al nf d kc ks (pc + 1) lv (.int (nI (v_lenS.getD i 0)) :: st) n M o) : V l D dA S al nf d kc ks pc lv (.ref (2000 + i) :: st) n M o :=
  V_step2 (fun C Wd _ _ _ w => va_tlen C.1 C.2.1 ((Wd.2.2.2.2.2.2.2.1).1 i hi).2.2.2 Wd.2.2.2.1 rfl hd w) kk
theorem V_sbald {i : Nat} {j : Int32} (hi : i < v_nS) (hd : decode S.2.1 pc = .ok (.baload, 1)) (hin : v_in j (v_lenS.getD i 0) = true) (kk : V l D dA S al nf d kc ks (pc + 1) lv (.int ((v_bytS.getD i []).getD j.toNatClampNeg 0) :: st) n M o) : V l D dA S al nf d kc ks pc lv (.int j :: .ref (2000 + i) :: st) n M o :=
  V_step2 (fun C Wd _ _ _ w => va_tb C.1 C.2.1 ((Wd.2.2.2.2.2.2.2.1).1 i hi).2.2.2 Wd.2.2.2.1 (v_in_vp hin) rfl hd w) kk
theorem V_gets {idx : Nat} (hd : decode S.2.1 pc = .ok (.getstatic idx, 3)) (h1 : Cond.fieldLink S.1.cls idx "java/lang/String" "COMPACT_STRINGS" "Z" ∈ v_G) (kk : V l D dA S al nf d kc ks (pc + 3) lv (.int 1 :: st) n M o) : V l D dA S al nf d kc ks pc lv st n M o :=
  V_step2 (fun C Wd _ _ _ w => va_gets C.1 C.2.1 Wd.2.2.2.2.2.2.2.2.2.2.1 Wd.2.2.2.1 C.2.2.2.2.1 (C.2.2.2.2.2.1 _ h1) (fun _ h => h) hd w) kk
/-- the formatter of index errors: null or something -/
theorem V_getsF {idx : Nat} (hd : decode S.2.1 pc = .ok (.getstatic idx, 3)) (h1 : Cond.fieldLink S.1.cls idx "jdk/internal/util/Preconditions" "SIOOBE_FORMATTER" "Ljava/util/function/BiFunction;" ∈ v_G) (k0 : V l D dA S al nf d kc ks (pc + 3) lv (.null :: st) n M o) (k1 : V l D dA S al nf d kc ks (pc + 3) lv (.ref 5000 :: st) n M o) : V l D dA S al nf d kc ks pc lv st n M o := by
  intro r M' ho
  refine ⟨(k0 r M' ho).1, ?_⟩
  intro ad p e R s m args below meth c H locs cells slots Q A ls C Wd Zr h3 h4 hl Rt
  rcases Wd.2.2.2.2.2.2.2.2.2.2.2.1 with h | h
  · exact va_gets C.1 C.2.1 h Wd.2.2.2.1 C.2.2.2.2.1 (C.2.2.2.2.2.1 _ h1) (fun _ h => h) hd ((k0 r M' ho).2 ad p e R s m args below meth c H locs cells slots Q A ls C Wd Zr h3 h4 hl Rt)
  · exact va_gets C.1 C.2.1 h Wd.2.2.2.1 C.2.2.2.2.1 (C.2.2.2.2.2.1 _ h1) (fun _ h => h) hd ((k1 r M' ho).2 ad p e R s m args below meth c H locs cells slots Q A ls C Wd Zr h3 h4 hl Rt)
/-- from here on no cell is made -/
theorem V_fin (hI : ∀ r M', o = some (r, M') → True) (kk : V l D dA S false n d kc ks pc lv st n M o) : V l D dA S true n d kc ks pc lv st n M o := by
  intro r M' ho
  refine ⟨⟨fun h => (by cases h), (kk r M' ho).1.2⟩, ?_⟩
  intro ad p e R s m args below meth c H locs cells slots Q A ls C Wd Zr h3 h4 hl Rt
  refine (kk r M' ho).2 ad p e R s m args below meth c H locs cells slots Q A ls C Wd (fun h => (by cases h)) h3 h4 hl ?_
  intro ad' hex
  exact Rt ad' ⟨hex.1, hex.2.1, fun h => (by cases h)⟩
/-- a row of ints copied, from their beginnings -/
def v_cpM (M : vM) (c0 c1 k : Nat) : vM := (fun c' j' => if c' = c1 ∧ j' < k then M.1 c0 j' else M.1 c' j', M.2)
theorem V_copy {idx c0 c1 n0 n1 : Nat} {k : Int32} {kN : Nat} (hd : decode S.2.1 pc = .ok (.invokestatic idx, 3)) (h1 : Cond.methodLink S.1.cls idx arraycopyName ∈ v_G) (h2 : Cond.native arraycopyName ∈ v_G) (h3 : Cond.static arraycopyName ∈ v_G) (h4 : Cond.initialized "java/lang/System" ∈ v_G) (hL0 : v_LAY c0 = (1, 0, n0)) (hL1 : v_LAY c1 = (1, 0, n1)) (hc0 : c0 < n) (hc1 : c1 < n) (hk : k = nI kN) (hkn : kN < 2 ^ 31) (hk0 : kN ≤ n0) (hk1 : kN ≤ n1) (hdd : 2 ≤ d) (hcat : (st.map fun v => v.category).sum ≤ 8)
    (kk : V l D dA S al nf d kc ks (pc + 3) lv st n (v_cpM M c0 c1 kN) o) : V l D dA S al nf d kc ks pc lv (.int k :: .int 0 :: .ref c1 :: .int 0 :: .ref c0 :: st) n M o := by
  subst hk
  intro r M' ho
  refine ⟨(kk r M' ho).1, ?_⟩
  intro ad p e R s m args below meth cd H locs cells slots Q A ls C Wd Zr h5 h6 hl Rt
  obtain ⟨hx, hb, hml, hret, hown, hts, hlocks, htab, hnm, hfr, hlo⟩ := id C
  have hcat9 := v_catsum (ad := ad) hcat
  have he0 := v_wl_get (dA := dA) (ad := ad) (M := M) hc0
  rw [v_arr hL0, v_ari (by decide) (by decide)] at he0
  have he1 := v_wl_get (dA := dA) (ad := ad) (M := M) hc1
  rw [v_arr hL1, v_ari (by decide) (by decide)] at he1
  have e0 : (0 : Int32).toNatClampNeg = 0 := rfl
  refine va_copyi hx hb (hml.trans hl.1.symm) hown (hts _ h1) (hts _ h2) (hts _ h3) (hts _ h4) Wd.2.1 Wd.1 Wd.2.2.1 Wd.2.2.2.1 c0 c1 0 0 (ty := .int) he0 he1 (v_tys_get (by decide)) (v_tys_get (by decide)) rfl (by decide) (by decide) (nI_pos hkn) ?_ ?_ (fun i hi => rfl) (by omega) ?_ hd ?_
  · rw [nI_clamp hkn, e0]; omega
  · rw [nI_clamp hkn, e0]; omega
  · have : nativeFrameWords "java/lang/System" "arraycopy" 5 ≤ 100 := by decide +kernel
    omega
  · intro H1 locs1 p1 d1 s1
    have e1 : va_cpy (M.1 c0) (M.1 c1) (0 : Int32).toNatClampNeg (0 : Int32).toNatClampNeg (nI kN).toNatClampNeg = (v_cpM M c0 c1 kN).1 c1 := by
      funext q
      rw [nI_clamp hkn, e0]
      simp [va_cpy, v_cpM]
    rw [e1, v_wl_set (M := M) (M' := v_cpM M c0 c1 kN) (by rw [v_arr hL1, v_ari (by decide) (by decide)]) (fun i hi => v_ce_congr (by funext q; simp [v_cpM, hi]) rfl rfl)] at p1 d1
    refine (kk r M' ho).2 ad p e R s m args below meth cd H1 locs1 cells slots Q A ls C ⟨p1, Wd.2.1, d1, s1, Wd.2.2.2.2.1, Wd.2.2.2.2.2⟩ (fun h => ?_) h5 h6 hl Rt
    refine ⟨fun c' j' h9 => ?_, (Zr h).2⟩
    have hz := (Zr h).1 c' j' h9
    refine ⟨?_, hz.2⟩
    show (if c' = c1 ∧ j' < kN then M.1 c0 j' else M.1 c' j') = 0
    rw [if_neg (by omega)]
    exact hz.1
end V10
