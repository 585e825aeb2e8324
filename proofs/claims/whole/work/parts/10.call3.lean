section V7
variable {l : Launch} {D : va_G} {dA : Nat → ClassId} {S : vS} {al : Bool} {nf d kc ks pc pc' : Nat} {lv lv' : List (Nat × Value)} {st st' : List Value} {n : Nat} {M : vM} {o : Option (vR × vM)}
/-- no reference in sight goes beyond the cells that there are -/
def v_cl (n : Nat) (v : Value) : Bool := match v with
  | .ref k => decide (k < n) || decide (1000 ≤ k)
  | _ => true
theorem v_cl_eq {ad ad' : Nat → Nat} {n : Nat} {v : Value} (h : v_cl n v = true) (h1 : ∀ i, i < n → ad' i = ad i) (h2 : ∀ i, 1000 ≤ i → ad' i = ad i) : vcv ad' v = vcv ad v := by
  cases v with
  | ref k =>
    simp only [v_cl, Bool.or_eq_true, decide_eq_true_eq] at h
    simp only [vcv]
    rcases h with h | h
    · rw [h1 k h]
    · rw [h2 k h]
  | _ => rfl
theorem v_cl_st {ad ad' : Nat → Nat} {n : Nat} {st : List Value} (h : st.all (v_cl n) = true) (h1 : ∀ i, i < n → ad' i = ad i) (h2 : ∀ i, 1000 ≤ i → ad' i = ad i) : st.map (vcv ad') = st.map (vcv ad) :=
  List.map_congr_left (fun v hv => v_cl_eq (List.all_eq_true.mp h v hv) h1 h2)
theorem v_cl_lv {ad ad' : Nat → Nat} {n : Nat} {lv : List (Nat × Value)} (h : lv.all (fun q => v_cl n q.2) = true) (h1 : ∀ i, i < n → ad' i = ad i) (h2 : ∀ i, 1000 ≤ i → ad' i = ad i) : lv.map (vcl ad') = lv.map (vcl ad) :=
  List.map_congr_left (fun v hv => by
    unfold vcl
    rw [v_cl_eq (List.all_eq_true.mp h v hv) h1 h2])
/-- behind a call, of a method without handlers: what the callee throws goes on -/
theorem V_callG {al' : Bool} {nf' mc' ms' kc' ks' : Nat} {stk st0 : List Value} {f : Option (vR × vM)} {K : Option Value → vM → Option (vR × vM)}
    (hrun : ∀ {r1 : vR} {M1 : vM} {p : Program} {e : Env} {R : Room} {s : State} {m : MethodId} {args : Array Value} {below : List Frame} {meth : Method} {cd : Code} {H : Heap} {locs : List Loc} {cells slots : Nat} {A : Nat → Prop} {ls : Array Slot} {ad : Nat → Nat},
      vCx S d R p s m args meth cd → v_Wd D dA ad n M A s H locs → lv_has ls S.2.2.1 (lv.map (vcl ad)) → f = some (r1, M1) → cells + mc' ≤ R.cells → slots + ms' ≤ R.slots → ∃ aa : Array Value, vx_Run p l e R s m args below meth cd H locs cells slots mc' ms' (F0 m pc ls (stk.map (vcv ad))) (st0.map (vcv ad)) (v_Qc D dA al' nf' ad n H.size r1 M1 aa) (v_XC D dA al' nf' ad n H.size r1 M1) (v_FA ad n H.size))
    (hh : S.2.2.2.2 = [] ∨ ∀ k M1, f ≠ some (.inl k, M1)) (hal : (al' = false ∧ nf' = n) ∨ (al' = true ∧ al = true ∧ n ≤ nf' ∧ (∀ k M1, f ≠ some (.inl k, M1)) ∧ (∀ v M1, f = some (.inr v, M1) → v_Zr n M → v_Zr nf' M1) ∧ st0.all (v_cl n) = true ∧ lv.all (fun q => v_cl n q.2) = true)) (hnn : al = false → nf' = nf) (hkc : mc' + kc' ≤ kc) (hks : ms' + ks' ≤ ks) (hnx : (∃ k M1, f = some (.inl k, M1)) → nf = n)
    (hZ : al' = false → al = true → ∀ v M1, f = some (.inr v, M1) → v_Zr n M → v_Zr n M1)
    (hIc : ∀ r1 M1, f = some (r1, M1) → vI al M1)
    (kk : ∀ v M1, f = some (.inr v, M1) → vI al M1 → V l D dA S al nf d kc' ks' (pc + 3) lv (v.toList ++ st0) nf' M1 (K v M1)) : V l D dA S al nf d kc ks pc lv stk n M (vG f K) := by
  intro r M' ho
  cases hf : f with
  | none => rw [hf] at ho; cases ho
  | some q =>
    obtain ⟨r1, M1⟩ := q
    have hI1 := hIc r1 M1 hf
    have hfin : vI al M' ∧ vOk S r := by
      rw [hf] at ho
      cases r1 with
      | inl k => cases ho; exact ⟨hI1, fun v9 h9 => (by cases h9)⟩
      | inr v => exact (kk v M1 hf hI1 r M' ho).1
    refine ⟨hfin, ?_⟩
    intro ad p e R s m args below meth cd H locs cells slots Q A ls C Wd Zr h3 h4 hl Rt
    obtain ⟨aa, hr⟩ := hrun (p := p) (e := e) (R := R) (s := s) (below := below) (cells := cells) (slots := slots) C Wd hl hf (by omega) (by omega)
    intro T hT X
    obtain ⟨hP, hK, hD, hS, hA, hG⟩ := id Wd
    rcases hr T hT X with ⟨v, st₀, t, T', L, h0, X', hL, e1, e2, ⟨ad', hex, ⟨v', hr', hv'⟩, hB, hF⟩, hst⟩ | ⟨q9, st₀, t, T', L, E, ce, h0, X', hL, e1, e2, ⟨ad', hex, ⟨k, hr', hE⟩, hB, hF⟩, hce, hcv, hcl, hst⟩
    · subst hr'
      cases hv'
      obtain ⟨k1, k2, k3⟩ := vx_keep (H := H) h0 e1 hS (fun q _ h => v_FA_A Wd q h) (v_FA_A Wd) hL hF
      rw [hf] at ho
      have hk := (kk v' M1 hf hI1 r M' ho).2 ad' p e R s m args below meth cd T'.heap (locs ++ L) (cells + mc') (slots + ms') Q A ls C
      have hWd : v_Wd D dA ad' nf' M1 A s T'.heap (locs ++ L) := ⟨by rw [e1]; exact hB.1, hK, hB.2.weaken (fun _ q _ h => v_FA_A Wd q.1 h), k3, hA, hG.ad hex.2.1⟩
      have hsx : lv.map (vcl ad') = lv.map (vcl ad) ∧ st0.map (vcv ad') = st0.map (vcv ad) := by
        rcases hal with ⟨a1, a2⟩ | ⟨a1, a2, a3, a4, a5, a6, a7⟩
        · have := hex.2.2 a1
          subst this
          exact ⟨rfl, rfl⟩
        · exact ⟨v_cl_lv a7 hex.1 hex.2.1, v_cl_st a6 hex.1 hex.2.1⟩
      have hZr : al = true → v_Zr nf' M1 := by
        intro ha
        rcases hal with ⟨a1, a2⟩ | ⟨a1, a2, a3, a4, a5, a6, a7⟩
        · rw [a2]
          exact hZ a1 ha v' M1 hf (Zr ha)
        · exact a5 v' M1 hf (Zr ha)
      have hRt : vRt D dA S al nf ad' nf' r M' p l e R s m args below meth cd A Q := by
        intro ad2 hex2
        refine Rt ad2 ⟨fun i hi => ?_, fun i hi => (hex2.2.1 i hi).trans (hex.2.1 i hi), fun ha => ?_⟩
        · have hnle : n ≤ nf' := by
            rcases hal with ⟨a1, a2⟩ | ⟨a1, a2, a3, a4, a5, a6, a7⟩
            · omega
            · exact a3
          exact (hex2.1 i (Nat.lt_of_lt_of_le hi hnle)).trans (hex.1 i hi)
        · rcases hal with ⟨a1, a2⟩ | ⟨a1, a2, -⟩
          · rw [hex2.2.2 ha, hex.2.2 a1]
          · rw [ha] at a2; cases a2
      have hgo := hk hWd hZr (by omega) (by omega) (by rw [hsx.1]; exact hl) hRt
      have e3 : ((v'.toList ++ st0).map (vcv ad')) = (v'.map (vcv ad')).toList ++ st0.map (vcv ad) := by
        rw [List.map_append, hsx.2]
        cases v' <;> rfl
      rw [e3] at hgo
      obtain ⟨t2, a1, b1⟩ := hgo T' rfl X'
      exact ⟨t2, hst t2 a1, b1⟩
    · subst hr'
      obtain ⟨k1, k2, k3⟩ := vx_keep (H := H) h0 e1 hS (fun q _ h => v_FA_A Wd q h) (v_FA_A Wd) hL hF
      rw [hf] at ho
      cases ho
      have hnf := hnx ⟨k, _, hf⟩
      have hh2 : S.2.2.2.2 = [] := by
        rcases hh with h | h
        · exact h
        · exact absurd hf (h k _)
      rcases hal with ⟨a1, a2⟩ | ⟨a1, a2, a3, a4, a5, a6, a7⟩
      · have hadd := hex.2.2 a1
        subst hadd
        subst a2
        subst hnf
        obtain ⟨Qc, XC, mc, ms, free, rfl, c1, c2, c3, c4⟩ := (Rt ad' v_exS).2 k rfl
        obtain ⟨hx, hb, hml, hret, hown, hts, hlocks, htab, hnm, hfr, hlo⟩ := id C
        have hout : ∀ x ∈ cd.exceptionTable.toList, covers x pc = false := by
          rw [htab, hh2]
          intro x hx9
          cases hx9
        have hw : vx_W p l e R s m args below meth cd T'.heap (locs ++ L) (cells + mc') (slots + ms') (vx_MQ below Qc XC args s mc ms free) (F0 m pc ls (st0.map (vcv ad'))) q9 := by
          refine vx_out (ce := ce) hout hlocks (by rw [e1]; exact hce) hcv hcl ?_ (fun z hz => c3 _ (k3.2.2 z hz)) (by omega) (by omega)
          intro t9 ht9 hal9
          rw [hE]
          refine c4 t9 hal9 ⟨?_, hB.2.weaken (fun _ q _ h => v_FA_A Wd q.1 h)⟩ ⟨by rw [ht9]; exact k3.1, fun q h1 h2 => by rw [ht9]; exact k3.2.1 q h1 h2⟩
          rw [ht9, e1]
          exact hB.1
        obtain ⟨t2, b1, b2⟩ := hw T' rfl X'
        exact ⟨t2, hst.trans b1, b2⟩
      · exact absurd hf (a4 k _)
end V7
