section V16
variable {l : Launch} {D : va_G} {dA : Nat → ClassId} {S : vS} {al : Bool} {nf d kc ks pc pc' : Nat} {lv lv' : List (Nat × Value)} {st st' : List Value} {n : Nat} {M : vM} {o : Option (vR × vM)}
theorem V_ldcwS {idx sid : Nat} {tx : String} (hd : decode S.2.1 pc = .ok (.ldc_w idx, 3)) (h1 : (S.1.cls, (idx, (tx, sid))) ∈ v_STR) (kk : V l D dA S al nf d kc ks (pc + 3) lv (.ref (1000 + sid) :: st) n M o) : V l D dA S al nf d kc ks pc lv st n M o := by
  refine V_step2 (fun {p e R s m args below meth c H locs cells slots Q A ls ad} C Wd _ _ _ w => ?_) kk
  intro T hT X
  obtain ⟨t, a1, b1⟩ := w T hT X
  have hZ := Wd.2.2.2.2.2.2.1 _ h1
  exact ⟨t, X.ldcStringW C.1 C.2.2.2.2.1 (text := tx) hZ.1 hZ.2 (g := F0 m pc ls (st.map (vcv ad))) rfl (by rw [C.2.1]; exact hd) t a1, b1⟩
end V16
