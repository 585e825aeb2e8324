section V8
variable {l : Launch} {D : va_G} {dA : Nat → ClassId} {S : vS} {al : Bool} {nf d kc ks pc pc' : Nat} {lv lv' : List (Nat × Value)} {st st' : List Value} {n : Nat} {M : vM} {o : Option (vR × vM)}
theorem v_rt_met {r : vR} {M' : vM} {p : Program} {e : Env} {s : State} {m : MethodId} {args : Array Value} {below : List Frame} {meth : Method} {cd : Code} {ad : Nat → Nat} {d mc ms : Nat} {R : Room} (C : vCx S d R p s m args meth cd) (hRc : R.cells = mc) (hRs : R.slots = ms)
    (hret : ∀ v, r = .inr v → (S.2.2.2.1 = none ∧ v = none) ∨ (S.2.2.2.1 = some .int ∧ ∃ x, v = some (.int x)) ∨ (S.2.2.2.1 = some .boolean ∧ ∃ x, v = some (.int x)) ∨ (S.2.2.2.1 = some .long ∧ ∃ x, v = some (.long x)) ∨ (∃ q, S.2.2.2.1 = some (.object q) ∧ ∃ x, v = some (.ref x)) ∨ (S.2.2.2.1 = some .byte ∧ ∃ x, v = some (.int x)) ∨ (S.2.2.2.1 = some .char ∧ ∃ x, v = some (.int x))) :
    vRt D dA S al nf ad n r M' p l e R s m args below meth cd (v_FA ad n s.heap.size) (vx_MQ below (v_Qc D dA al nf ad n s.heap.size r M') (v_XC D dA al nf ad n s.heap.size r M') args s mc ms (v_FA ad n s.heap.size)) := by
  subst hRc
  subst hRs
  intro ad' hex
  obtain ⟨hx, hb, hml, hrt, hown, hts, hlocks, htab, hnm, hfr, hlo⟩ := id C
  refine ⟨fun v hv H locs pc ls Wd hd hnar => ?_, fun k hk => ⟨_, _, R.cells, R.slots, _, rfl, Nat.le_refl _, Nat.le_refl _, fun _ h => h, fun t ht hB hF => ⟨ad', hex, ⟨k, hk, rfl⟩, hB, hF⟩⟩⟩
  obtain ⟨hP, hK, hD, hS, hA, hG⟩ := id Wd
  have hq : ∀ (t : State), t.heap = H → s.WarmedH t.vm → v_Qc D dA al nf ad n s.heap.size r M' args s (.returned (v.map (vcv ad'))) t := fun t ht _ => ⟨ad', hex, ⟨v, hv, rfl⟩, ⟨by rw [ht]; exact hP, hD⟩, hS.F ht⟩
  refine vx_ret ?_
  rcases hret v hv with ⟨h1, rfl⟩ | ⟨h1, x, rfl⟩ | ⟨h1, x, rfl⟩ | ⟨h1, x, rfl⟩ | ⟨q, h1, x, rfl⟩ | ⟨h1, x, rfl⟩ | ⟨h1, x, rfl⟩
  · rw [h1] at hd hrt
    exact W.vret hx hb hrt hq hS.2.2 hd
  · rw [h1] at hd hrt
    exact W.iret hx hb hrt hq hS.2.2 hd
  · rw [h1] at hd hrt
    exact W.zret hx hb hrt (hnar _ _ h1 rfl) hq hS.2.2 hd
  · rw [h1] at hd hrt
    exact W.lret hx hb hrt hq hS.2.2 hd
  · rw [h1] at hd hrt
    exact W.aret hx hb hrt (Or.inl ⟨_, rfl⟩) (Or.inr ⟨_, rfl⟩) hq hS.2.2 hd
  · rw [h1] at hd hrt
    exact W.zret hx hb hrt (hnar _ _ h1 rfl) hq hS.2.2 hd
  · rw [h1] at hd hrt
    exact W.zret hx hb hrt (hnar _ _ h1 rfl) hq hS.2.2 hd
/-- the locals at the entry -/
theorem v_entry {ad : Nat → Nat} {av : List Value} {nL : Nat} (hlen : (lg_sl (av.map (vcv ad))).length ≤ nL) (h : lv_args 0 av = lv) (hm : lv_args 0 (av.map (vcv ad)) = (lv_args 0 av).map (vcl ad)) : lv_has (lg_sl (av.map (vcv ad)) ++ List.replicate (nL - (lg_sl (av.map (vcv ad))).length) Slot.unset).toArray nL (lv.map (vcl ad)) := by
  have h1 := lv_entry (av.map (vcv ad)) (n := nL) hlen
  rw [hm, h] at h1
  exact h1
end V8
