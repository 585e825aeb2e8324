section P60
variable {N S N1 S1 N' S' : vM} {L t e q w : Nat} {b : Nat → Nat}
def sp (N : vM) (a : Nat) : Nat := N.2.2 4 a - 1
def spK (N : vM) : Prop := (∀ a, a < 6 → v_isP (sp N a)) ∧ ∀ a c, a < 6 → c < 6 → a ≠ c → sp N a + 5 < sp N c ∨ sp N c + 5 < sp N a
def frS (N N' : vM) : Prop := N'.2 = N.2 ∧ ∀ c, c ≠ 3 → (∀ a, a < 6 → c < sp N a ∨ sp N a + 5 < c) → N'.1 c = N.1 c
def frT (S S' : vM) : Prop := S'.2 = S.2 ∧ (∀ c j, c ≠ 130 → (∀ a, a < 6 → ¬ rwQ (6 + a) c j) → S'.1 c j = S.1 c j) ∧ ∀ j, j ≠ 3 → (j < 32 ∨ 39 < j) → S'.1 130 j = S.1 130 j
def endR (N S N' S' : vM) : Prop := frS N N' ∧ frT S S' ∧ ((∃ w', w' ≤ 6 ∧ N'.1 3 7 = 0 ∧ S'.1 130 38 = 0 ∧ N'.1 3 8 = nI w' ∧ S'.1 130 3 = nI w' ∧ ∀ a, a < w' → plE N' S' (sp N a) (6 + a)) ∨ bd N' S')
theorem sp_e (h : N1.2 = N.2) (a : Nat) : sp N1 a = sp N a := by unfold sp; rw [h]
theorem spK_e (h : N1.2 = N.2) (k : spK N) : spK N1 := by
  refine ⟨fun a ha => by rw [sp_e h]; exact k.1 a ha, fun a c ha hc hac => ?_⟩
  rw [sp_e h, sp_e h]
  exact k.2 a c ha hc hac
theorem frS_t (h1 : frS N N1) (h2 : frS N1 N') : frS N N' := ⟨h2.1.trans h1.1, fun c i1 i2 => (h2.2 c i1 (fun a ha => by rw [sp_e h1.1]; exact i2 a ha)).trans (h1.2 c i1 i2)⟩
theorem frT_t (h1 : frT S S1) (h2 : frT S1 S') : frT S S' := ⟨h2.1.trans h1.1, fun c j i1 i2 => (h2.2.1 c j i1 i2).trans (h1.2.1 c j i1 i2), fun j i1 i2 => (h2.2.2 j i1 i2).trans (h1.2.2 j i1 i2)⟩
theorem frS_P {a p : Nat} (ha : a < 6) (hp : sp N a = p) (h : frP p N N1) : frS N N1 := ⟨h.1, fun c i1 i2 => h.2.1 c i1 (by rw [← hp]; exact i2 a ha)⟩
theorem frS_H {a p : Nat} (ha : a < 6) (hp : sp N a = p) (h1 : N1.2 = N.2) (h : ∀ c, c ≠ 3 → (c < p ∨ p + 5 < c) → N1.1 c = N.1 c) : frS N N1 := ⟨h1, fun c i1 i2 => h c i1 (by rw [← hp]; exact i2 a ha)⟩
theorem frT_Q {a r : Nat} (ha : a < 6) (hr : r = 6 + a) (h : frQ r S S1) : frT S S1 := ⟨h.1, fun c j i1 i2 => h.2.1 c j i1 (by rw [hr]; exact i2 a ha), fun j _ i2 => h.2.2 j i2⟩
theorem frT_B (h : frB S S1) : frT S S1 := ⟨h.1, fun c j i1 _ => by rw [h.2.1 c i1], fun j _ i2 => h.2.2 j i2⟩
theorem frT_3 {x : Int32} : frT S (v_si S 130 3 x) := ⟨rfl, fun c j i1 _ => by rw [si_c i1], fun j i1 _ => si_n i1⟩
theorem frS_7 {x : Int32} : frS N (v_si N 3 7 x) := ⟨rfl, fun c i1 _ => si_c i1⟩
theorem endR_t (h1 : frS N N1) (h2 : frT S S1) (h : endR N1 S1 N' S') : endR N S N' S' := by
  obtain ⟨a1, a2, a3⟩ := h
  refine ⟨frS_t h1 a1, frT_t h2 a2, ?_⟩
  rcases a3 with ⟨w', k1, k2, k3, k4, k5, k6⟩ | k
  · refine Or.inl ⟨w', k1, k2, k3, k4, k5, fun a ha => ?_⟩
    rw [← sp_e h1.1]
    exact k6 a ha
  · exact Or.inr k
def refF (f1 f2 : Nat) (S : vM) (w : Nat) : Option (vR × vM) := if w = 0 then fX11_town_57 f2 S else bv (fX11_readLines_2 f1 S (nI (5 + w)) 1) (fun M22 => fX11_town_57 f2 (v_si M22 130 3 ((M22.1 130 3) + 1)))
theorem t57_b (h : ¬ S.1 130 38 = 0) (f : Nat) : fX11_town_57 (f + 1) S = fX11_town_78 S := by
  rw [fX11_town_57, if_neg h]
theorem refF_b (h : bd N S) (f1 f2 : Nat) (w : Nat) : ∃ S', refF (f1 + 1) (f2 + 1) S w = fX11_town_78 S' ∧ frT S S' ∧ bd N S' := by
  have nb := (bd_b h).1
  unfold refF
  by_cases hw : w = 0
  · rw [if_pos hw]
    exact ⟨S, t57_b nb f2, ⟨rfl, fun _ _ _ _ => rfl, fun _ _ _ => rfl⟩, h⟩
  · have hb2 : bd N (v_si S 130 3 ((S.1 130 3) + 1)) := bd_c h rfl rfl (si_n (by decide)) (si_n (by decide))
    rw [if_neg hw, fX11_readLines_2, if_neg (show ¬ (1 : Int32) = 0 by decide), if_neg nb, bv_V]
    exact ⟨_, t57_b (bd_b hb2).1 f2, frT_3, hb2⟩
theorem hd_no {id : Nat} (h1 : 3 ≤ id) (h2 : id < 13) (h : wdB b t e q id = true) : hdI b t e q = -1 := by
  unfold hdI
  rw [if_neg (fun z => absurd (wd_one (by decide) h2 z h) (by omega)), if_neg (fun z => absurd (wd_one (by decide) h2 z h) (by omega)), if_neg (fun z => absurd (wd_one (by decide) h2 z h) (by omega))]
theorem gd_3 {x : Int32} (h : gd N S L b t e q) : gd N (v_si S 130 3 x) L b t e q := gd_c h (fun _ _ => rfl) rfl (fun j i1 _ => si_n (by omega)) (si_c (by decide))
theorem plLoop : ∀ (n f x w : Nat) (N S : vM) (t e q : Nat), n < f → n ≤ 1000 → L + 1 ≤ e + n → x ≤ e → w ≤ 6 → gd N S L b t e q → spK N → N.1 3 8 = nI w → S.1 130 3 = nI (w - 1) → (∀ a, a < w → plE N S (sp N a) (6 + a)) → ∀ f1 f2, n < f1 → n < f2 →
    ∃ N' S', fX4_readTown_26 f N (nI x) = rI (N'.1 3 7) N' ∧ refF f1 f2 S w = fX11_town_78 S' ∧ endR N S N' S' := by
  intro n
  induction n with
  | zero =>
    intro f x w N S t e q hf hn hL hx hw h
    have h14 := h.1.2.2.2.2.2.2.2.2.2.2.2.2.2.1
    have h15 := h.1.2.2.2.2.2.2.2.2.2.2.2.2.2.2.1
    omega
  | succ n ih =>
    intro f x w N S t e q hf hn hL hx hw h hK h8 h3 hE f1 f2 hf1 hf2
    have h14 : e ≤ q := h.1.2.2.2.2.2.2.2.2.2.2.2.2.2.1
    have h15 : q ≤ L := h.1.2.2.2.2.2.2.2.2.2.2.2.2.2.2.1
    have h16 : t ≠ 0 → e < q := h.1.2.2.2.2.2.2.2.2.2.2.2.2.2.2.2
    have h4 : t ≤ 4 := h.1.2.2.2.2.2.2.2.2.2.2.2.2.1
    have ht3 : N.1 3 3 = nI t := h.1.2.2.2.2.2.2.1
    obtain ⟨f, rfl⟩ : ∃ g, f = g + 1 := ⟨f - 1, by omega⟩
    obtain ⟨f1, rfl⟩ : ∃ g, f1 = g + 1 + 1 := ⟨f1 - 2, by omega⟩
    obtain ⟨f2, rfl⟩ : ∃ g, f2 = g + 1 + 1 := ⟨f2 - 2, by omega⟩
    have nFU : n < FU := FU_lt (by omega)
    -- the rows of the current work are at an end
    have exit : ∀ kd, 0 < w → kd ≤ 2 → S.1 132 (5 + w) = nI kd → ¬ wdB b t e q (itmW kd) = true → ¬ bndB b t e q kd = true → refF (f1 + 1 + 1) (f2 + 1 + 1) S w = fX11_town_57 (f2 + 1 + 1) (v_si S 130 3 (nI w)) := fun kd hw0 hk hk2 n1 n2 => by
      unfold refF
      rw [if_neg (show ¬ w = 0 by omega), r_lines h (show 5 + w < 12 by omega) hk hk2 (f1 + 1), if_neg n1, if_neg n2, fX11_readLines_2, if_pos rfl, bv_V, h3, nI_1, show w - 1 + 1 = w by omega]
    by_cases ht : t = 0
    · have e0 := c_end (N := N) (by rw [ht3, ht, nI_0]) (nI x) f
      have no : ∀ id, wdB b t e q id = false := fun id => by
        unfold wdB
        rw [decide_eq_false (show ¬ t = 1 by omega), Bool.false_and]
      have r57 : ∀ M : vM, gd N M L b t e q → fX11_town_57 (f2 + 1 + 1) M = fX11_town_78 M := fun M hM => by
        rw [fX11_town_57, if_pos hM.2.2, hM.1.2.2.2.2.2.2.2.1, ht, if_pos nI_0]
      by_cases hw0 : w = 0
      · subst hw0
        refine ⟨N, S, e0, ?_, ⟨rfl, fun _ _ _ => rfl⟩, ⟨rfl, fun _ _ _ _ => rfl, fun _ _ _ => rfl⟩, Or.inl ⟨0, Nat.zero_le _, h.2.1, h.2.2, h8, h3, hE⟩⟩
        unfold refF
        rw [if_pos rfl]
        exact r57 S h
      · obtain ⟨kd, z, lw, ot, m, nr, fr, F, T, C, Kd, A, B, hX⟩ := hE (w - 1) (by omega)
        have hk2 : S.1 132 (5 + w) = nI kd := by
          have := hX.2.2.1.1
          rw [show 6 + (w - 1) = 5 + w by omega] at this
          exact this
        have hb : ¬ bndB b t e q kd = true := by
          unfold bndB
          rw [no 8, no 9, no 11]
          split
          · decide
          · split <;> decide
        rw [exit kd (by omega) hX.1.1 hk2 (by rw [no]; decide) hb, r57 _ (gd_3 h)]
        exact ⟨N, _, e0, rfl, ⟨rfl, fun _ _ _ => rfl⟩, frT_3, Or.inl ⟨w, hw, h.2.1, by rw [si_n (by decide)]; exact h.2.2, h8, si_s, fun a ha => plE_c (hE a ha) (fun _ _ _ => rfl) (fun c j hq => by
          rw [si_c]
          unfold rwQ at hq
          omega)⟩⟩
    · have hlt := h16 ht
      have nt : ¬ nI t = 0 := nI_ne0 (by omega) (by omega)
      obtain ⟨f', rfl⟩ : ∃ g, f = g + 1 := ⟨f - 1, by omega⟩
      -- a new work, or none
      have top : ∀ M : vM, gd N M L b t e q → M.1 130 3 = nI w → (∀ a, a < w → plE N M (sp N a) (6 + a)) → (hdI b t e q = -1 → fX4_readMore N = rI 0 (v_si N 3 7 (nI 1))) →
          ∃ N' S', fX4_readTown_26 (f' + 1 + 1) N (nI x) = rI (N'.1 3 7) N' ∧ fX11_town_57 (f2 + 1 + 1) M = fX11_town_78 S' ∧ endR N M N' S' := by
        intro M hM m3 mE mM
        have e57 : fX11_town_57 (f2 + 1 + 1) M = bv (fX11_readWork M) fun M26 => fX11_town_57 (f2 + 1) M26 := by
          rw [fX11_town_57, if_pos hM.2.2, hM.1.2.2.2.2.2.2.2.1, if_neg nt]
        rw [c_turn h ht hx, e57]
        unfold fX11_readWork
        rw [r_which hM, bi_I, m3]
        by_cases hk : hdI b t e q = -1
        · have hb := mkbad hM (k := 1) (by decide) (by decide)
          have nb := bd_b hb.2.2.1
          rw [if_pos hk, if_pos hk, mM hk, bi_I, c_over nb.2, show fX11_wrong M 1 = rV (v_si (v_si M 130 38 (nI 1)) 130 39 (nI e)) from hb.2.1, bv_V]
          unfold fX11_readWork_36
          rw [if_neg nb.1, bv_V, t57_b nb.1]
          exact ⟨_, _, rfl, rfl, frS_7, frT_B hb.2.2.2.2, Or.inr hb.2.2.1⟩
        · obtain ⟨k, k1, k2, k3⟩ := hdI_n hk
          rw [if_neg hk, if_neg hk, k2]
          by_cases hw6 : w = 6
          · have hb := mkbad hM (k := 2) (by decide) (by decide)
            have nb := bd_b hb.2.2.1
            have eh : fX4_readHead N (nI k) = rI 0 (v_si N 3 7 (nI 2)) := by
              unfold fX4_readHead fX4_readHead_16
              rw [h8, if_neg (nI_pos (by omega)), if_neg (nI_nlt (by omega) (by omega)), show fX4_fail N 2 = rI 0 (v_si N 3 7 (nI 2)) from hb.1, bi_I, if_pos (show v_nz 0 = 0 by decide)]
            rw [eh, bi_I, c_over nb.2, if_pos (show nI w = 6 by rw [hw6]; rfl), show fX11_wrong M 2 = rV (v_si (v_si M 130 38 (nI 2)) 130 39 (nI e)) from hb.2.1, bv_V]
            unfold fX11_readWork_36
            rw [if_neg nb.1, bv_V, t57_b nb.1]
            exact ⟨_, _, rfl, rfl, frS_7, frT_B hb.2.2.2.2, Or.inr hb.2.2.1⟩
          · have hw5 : w < 6 := by omega
            obtain ⟨N1, S1, y, a1, a2, a3, a4, a5, a6, a7⟩ := rdHead (hK.1 w hw5) hw5 (rfl : 6 + w = 6 + w) k1 hM h8 m3 rfl
            have fS1 : frS N N1 := frS_H hw5 rfl a3 a4
            have fT1 : frT M S1 := frT_Q hw5 rfl a6
            have e1 : (bv (fX11_readWork_36 M (nI k)) fun M26 => fX11_town_57 (f2 + 1) M26) = refF FU (f2 + 1) S1 (w + 1) := by
              rw [a2]
              unfold hdL refF
              rw [if_neg (show ¬ w + 1 = 0 by omega), bv_b, show 5 + (w + 1) = 6 + w by omega]
              rfl
            rw [a1, bi_I, if_neg (show ¬ nI w = 6 from fun z1 => hw6 ((nI_eq (b := 6) (by omega) (by decide)).mp z1)), e1]
            rcases a7 with ⟨-, ⟨t', e', q', g1, g2⟩, g3⟩ | ⟨-, hbad⟩
            · obtain ⟨N', S', c1, c2, c3⟩ := ih (f' + 1) (x + 1) (w + 1) N1 S1 t' e' q' (by omega) (by omega) (by omega) (by omega) (by omega) g1 (spK_e a3 hK) a5 (by rw [a6.2.2 3 (by omega)]; exact m3) (fun a ha => by
                rw [sp_e a3]
                by_cases z1 : a = w
                · rw [z1]
                  exact g3
                · refine plE_c (mE a (by omega)) (fun c i1 i2 => a4 c ?_ ?_) (fun c j hq => a6.2.1 c j ?_ (fun z2 => ?_))
                  · have := v_isP_b (hK.1 a (by omega))
                    omega
                  · have := hK.2 a w (by omega) hw5 z1
                    unfold sp at *
                    omega
                  · unfold rwQ at hq
                    omega
                  · unfold rwQ at hq z2
                    omega) FU (f2 + 1) nFU (by omega)
              exact ⟨N', S', c1, c2, endR_t fS1 fT1 c3⟩
            · obtain ⟨S', c1, c2, c3⟩ := refF_b hbad 99999 f2 (w + 1)
              exact ⟨N1, S', c_over (bd_b hbad).2 _ _, c1, fS1, frT_t fT1 c2, Or.inr c3⟩
      by_cases hw0 : w = 0
      · subst hw0
        have em : fX4_readMore N = rI 0 (v_si N 3 7 (nI 1)) := by
          unfold fX4_readMore fX4_readMore_17
          rw [h8, if_pos (show nI 0 < 1 by decide), show fX4_fail N 1 = rI 0 (v_si N 3 7 (nI 1)) from rfl, bi_I, if_pos (show v_nz 0 = 0 by decide)]
        obtain ⟨N', S', c1, c2, c3⟩ := top S h h3 hE (fun _ => em)
        exact ⟨N', S', c1, by unfold refF; rw [if_pos rfl]; exact c2, c3⟩
      · obtain ⟨kd, z, lw, ot, m, nr, fr, F, T, C, Kd, A, B, hX⟩ := hE (w - 1) (by omega)
        have hP := hK.1 (w - 1) (by omega)
        have hkd : kd ≤ 2 := hX.1.1
        rw [show 6 + (w - 1) = 5 + w by omega] at hX
        have hk2 : S.1 132 (5 + w) = nI kd := hX.2.2.1.1
        have c0 : N.1 (sp N (w - 1)) 0 = nI kd := hX.2.1.1
        have hi13 := itm_13 hkd
        have em : fX4_readMore N = bi (fX4_isItem N (sp N (w - 1))) fun y13 M14 => if y13 = 0 then bi (fX4_isBond M14 (sp N (w - 1))) fun y18 M19 => if y18 = 0 then bi (fX4_fail M19 1) fun y23 M24 => if v_nz y23 = y23 then rI y23 M24 else none else bi (fX4_readBond M19 (sp N (w - 1))) fun y27 M28 => if v_nz y27 = y27 then rI y27 M28 else none else bi (fX4_readItem M14 (sp N (w - 1))) fun y31 M32 => if v_nz y31 = y31 then rI y31 M32 else none := by
          unfold fX4_readMore
          rw [h8, if_neg (show ¬ nI w < 1 from nI_nlt (show 1 ≤ w by omega) (by omega)), if_pos (nI_le hw (by decide)), show nI w - 1 = nI (w - 1) from nI_sub (b := 1) (by omega), if_pos (v_in_nI (by omega) (by decide)), nI_clamp (by omega)]
          rfl
        rw [c_item h.1 c0 hkd, bi_I] at em
        -- a row of the work that is being read
        have row : ∀ (N1 S1 : vM) (y : Int32), hdI b t e q = -1 → fX4_readMore N = rI y N1 → refF (f1 + 1 + 1) (f2 + 1 + 1) S w = refF (f1 + 1) (f2 + 1 + 1) S1 w → frP (sp N (w - 1)) N N1 → frQ (5 + w) S S1 → ((y = 1 ∧ (∃ t' e' q', gd N1 S1 L b t' e' q' ∧ q ≤ e') ∧ plE N1 S1 (sp N (w - 1)) (5 + w)) ∨ (y = 0 ∧ bd N1 S1)) →
            ∃ N' S', fX4_readTown_26 (f' + 1 + 1) N (nI x) = rI (N'.1 3 7) N' ∧ refF (f1 + 1 + 1) (f2 + 1 + 1) S w = fX11_town_78 S' ∧ endR N S N' S' := by
          intro N1 S1 y hk a1 a2 a3 a4 a5
          have fS1 : frS N N1 := frS_P (show w - 1 < 6 by omega) rfl a3
          have fT1 : frT S S1 := frT_Q (show w - 1 < 6 by omega) (by omega) a4
          rw [c_turn h ht hx, if_pos hk, a1, bi_I, a2]
          rcases a5 with ⟨-, ⟨t', e', q', g1, g2⟩, g3⟩ | ⟨-, hbad⟩
          · obtain ⟨N', S', c1, c2, c3⟩ := ih (f' + 1) (x + 1) w N1 S1 t' e' q' (by omega) (by omega) (by omega) (by omega) hw g1 (spK_e a3.1 hK) (a3.2.2.trans h8) (by rw [a4.2.2 3 (by omega)]; exact h3) (fun a ha => by
              rw [sp_e a3.1]
              by_cases z1 : a = w - 1
              · rw [z1, show 6 + (w - 1) = 5 + w by omega]
                exact g3
              · refine plE_c (hE a ha) (fun c i1 i2 => a3.2.1 c ?_ ?_) (fun c j hq => a4.2.1 c j ?_ (fun z2 => ?_))
                · have := v_isP_b (hK.1 a (by omega))
                  omega
                · have := hK.2 a (w - 1) (by omega) (by omega) z1
                  omega
                · unfold rwQ at hq
                  omega
                · unfold rwQ at hq z2
                  omega) (f1 + 1) (f2 + 1 + 1) (by omega) (by omega)
            exact ⟨N', S', c1, c2, endR_t fS1 fT1 c3⟩
          · obtain ⟨S', c1, c2, c3⟩ := refF_b hbad f1 (f2 + 1) w
            exact ⟨N1, S', c_over (bd_b hbad).2 _ _, c1, fS1, frT_t fT1 c2, Or.inr c3⟩
        have nz1 : ∀ (y : Int32), y = 0 ∨ y = 1 → v_nz y = y := fun y hy => by
          rcases hy with rfl | rfl
          · decide
          · decide
        by_cases qi : wdB b t e q (itmW kd) = true
        · obtain ⟨N1, S1, y, a1, a2, a3, a4, a5⟩ := rdItem hP (show 5 + w < 12 by omega) h hX
          have hy : y = 0 ∨ y = 1 := a5.elim (fun z1 => Or.inr z1.1) (fun z1 => Or.inl z1.1)
          refine row N1 S1 y (hd_no (by omega) hi13.1 qi) ?_ ?_ a3 a4 a5
          · rw [em, if_pos qi, if_neg (show ¬ (1 : Int32) = 0 by decide), a1, bi_I, if_pos (nz1 y hy)]
          · unfold refF
            rw [if_neg hw0, if_neg hw0, r_lines h (show 5 + w < 12 by omega) hkd hk2 (f1 + 1), if_pos qi, a2, bv_V]
        · rw [if_neg qi, if_pos (show (0 : Int32) = 0 from rfl), c_bond h.1 c0 hkd, bi_I] at em
          by_cases qb : bndB b t e q kd = true
          · have hkk : (kd = 1 ∧ bndK b t e q kd = (if wdB b t e q 8 = true then 0 else 1)) ∨ (kd = 2 ∧ bndK b t e q kd = 0 ∧ ¬ wdB b t e q 8 = true) := by
              unfold bndB at qb
              unfold bndK
              by_cases z1 : kd = 1
              · rw [if_pos z1]
                exact Or.inl ⟨z1, rfl⟩
              · rw [if_neg z1] at qb ⊢
                by_cases z2 : kd = 2
                · rw [if_pos z2] at qb
                  exact Or.inr ⟨z2, rfl, fun z3 => absurd (wd_one (by decide) (by decide) z3 qb) (by decide)⟩
                · rw [if_neg z2] at qb
                  cases qb
            have hno : hdI b t e q = -1 := by
              unfold bndB at qb
              split at qb
              · rw [Bool.or_eq_true] at qb
                rcases qb with z1 | z1
                · exact hd_no (by decide) (by decide) z1
                · exact hd_no (by decide) (by decide) z1
              · split at qb
                · exact hd_no (by decide) (by decide) qb
                · cases qb
            obtain ⟨N1, S1, y, a1, a2, a3, a4, a5⟩ := rdBond hP (show 5 + w < 12 by omega) h hX hkk
            have hy : y = 0 ∨ y = 1 := a5.elim (fun z1 => Or.inr z1.1) (fun z1 => Or.inl z1.1)
            refine row N1 S1 y hno ?_ ?_ a3 a4 a5
            · rw [em, if_pos qb, if_neg (show ¬ (1 : Int32) = 0 by decide), a1, bi_I, if_pos (nz1 y hy)]
            · unfold refF
              rw [if_neg hw0, if_neg hw0, r_lines h (show 5 + w < 12 by omega) hkd hk2 (f1 + 1), if_neg qi, if_pos qb, a2, bv_V]
          · rw [if_neg qb, if_pos (show (0 : Int32) = 0 from rfl), show fX4_fail N 1 = rI 0 (v_si N 3 7 (nI 1)) from rfl, bi_I, if_pos (show v_nz 0 = 0 by decide)] at em
            rw [exit kd (by omega) hkd hk2 qi qb]
            obtain ⟨N', S', c1, c2, c3⟩ := top (v_si S 130 3 (nI w)) (gd_3 h) si_s (fun a ha => plE_c (hE a ha) (fun _ _ _ => rfl) (fun c j hq => by
              rw [si_c]
              unfold rwQ at hq
              omega)) (fun _ => em)
            exact ⟨N', S', c1, c2, endR_t ⟨rfl, fun _ _ _ => rfl⟩ frT_3 c3⟩
end P60
