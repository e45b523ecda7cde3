/-! summit: the class's find and sameAs -/
section XSBB
variable {m : N5} {vl : Nat → Nat} {y : ow_MS} {h g : Nat}
theorem xc_beginS {k : Int} {F : List Nat} (hh : sO h) (h0 : foC y (h + 1000) m k F) (hl : F.length ≤ 16) : Te (fun K => ce_X10_begin vl K h y) (fun y1 => (∃ W, suL y1 h m k F.length [F] W) ∧ wkF9 y1 h m.1 ∧ fr (fun g => h + 2 ≤ g ∧ g ≤ h + 6) y y1) := by
  obtain ⟨⟨a1, a2, a3, a4, a5, a6, a7⟩, hn, k1, k2⟩ := h0
  rw [List.length_map] at a3
  refine e_X10_begin ?_; unfold cm_X10_begin_0
  refine w_rdF a2 (w_wrF (w_rdF (x := nI F.length) (rf_ot (by omega) a3) (w_wrF (w_wrF ?_))))
  have e2 : (usF (usF (usF y (h + 2) (iI k)) (h + 3) (nI F.length)) (h + 4) 0).1 (h + 2) = iI k := rf_ot (by omega) (rf_ot (by omega) po_usF_at)
  have e3 : (usF (usF (usF y (h + 2) (iI k)) (h + 3) (nI F.length)) (h + 4) 0).1 (h + 3) = nI F.length := rf_ot (by omega) po_usF_at
  have e4 : (usF (usF (usF y (h + 2) (iI k)) (h + 3) (nI F.length)) (h + 4) 0).1 (h + 4) = 0 := po_usF_at
  have fz : fr (fun g => h + 2 ≤ g ∧ g ≤ h + 6) y (usF (usF (usF y (h + 2) (iI k)) (h + 3) (nI F.length)) (h + 4) 0) := fr_F2 (fr_F2 (fr_F (by omega)) (by omega)) (by omega)
  generalize usF (usF (usF y (h + 2) (iI k)) (h + 3) (nI F.length)) (h + 4) 0 = z at e2 e3 e4 fz
  have s0 : suL z h m k F.length [] [] := ⟨⟨e2, e3, e4, by decide, hl⟩, fun j G hj => (by simp at hj), rfl, fun i G hi => (by simp at hi), List.Pairwise.nil, fun G => Iff.rfl, List.nodup_nil⟩
  refine w_cs0 (xc_add hh s0 hn.1 rfl (fun i c hc => by rw [(fz (h + 1000 + 4) (by omega)).2.1]; exact a5 i c hc)) ?_
  rintro y1 ⟨hres, hf⟩
  have f1 : fr (fun g => h + 2 ≤ g ∧ g ≤ h + 6) y y1 := fr_tr fz (fr_mono (fun g hg => by omega) hf)
  refine w_some ⟨?_, ⟨(f1 _ (by omega)).1.trans a1, (f1 _ (by omega)).1.trans a6, (f1 _ (by omega)).1.trans a7⟩, f1⟩
  rcases hres with ⟨u1, -⟩ | ⟨-, ⟨u2, -⟩ | ⟨-, W', u3⟩⟩
  · exact absurd u1 List.not_mem_nil
  · exact absurd u2 (by decide)
  · exact ⟨W', u3⟩
/-- what find leaves -/
def fnC (y : ow_MS) (h : Nat) (m : N5) (a : Gn m) (v : Int32) (k : Int) (R : Nat) (Ls W : List (List Nat)) : Prop := suL y h m k R Ls W ∧ y.1 (h + 1) = nI m.1 ∧ nrs a k ∧ nls a (k + (R : Int)) ∧ (∀ F, F ∈ Ls → sss a k R F) ∧ -16 ≤ k ∧ k + (R : Int) ≤ 16 ∧ (∃ F, F ∈ Ls) ∧ (v = nI Ls.length ∧ Ls.length ≤ 200 ∧ (∀ F, F ∈ Ls ↔ sss a k R F) ∨ v = -2 ∧ Ls.length = 201)
theorem xc_findS {a : Gn m} {k0 : Int} {F0 : List Nat} (hh : sO h) (hg : fO g) (hd : g + 7 ≤ h) (h4 : m.1 ≤ 4) (h0 : foC y g m k0 F0) (hb : bdF9 k0 F0) (hx : ∃ h x, gF m k0 F0 h = cnj x a) : Te (fun K => ce_X10_find vl K h g y) (fun r => (∃ k R Ls W, fnC r.2 h m a r.1 k R Ls W) ∧ fr (suP h) y r.2) := by
  let Q : Int32 × ow_MS → Prop := fun r => (∃ k R Ls W, fnC r.2 h m a r.1 k R Ls W) ∧ fr (suP h) y r.2
  have c1 : ∀ (z : ow_MS), foC z (h + 1000) m k0 F0 → lsR z h (lsF m.1 6) → z.1 (h + 1) = nI m.1 → fr (suP h) y z → Tt (fun K t => c_X10_find vl K t 1 (nI 0) h g z) Q := by
    intro z q1 q2 q3 q4
    refine u_X10_find_1 ?_; unfold cm_X10_find_1
    refine w_leF (a := 100) (b := 0) (by omega) (by omega) (w_cs0 (xc_climb hh q1 hb hx) ?_)
    rintro z1 ⟨⟨k, F, f1, ⟨f2, f3, f4⟩, ⟨hF, x, f5⟩, f6, f7⟩, g2⟩
    refine w_cs0 (xc_beginS hh f1 f4) ?_
    rintro z2 ⟨⟨W, s2⟩, w2, g3⟩
    have lz : lsR z2 h (lsF m.1 6) := lsR_fr g3 (fun g a1 a2 _ => by omega) (lsR_fr g2 (fun g a1 a2 _ h9 => by unfold foP at h9; omega) q2)
    have e1 : z2.1 (h + 1) = nI m.1 := (g3 _ (by omega)).1.trans ((g2 _ (by unfold foP; omega)).1.trans q3)
    refine w_cs1 (xc_gather hh h4 f2 f3 f6 f7 s2 (by rw [List.length_singleton]; omega) (fun G hG => ?_) w2 lz) ?_
    · rw [List.mem_singleton.mp hG]
      exact ⟨f1.2.1, rfl, hF, x, f5⟩
    · rintro v z3 ⟨⟨rfl, Ls, W', s3, s4, s5⟩, g4⟩
      dsimp only at s3 g4
      have f4' : fr (suP h) y z3 := fr_tr (fr_tr (fr_tr q4 (fr_mono (fun g hg => by unfold foP at hg; unfold suP; omega) g2)) (fr_mono (fun g hg => by unfold suP; omega) g3)) (fr_mono (fun g hg => by unfold suQ9 at hg; unfold suP; omega) g4)
      have e1' : z3.1 (h + 1) = nI m.1 := (g4 _ (by unfold suQ9; omega)).1.trans e1
      have hm := s3.1.2.2.2.1
      have ne : ∃ G, G ∈ Ls := by
        rcases s5 with h9 | ⟨-, h9⟩
        · exact ⟨Ls[0]'(by omega), List.getElem_mem _⟩
        · exact ⟨F, (h9 F).mpr ⟨f1.2.1, rfl, hF, x, f5⟩⟩
      refine w_ifF (by decide) (w_rdF s3.1.2.2.1 (w_le (b := 200) (by omega) (by omega) (fun h9 => w_rdF s3.1.2.2.1 (w_some ⟨⟨k, F.length, Ls, W', s3, e1', f6, f7, s4, f2, f3, ne, Or.inl ⟨rfl, h9, ?_⟩⟩, f4'⟩)) (fun h9 => w_some ⟨⟨k, F.length, Ls, W', s3, e1', f6, f7, s4, f2, f3, ne, Or.inr ⟨rfl, by omega⟩⟩, f4'⟩)))
      rcases s5 with h8 | ⟨-, h8⟩
      · omega
      · exact h8
  refine e_X10_find ?_
  refine u_X10_find_0 ?_; unfold cm_X10_find_0
  have hd2 : h + 1000 + 7 ≤ g ∨ g + 7 ≤ h + 1000 := Or.inr (by omega)
  obtain ⟨⟨a1, a2, a3, a4, a5, a6, a7⟩, hn, k1, k2⟩ := id h0
  refine w_rdF a1 (w_wrF (w_cs0 (xc_copyF (m := m) (k := k0) (F := F0) (sO_f hh) hg hd2 ⟨⟨rf_ot (by omega) a1, rf_ot (by omega) a2, rf_ot (by omega) a3, a4, a5, rf_ot (by omega) a6, rf_ot (by omega) a7⟩, hn, k1, k2⟩) ?_))
  rintro z1 ⟨g1, g2⟩
  have e1 : z1.1 (h + 1) = nI m.1 := (g2 (h + 1) (by unfold foP; omega)).1.trans po_usF_at
  refine w_cs0 (xc_listSimples hh e1 h4) ?_
  rintro z2 ⟨k1', k2'⟩
  refine c1 z2 ?_ k1' ((k2' (h + 1) (by unfold lsP; omega)).1.trans e1) (fr_tr (fr_tr (fr_F (by unfold suP; omega)) (fr_mono (fun g hg => by unfold foP at hg; unfold suP; omega) g2)) (fr_mono (fun g hg => by unfold lsP at hg; unfold suP; omega) k2'))
  exact ⟨fo_fr k2' (fun g hg h9 => by unfold foP at hg; unfold lsP at h9; omega) g1.1, g1.2⟩
theorem xc_sameAsS {k k' : Int} {R R' : Nat} {Ls W Ls' W' : List (List Nat)} (hh : sO h) (hg : sO g) (h0 : suL y h m k R Ls W) (g0 : suL y g m k' R' Ls' W') (s1 : y.1 (h + 1) = nI m.1) (s2 : y.1 (g + 1) = nI m.1) (b1 : -100 ≤ k) (b2 : k ≤ 100) (b3 : -100 ≤ k') (b4 : k' ≤ 100) : Te (fun K => ce_X10_sameAs vl K h g y) (fun r => (r.1 = 1 ∧ k = k' ∧ R = R' ∧ W = W' ∨ r.1 = 0 ∧ ¬ (k = k' ∧ R = R' ∧ W = W')) ∧ r.2 = y) := by
  obtain ⟨⟨t2, t3, t4, l201, r16⟩, hrow, wl, hord, hpw, hmem, hnd⟩ := id h0
  obtain ⟨⟨u2, u3, u4, l201', r16'⟩, hrow', wl', hord', hpw', hmem', hnd'⟩ := id g0
  let Q : Int32 × ow_MS → Prop := fun r => (r.1 = 1 ∧ k = k' ∧ R = R' ∧ W = W' ∨ r.1 = 0 ∧ ¬ (k = k' ∧ R = R' ∧ W = W')) ∧ r.2 = y
  have no : ¬ (k = k' ∧ R = R' ∧ W = W') → Tt (fun _ _ => okZ 0 (some ((0 : Int32), y))) Q := fun h9 => w_okZ (Or.inl rfl) (w_some ⟨Or.inr ⟨rfl, h9⟩, rfl⟩)
  have c1 : k = k' → R = R' → Ls.length = Ls'.length → ∀ (d i : Nat), i + d = Ls.length → (∀ j, j < i → W[j]? = W'[j]?) → Tt (fun K t => c_X10_sameAs vl K t 1 (nI i) h g y) Q := by
    intro ek eR el d
    induction d with
    | zero =>
      intro i hi hw
      have eW : W = W' := List.ext_getElem? (fun j => by
        by_cases c : j < i
        · exact hw j c
        · rw [List.getElem?_eq_none (by omega), List.getElem?_eq_none (by omega)])
      refine u_X10_sameAs_1 ?_; unfold cm_X10_sameAs_1
      exact w_rdF t4 (w_leT (by omega) (by omega) (w_okZ (Or.inr rfl) (w_some ⟨Or.inl ⟨rfl, ek, eR, eW⟩, rfl⟩)))
    | succ d ih =>
      intro i hi hw
      have e1 : W[i]? = some (W[i]'(by omega)) := List.getElem?_eq_getElem (by omega)
      have e2 : W'[i]? = some (W'[i]'(by omega)) := List.getElem?_eq_getElem (by omega)
      obtain ⟨j, j1, j2⟩ := hord i _ e1
      obtain ⟨j', j1', j2'⟩ := hord' i _ e2
      obtain ⟨r1, r2, r3⟩ := hrow j _ j2
      obtain ⟨r1', r2', r3'⟩ := hrow' j' _ j2'
      have jl := (List.getElem?_eq_some_iff.mp j2).1
      have jl' := (List.getElem?_eq_some_iff.mp j2').1
      refine u_X10_sameAs_1 ?_; unfold cm_X10_sameAs_1
      refine w_rdF t4 (w_leF (by omega) (by omega) (w_crI (sO_6 hh) rfl (show i < 201 by omega) j1 (w_crI (sO_6 hg) rfl (show i < 201 by omega) j1' ?_)))
      rw [m20, m20, nI_1]
      have lh : (W[i].map (pkG m.1)).length = (W'[i].map (pkG m.1)).length := by rw [List.length_map, List.length_map, r1, r1', eR]
      refine w_cs1 (xc_compare (a := 20 * j) (b := 20 * j') (L := W[i].map (pkG m.1)) (M := W'[i].map (pkG m.1)) t3 (by omega) (sO_5 hh) (sO_5 hg) (by omega) (by omega) (by omega) (by omega) (by rw [List.length_map]; exact r1) (by rw [List.length_map, r1', eR]) r3 r3') ?_
      rintro v z ⟨ev, e9⟩
      dsimp only at ev e9
      rw [e9, ev]
      by_cases ec : cmpL (W[i].map (pkG m.1)) (W'[i].map (pkG m.1)) = 0
      · rw [ec]
        refine w_ifT rfl (ih (i + 1) (by omega) (fun q hq => ?_))
        by_cases eq : q = i
        · rw [eq, e1, e2, pk_inj _ _ r2 r2' (cm_0 _ _ lh ec)]
        · exact hw q (by omega)
      · refine w_ifF (fun h9 => ?_) (no (fun h9 => ec ?_))
        · rcases cm_v (W[i].map (pkG m.1)) (W'[i].map (pkG m.1)) with f9 | f9 | f9
          · exact ec f9
          · rw [f9] at h9
            exact absurd h9 (by decide)
          · rw [f9] at h9
            exact absurd h9 (by decide)
        · have e8 := h9.2.2
          have e6 : W[i]? = W'[i]? := congrArg (fun X => X[i]?) e8
          have e7 : W[i]'(by omega) = W'[i]'(by omega) := Option.some.inj (e1.symm.trans (e6.trans e2))
          rw [e7]
          exact cm_rf _
  refine e_X10_sameAs ?_
  refine u_X10_sameAs_0 ?_; unfold cm_X10_sameAs_0
  refine w_rdF s1 (w_rdF s2 (w_ifT rfl (w_rdF t2 (w_rdF u2 (w_if (fun ek => w_rdF t3 (w_rdF u3 (w_eqN (by omega) (by omega) (fun eR => w_rdF t4 (w_rdF u4 (w_eqN (by omega) (by omega) (fun el => ?_) (fun el => no (fun h9 => el ?_))))) (fun eR => no (fun h9 => eR h9.2.1))))) (fun ek => no (fun h9 => ek (by rw [h9.1]))))))))
  · exact c1 ((iI_eq (by omega) (by omega) (by omega) (by omega)).mp ek) eR el Ls.length 0 (by omega) (fun j hj => absurd hj (Nat.not_lt_zero _))
  · rw [← wl, ← wl', h9.2.2]
end XSBB
