section
/-! 99zzzzzzzzzzzzzzzw.xsmb -/
/-! summit: the class's find and sameAs -/
section XSBB
variable {m : N5} {vl : Nat → Nat} {y : ow_MS} {h g : Nat}
theorem xc_beginS {k : Int} {F : List Nat} (hh : sO h) (h0 : foC y (h + 1000) m k F) (hl : F.length ≤ 16) : Te (fun K => ce_X10_begin vl K h y) (fun y1 => (∃ W, suL y1 h m k F.length [F] W) ∧ wkF9 y1 h m.1 ∧ fr (fun g => h + 2 ≤ g ∧ g ≤ h + 6) y y1) := by
  obtain ⟨⟨a1, a2, a3, a4, a5, a6, a7⟩, hn, k1, k2⟩ := h0
  rw [List.length_map] at a3
  refine e_X10_begin ?_; unfold cm_X10_begin_0
  refine w_rdF a2 (w_wrF (w_rdF (x := nI F.length) (rf_ot (by omega) a3) (w_wrF (w_wrF ?_))))
  have e2 : (usF (usF (usF y (h + 2) (iI k)) (h + 3) (nI F.length)) (h + 4) 0).1 (h + 2) = iI k := rf_ot (by omega) (rf_ot (by omega) po_usF_at)
  have e3 : (usF (usF (usF y (h + 2) (iI k)) (h + 3) (nI F.length)) (h + 4) 0).1 (h + 3) = nI F.length := rf_ot (by omega) po_usF_at
  have e4 : (usF (usF (usF y (h + 2) (iI k)) (h + 3) (nI F.length)) (h + 4) 0).1 (h + 4) = 0 := po_usF_at
  have fz : fr (fun g => h + 2 ≤ g ∧ g ≤ h + 6) y (usF (usF (usF y (h + 2) (iI k)) (h + 3) (nI F.length)) (h + 4) 0) := fr_F2 (fr_F2 (fr_F (by omega)) (by omega)) (by omega)
  generalize usF (usF (usF y (h + 2) (iI k)) (h + 3) (nI F.length)) (h + 4) 0 = z at e2 e3 e4 fz
  have s0 : suL z h m k F.length [] [] := ⟨⟨e2, e3, e4, by decide, hl⟩, fun j G hj => (by simp at hj), rfl, fun i G hi => (by simp at hi), List.Pairwise.nil, fun G => Iff.rfl, List.nodup_nil⟩
  refine w_cs0 (xc_add hh s0 hn.1 rfl (fun i c hc => by rw [(fz (h + 1000 + 4) (by omega)).2.1]; exact a5 i c hc)) ?_
  rintro y1 ⟨hres, hf⟩
  have f1 : fr (fun g => h + 2 ≤ g ∧ g ≤ h + 6) y y1 := fr_tr fz (fr_mono (fun g hg => by omega) hf)
  refine w_some ⟨?_, ⟨(f1 _ (by omega)).1.trans a1, (f1 _ (by omega)).1.trans a6, (f1 _ (by omega)).1.trans a7⟩, f1⟩
  rcases hres with ⟨u1, -⟩ | ⟨-, ⟨u2, -⟩ | ⟨-, W', u3⟩⟩
  · exact absurd u1 List.not_mem_nil
  · exact absurd u2 (by decide)
  · exact ⟨W', u3⟩
/-- what find leaves -/
def fnC (y : ow_MS) (h : Nat) (m : N5) (a : Gn m) (v : Int32) (k : Int) (R : Nat) (Ls W : List (List Nat)) : Prop := suL y h m k R Ls W ∧ y.1 (h + 1) = nI m.1 ∧ nrs a k ∧ nls a (k + (R : Int)) ∧ (∀ F, F ∈ Ls → sss a k R F) ∧ -16 ≤ k ∧ k + (R : Int) ≤ 16 ∧ (∃ F, F ∈ Ls) ∧ (v = nI Ls.length ∧ Ls.length ≤ 200 ∧ (∀ F, F ∈ Ls ↔ sss a k R F) ∨ v = -2 ∧ Ls.length = 201)
theorem xc_findS {a : Gn m} {k0 : Int} {F0 : List Nat} (hh : sO h) (hg : fO g) (hd : g + 7 ≤ h) (h4 : m.1 ≤ 4) (h0 : foC y g m k0 F0) (hb : bdF9 k0 F0) (hx : ∃ h x, gF m k0 F0 h = cnj x a) : Te (fun K => ce_X10_find vl K h g y) (fun r => (∃ k R Ls W, fnC r.2 h m a r.1 k R Ls W) ∧ fr (suP h) y r.2) := by
  let Q : Int32 × ow_MS → Prop := fun r => (∃ k R Ls W, fnC r.2 h m a r.1 k R Ls W) ∧ fr (suP h) y r.2
  have c1 : ∀ (z : ow_MS), foC z (h + 1000) m k0 F0 → lsR z h (lsF m.1 6) → z.1 (h + 1) = nI m.1 → fr (suP h) y z → Tt (fun K t => c_X10_find vl K t 1 (nI 0) h g z) Q := by
    intro z q1 q2 q3 q4
    refine u_X10_find_1 ?_; unfold cm_X10_find_1
    refine w_leF (a := 100) (b := 0) (by omega) (by omega) (w_cs0 (xc_climb hh q1 hb hx) ?_)
    rintro z1 ⟨⟨k, F, f1, ⟨f2, f3, f4⟩, ⟨hF, x, f5⟩, f6, f7⟩, g2⟩
    refine w_cs0 (xc_beginS hh f1 f4) ?_
    rintro z2 ⟨⟨W, s2⟩, w2, g3⟩
    have lz : lsR z2 h (lsF m.1 6) := lsR_fr g3 (fun g a1 a2 _ => by omega) (lsR_fr g2 (fun g a1 a2 _ h9 => by unfold foP at h9; omega) q2)
    have e1 : z2.1 (h + 1) = nI m.1 := (g3 _ (by omega)).1.trans ((g2 _ (by unfold foP; omega)).1.trans q3)
    refine w_cs1 (xc_gather hh h4 f2 f3 f6 f7 s2 (by rw [List.length_singleton]; omega) (fun G hG => ?_) w2 lz) ?_
    · rw [List.mem_singleton.mp hG]
      exact ⟨f1.2.1, rfl, hF, x, f5⟩
    · rintro v z3 ⟨⟨rfl, Ls, W', s3, s4, s5⟩, g4⟩
      dsimp only at s3 g4
      have f4' : fr (suP h) y z3 := fr_tr (fr_tr (fr_tr q4 (fr_mono (fun g hg => by unfold foP at hg; unfold suP; omega) g2)) (fr_mono (fun g hg => by unfold suP; omega) g3)) (fr_mono (fun g hg => by unfold suQ9 at hg; unfold suP; omega) g4)
      have e1' : z3.1 (h + 1) = nI m.1 := (g4 _ (by unfold suQ9; omega)).1.trans e1
      have hm := s3.1.2.2.2.1
      have ne : ∃ G, G ∈ Ls := by
        rcases s5 with h9 | ⟨-, h9⟩
        · exact ⟨Ls[0]'(by omega), List.getElem_mem _⟩
        · exact ⟨F, (h9 F).mpr ⟨f1.2.1, rfl, hF, x, f5⟩⟩
      refine w_ifF (by decide) (w_rdF s3.1.2.2.1 (w_le (b := 200) (by omega) (by omega) (fun h9 => w_rdF s3.1.2.2.1 (w_some ⟨⟨k, F.length, Ls, W', s3, e1', f6, f7, s4, f2, f3, ne, Or.inl ⟨rfl, h9, ?_⟩⟩, f4'⟩)) (fun h9 => w_some ⟨⟨k, F.length, Ls, W', s3, e1', f6, f7, s4, f2, f3, ne, Or.inr ⟨rfl, by omega⟩⟩, f4'⟩)))
      rcases s5 with h8 | ⟨-, h8⟩
      · omega
      · exact h8
  refine e_X10_find ?_
  refine u_X10_find_0 ?_; unfold cm_X10_find_0
  have hd2 : h + 1000 + 7 ≤ g ∨ g + 7 ≤ h + 1000 := Or.inr (by omega)
  obtain ⟨⟨a1, a2, a3, a4, a5, a6, a7⟩, hn, k1, k2⟩ := id h0
  refine w_rdF a1 (w_wrF (w_cs0 (xc_copyF (m := m) (k := k0) (F := F0) (sO_f hh) hg hd2 ⟨⟨rf_ot (by omega) a1, rf_ot (by omega) a2, rf_ot (by omega) a3, a4, a5, rf_ot (by omega) a6, rf_ot (by omega) a7⟩, hn, k1, k2⟩) ?_))
  rintro z1 ⟨g1, g2⟩
  have e1 : z1.1 (h + 1) = nI m.1 := (g2 (h + 1) (by unfold foP; omega)).1.trans po_usF_at
  refine w_cs0 (xc_listSimples hh e1 h4) ?_
  rintro z2 ⟨k1', k2'⟩
  refine c1 z2 ?_ k1' ((k2' (h + 1) (by unfold lsP; omega)).1.trans e1) (fr_tr (fr_tr (fr_F (by unfold suP; omega)) (fr_mono (fun g hg => by unfold foP at hg; unfold suP; omega) g2)) (fr_mono (fun g hg => by unfold lsP at hg; unfold suP; omega) k2'))
  exact ⟨fo_fr k2' (fun g hg h9 => by unfold foP at hg; unfold lsP at h9; omega) g1.1, g1.2⟩
theorem xc_sameAsS {k k' : Int} {R R' : Nat} {Ls W Ls' W' : List (List Nat)} (hh : sO h) (hg : sO g) (h0 : suL y h m k R Ls W) (g0 : suL y g m k' R' Ls' W') (s1 : y.1 (h + 1) = nI m.1) (s2 : y.1 (g + 1) = nI m.1) (b1 : -100 ≤ k) (b2 : k ≤ 100) (b3 : -100 ≤ k') (b4 : k' ≤ 100) : Te (fun K => ce_X10_sameAs vl K h g y) (fun r => (r.1 = 1 ∧ k = k' ∧ R = R' ∧ W = W' ∨ r.1 = 0 ∧ ¬ (k = k' ∧ R = R' ∧ W = W')) ∧ r.2 = y) := by
  obtain ⟨⟨t2, t3, t4, l201, r16⟩, hrow, wl, hord, hpw, hmem, hnd⟩ := id h0
  obtain ⟨⟨u2, u3, u4, l201', r16'⟩, hrow', wl', hord', hpw', hmem', hnd'⟩ := id g0
  let Q : Int32 × ow_MS → Prop := fun r => (r.1 = 1 ∧ k = k' ∧ R = R' ∧ W = W' ∨ r.1 = 0 ∧ ¬ (k = k' ∧ R = R' ∧ W = W')) ∧ r.2 = y
  have no : ¬ (k = k' ∧ R = R' ∧ W = W') → Tt (fun _ _ => okZ 0 (some ((0 : Int32), y))) Q := fun h9 => w_okZ (Or.inl rfl) (w_some ⟨Or.inr ⟨rfl, h9⟩, rfl⟩)
  have c1 : k = k' → R = R' → Ls.length = Ls'.length → ∀ (d i : Nat), i + d = Ls.length → (∀ j, j < i → W[j]? = W'[j]?) → Tt (fun K t => c_X10_sameAs vl K t 1 (nI i) h g y) Q := by
    intro ek eR el d
    induction d with
    | zero =>
      intro i hi hw
      have eW : W = W' := List.ext_getElem? (fun j => by
        by_cases c : j < i
        · exact hw j c
        · rw [List.getElem?_eq_none (by omega), List.getElem?_eq_none (by omega)])
      refine u_X10_sameAs_1 ?_; unfold cm_X10_sameAs_1
      exact w_rdF t4 (w_leT (by omega) (by omega) (w_okZ (Or.inr rfl) (w_some ⟨Or.inl ⟨rfl, ek, eR, eW⟩, rfl⟩)))
    | succ d ih =>
      intro i hi hw
      have e1 : W[i]? = some (W[i]'(by omega)) := List.getElem?_eq_getElem (by omega)
      have e2 : W'[i]? = some (W'[i]'(by omega)) := List.getElem?_eq_getElem (by omega)
      obtain ⟨j, j1, j2⟩ := hord i _ e1
      obtain ⟨j', j1', j2'⟩ := hord' i _ e2
      obtain ⟨r1, r2, r3⟩ := hrow j _ j2
      obtain ⟨r1', r2', r3'⟩ := hrow' j' _ j2'
      have jl := (List.getElem?_eq_some_iff.mp j2).1
      have jl' := (List.getElem?_eq_some_iff.mp j2').1
      refine u_X10_sameAs_1 ?_; unfold cm_X10_sameAs_1
      refine w_rdF t4 (w_leF (by omega) (by omega) (w_crI (sO_6 hh) rfl (show i < 201 by omega) j1 (w_crI (sO_6 hg) rfl (show i < 201 by omega) j1' ?_)))
      rw [m20, m20, nI_1]
      have lh : (W[i].map (pkG m.1)).length = (W'[i].map (pkG m.1)).length := by rw [List.length_map, List.length_map, r1, r1', eR]
      refine w_cs1 (xc_compare (a := 20 * j) (b := 20 * j') (L := W[i].map (pkG m.1)) (M := W'[i].map (pkG m.1)) t3 (by omega) (sO_5 hh) (sO_5 hg) (by omega) (by omega) (by omega) (by omega) (by rw [List.length_map]; exact r1) (by rw [List.length_map, r1', eR]) r3 r3') ?_
      rintro v z ⟨ev, e9⟩
      dsimp only at ev e9
      rw [e9, ev]
      by_cases ec : cmpL (W[i].map (pkG m.1)) (W'[i].map (pkG m.1)) = 0
      · rw [ec]
        refine w_ifT rfl (ih (i + 1) (by omega) (fun q hq => ?_))
        by_cases eq : q = i
        · rw [eq, e1, e2, pk_inj _ _ r2 r2' (cm_0 _ _ lh ec)]
        · exact hw q (by omega)
      · refine w_ifF (fun h9 => ?_) (no (fun h9 => ec ?_))
        · rcases cm_v (W[i].map (pkG m.1)) (W'[i].map (pkG m.1)) with f9 | f9 | f9
          · exact ec f9
          · rw [f9] at h9
            exact absurd h9 (by decide)
          · rw [f9] at h9
            exact absurd h9 (by decide)
        · have e8 := h9.2.2
          have e6 : W[i]? = W'[i]? := congrArg (fun X => X[i]?) e8
          have e7 : W[i]'(by omega) = W'[i]'(by omega) := Option.some.inj (e1.symm.trans (e6.trans e2))
          rw [e7]
          exact cm_rf _
  refine e_X10_sameAs ?_
  refine u_X10_sameAs_0 ?_; unfold cm_X10_sameAs_0
  refine w_rdF s1 (w_rdF s2 (w_ifT rfl (w_rdF t2 (w_rdF u2 (w_if (fun ek => w_rdF t3 (w_rdF u3 (w_eqN (by omega) (by omega) (fun eR => w_rdF t4 (w_rdF u4 (w_eqN (by omega) (by omega) (fun el => ?_) (fun el => no (fun h9 => el ?_))))) (fun eR => no (fun h9 => eR h9.2.1))))) (fun ek => no (fun h9 => ek (by rw [h9.1]))))))))
  · exact c1 ((iI_eq (by omega) (by omega) (by omega) (by omega)).mp ek) eR el Ls.length 0 (by omega) (fun j hj => absurd hj (Nat.not_lt_zero _))
  · rw [← wl, ← wl', h9.2.2]
end XSBB
end
section
/-! 99zzzzzzzzzzzzzzzx.xsmc -/
/-! summit and conjugate: the answers are one; summit of both sides -/
theorem pw_un {α : Type} {r : α → α → Prop} (hi : ∀ a b, r a b → r b a → False) : ∀ (A B : List α), A.Pairwise r → B.Pairwise r → (∀ x, x ∈ A ↔ x ∈ B) → A = B
  | [], [], _, _, _ => rfl
  | [], b :: B, _, _, h => absurd ((h b).mpr List.mem_cons_self) List.not_mem_nil
  | a :: A, [], _, _, h => absurd ((h a).mp List.mem_cons_self) List.not_mem_nil
  | a :: A, b :: B, hA, hB, h => by
    rw [List.pairwise_cons] at hA hB
    have e : a = b := by
      rcases List.mem_cons.mp ((h a).mp List.mem_cons_self) with h1 | h1
      · exact h1
      · rcases List.mem_cons.mp ((h b).mpr List.mem_cons_self) with h3 | h3
        · exact h3.symm
        · exact (hi a b (hA.1 b h3) (hB.1 a h1)).elim
    subst e
    rw [pw_un hi A B hA.2 hB.2 (fun x => ⟨fun hx => ?_, fun hx => ?_⟩)]
    · rcases List.mem_cons.mp ((h x).mp (List.mem_cons_of_mem _ hx)) with h1 | h1
      · exact (hi a a (by have := hA.1 x hx; rw [h1] at this; exact this) (by have := hA.1 x hx; rw [h1] at this; exact this)).elim
      · exact h1
    · rcases List.mem_cons.mp ((h x).mpr (List.mem_cons_of_mem _ hx)) with h1 | h1
      · exact (hi a a (by have := hB.1 x hx; rw [h1] at this; exact this) (by have := hB.1 x hx; rw [h1] at this; exact this)).elim
      · exact h1
theorem lt_as {n : Nat} (A B : List Nat) (h1 : ltF n A B) (h2 : ltF n B A) : False := by
  have := cm_tr _ _ _ h1 h2
  rw [cm_rf] at this
  exact absurd this (by decide)
section XSCC
variable {m : N5}
/-- a set of more than 200, of just c -/
def opS (a : Gn m) : Prop := ∃ (k : Int) (R : Nat), nrs a k ∧ nls a (k + (R : Int)) ∧ smB a k R
def clS (a : Gn m) (c : Nat) : Prop := ∃ (k : Int) (R : Nat), nrs a k ∧ nls a (k + (R : Int)) ∧ (∃ F, sss a k R F) ∧ c ≤ 200 ∧ cnt9 (sss a k R) c
theorem opt_uni {a : Gn m} {k k' : Int} {R R' : Nat} {F F' : List Nat} (h1 : nrs a k) (h2 : nls a (k + (R : Int))) (h3 : sss a k R F) (h1' : nrs a k') (h2' : nls a (k' + (R' : Int))) (h3' : sss a k' R' F') : k = k' ∧ R = R' := by
  obtain ⟨n, l, hF, x, e⟩ := h3
  obtain ⟨n', l', hF', x', e2⟩ := h3'
  have a1 : ¬ k + 1 ≤ k' := fun h9 => h1 x' (by rw [← e2]; exact (inf_F n').mpr h9)
  have a2 : ¬ k' + 1 ≤ k := fun h9 => h1' x (by rw [← e]; exact (inf_F n).mpr h9)
  have a3 : ¬ k + (F.length : Int) ≤ k' + (R' : Int) - 1 := fun h9 => h2' x (by rw [← e]; exact (sup_F n).mpr h9)
  have a4 : ¬ k' + (F'.length : Int) ≤ k + (R : Int) - 1 := fun h9 => h2 x' (by rw [← e2]; exact (sup_F n').mpr h9)
  rw [l] at a3
  rw [l'] at a4
  omega
theorem smB_s {a : Gn m} {k : Int} {R : Nat} (h : smB a k R) : ∃ F, sss a k R F := by
  obtain ⟨Ls, h1, h2, h3⟩ := h
  exact ⟨Ls[0], h3 _ (List.getElem_mem (by omega))⟩
theorem op_cl {a : Gn m} {c : Nat} (h : opS a) (h' : clS a c) : False := by
  obtain ⟨k, R, q1, q2, q3⟩ := h
  obtain ⟨k', R', q1', q2', ⟨F', q3'⟩, q4, L', q5, q6, q7⟩ := h'
  obtain ⟨F, hF⟩ := smB_s q3
  obtain ⟨rfl, rfl⟩ := opt_uni q1 q2 hF q1' q2' q3'
  obtain ⟨Ls, s1, s2, s3⟩ := q3
  have := nodup_le Ls L' s1 (fun F hF => (q6 F).mpr (s3 F hF))
  omega
theorem cl_cl {a : Gn m} {c c' : Nat} (h : clS a c) (h' : clS a c') : c = c' := by
  obtain ⟨k, R, q1, q2, ⟨F, q3⟩, -, q5⟩ := h
  obtain ⟨k', R', q1', q2', ⟨F', q3'⟩, -, q5'⟩ := h'
  obtain ⟨rfl, rfl⟩ := opt_uni q1 q2 q3 q1' q2' q3'
  exact cnt_uni q5 q5'
/-- what summit answers -/
def smV9 (a : Gn m) (v : Int32) : Prop := v = -2 ∧ opS a ∨ ∃ c, v = nI c ∧ clS a c
theorem sm_uni {a : Gn m} {v v' : Int32} (h : smV9 a v) (h' : smV9 a v') : v = v' := by
  rcases h with ⟨e, h⟩ | ⟨c, e, h⟩
  · rcases h' with ⟨e2, h'⟩ | ⟨c', e2, h'⟩
    · exact e.trans e2.symm
    · exact (op_cl h h').elim
  · rcases h' with ⟨e2, h'⟩ | ⟨c', e2, h'⟩
    · exact (op_cl h' h).elim
    · rw [e, e2, cl_cl h h']
/-- conjugate ones have the same set -/
theorem nrs_c {a b x : Gn m} {k : Int} (e : b = cnj x a) (h : nrs a k) : nrs b k := fun y => by
  rw [e, ← cnj_m]
  exact h _
theorem nls_c {a b x : Gn m} {s : Int} (e : b = cnj x a) (h : nls a s) : nls b s := fun y => by
  rw [e, ← cnj_m]
  exact h _
theorem cj_bk {a b x : Gn m} (e : b = cnj x a) : a = cnj (gi x) b := by
  have h := cnj_all e (g1 m)
  rw [cnj_1] at h
  rw [h]
  congr 1
  exact g1_r _
theorem sss_c {a b x : Gn m} {k : Int} {R : Nat} {F : List Nat} (e : b = cnj x a) (h : sss a k R F) : sss b k R F := by
  obtain ⟨n, l, hF, y, ey⟩ := h
  refine ⟨n, l, hF, gm (gi x) y, ?_⟩
  rw [ey]
  exact cnj_all e y
theorem cl_c {a b x : Gn m} {c : Nat} (e : b = cnj x a) (h : clS a c) : clS b c := by
  obtain ⟨k, R, q1, q2, ⟨F, q3⟩, q4, L, q5, q6, q7⟩ := h
  exact ⟨k, R, nrs_c e q1, nls_c e q2, ⟨F, sss_c e q3⟩, q4, L, q5, fun F => (q6 F).trans ⟨sss_c e, sss_c (cj_bk e)⟩, q7⟩
/-- what conjugate answers -/
def cjV9 (a b : Gn m) (v : Int32) : Prop := v = -2 ∧ (opS a ∨ opS b) ∨ (∃ c, clS a c) ∧ (∃ c, clS b c) ∧ (v = 1 ∧ (∃ x, b = cnj x a) ∨ v = 0 ∧ ¬ ∃ x, b = cnj x a)
theorem cv_uni {a b : Gn m} {v v' : Int32} (h : cjV9 a b v) (h' : cjV9 a b v') : v = v' := by
  have no : (opS a ∨ opS b) → (∃ c, clS a c) → (∃ c, clS b c) → False := fun h ⟨c, h1⟩ ⟨c', h2⟩ => h.elim (fun h9 => op_cl h9 h1) (fun h9 => op_cl h9 h2)
  rcases h with ⟨e, h⟩ | ⟨h1, h2, h3⟩
  · rcases h' with ⟨e2, h'⟩ | ⟨h1', h2', h3'⟩
    · exact e.trans e2.symm
    · exact (no h h1' h2').elim
  · rcases h' with ⟨e2, h'⟩ | ⟨h1', h2', h3'⟩
    · exact (no h' h1 h2).elim
    · rcases h3 with ⟨e, h3⟩ | ⟨e, h3⟩
      · rcases h3' with ⟨e2, h3'⟩ | ⟨e2, h3'⟩
        · exact e.trans e2.symm
        · exact absurd h3 h3'
      · rcases h3' with ⟨e2, h3'⟩ | ⟨e2, h3'⟩
        · exact absurd h3' h3
        · exact e.trans e2.symm
end XSCC
section XSCD
variable {n : Nat}
theorem fo_bd {w : Nat → Nat × Bool} : ∀ (l : Nat), (foT n w l).1.length = l ∧ -(l : Int) ≤ (foT n w l).2 ∧ (foT n w l).2 ≤ 0
  | 0 => ⟨rfl, by show -((0 : Nat) : Int) ≤ (0 : Int); omega, Int.le_refl _⟩
  | l + 1 => by
    obtain ⟨h1, h2, h3⟩ := fo_bd (w := w) l
    have e : foT n w (l + 1) = stB9 n (w l) (foT n w l) := rfl
    rw [e]
    unfold stB9
    split
    · refine ⟨?_, ?_, ?_⟩
      · simp [h1]
      · show -((l + 1 : Nat) : Int) ≤ (foT n w l).2 - 1
        omega
      · show (foT n w l).2 - 1 ≤ 0
        omega
    · refine ⟨?_, ?_, ?_⟩
      · simp [h1]
      · show -((l + 1 : Nat) : Int) ≤ (foT n w l).2
        omega
      · exact h3
theorem fo_cg {w w' : Nat → Nat × Bool} : ∀ (l : Nat), (∀ i, i < l → w i = w' i) → foT n w l = foT n w' l
  | 0, _ => rfl
  | l + 1, h => by
    show stB9 n (w l) (foT n w l) = stB9 n (w' l) (foT n w' l)
    rw [h l (Nat.lt_succ_self _), fo_cg l (fun i hi => h i (by omega))]
theorem lx_inj {p q : Nat × Bool} (hp : p.1 + 1 < 10) (hq : q.1 + 1 < 10) (h : lx9 p = lx9 q) : p = q := by
  have key : ∀ (a b : Fin 10) (s t : Bool), lx9 (a.1, s) = lx9 (b.1, t) → a = b ∧ s = t := by decide
  obtain ⟨a, s⟩ := p
  obtain ⟨b, t⟩ := q
  have hp : a + 1 < 10 := hp
  have hq : b + 1 < 10 := hq
  obtain ⟨k1, k2⟩ := key ⟨a, by omega⟩ ⟨b, by omega⟩ s t h
  cases k1
  cases k2
  rfl
theorem fo_sl (m : N5) {w : Nat → Nat × Bool} {l j : Nat} {F : List Nat} (h0 : okT m.1 (foT m.1 w l).1) (f1 : nfL m.1 F) (f2 : eqT m.1 (foT m.1 w l).1 (List.replicate j (gNN m.1 - 1) ++ F)) : F.length + j ≤ l := by
  have e := F_eq (m := m) (k := 0) (hT := h0) (hF := f1.1) f2
  have a1 : gle (gF m 0 (foT m.1 w l).1 h0) (gD m ((foT m.1 w l).1.length : Int)) := by
    unfold gF
    have : gD m 0 = g1 m := rfl
    rw [this, g1_l]
    exact sup_le _
  rw [e] at a1
  have := (sup_F f1).mp a1
  have := (fo_bd (n := m.1) (w := w) l).1
  omega
def smW (n l : Nat) (w : Nat → Nat × Bool) (v : Int32) : Prop := ∃ (hn : 2 ≤ n ∧ n ≤ 5) (h : okT n (foT n w l).1), smV9 (gF ⟨n, hn⟩ (foT n w l).2 (foT n w l).1 h) v
theorem smW_uni {l : Nat} {w w' : Nat → Nat × Bool} {v v' : Int32} (hw : ∀ i, i < l → w i = w' i) (h : smW n l w v) (h' : smW n l w' v') : v = v' := by
  unfold smW at h h'
  rw [← fo_cg l hw] at h'
  obtain ⟨hn, h1, h2⟩ := h
  obtain ⟨hn', h1', h2'⟩ := h'
  exact sm_uni h2 h2'
def cjW9 (n l : Nat) (w : Nat → Nat × Bool) (l' : Nat) (w' : Nat → Nat × Bool) (v : Int32) : Prop := ∃ (hn : 2 ≤ n ∧ n ≤ 5) (h : okT n (foT n w l).1) (h' : okT n (foT n w' l').1), cjV9 (gF ⟨n, hn⟩ (foT n w l).2 (foT n w l).1 h) (gF ⟨n, hn⟩ (foT n w' l').2 (foT n w' l').1 h') v
theorem cjW9_uni {l l' : Nat} {w w' u u' : Nat → Nat × Bool} {v v' : Int32} (hw : ∀ i, i < l → w i = u i) (hw' : ∀ i, i < l' → w' i = u' i) (h : cjW9 n l w l' w' v) (h' : cjW9 n l u l' u' v') : v = v' := by
  unfold cjW9 at h h'
  rw [← fo_cg l hw, ← fo_cg l' hw'] at h'
  obtain ⟨hn, h1, h2, h3⟩ := h
  obtain ⟨hn', h1', h2', h3'⟩ := h'
  exact cv_uni h3 h3'
end XSCD
end
section
/-! 99zzzzzzzzzzzzzzzy.xsmd -/
/-! summit answers the same -/
section XSDA
variable {X : (Nat → Nat → Int32) → Prop} {z y : ow_MS} {vl : Nat → Nat} {x x' : Int32}
def lwR (z : ow_MS) (b n l : Nat) (w : Nat → Nat × Bool) : Prop := ∀ i, i < l → (w i).1 + 1 < n ∧ z.2.1 94 (16 * b + i) = lx9 (w i)
theorem rd_w {b n l : Nat} (h : hBr z b n l) : ∃ w : Nat → Nat × Bool, lwR z b n l w := by
  refine Classical.axiomOfChoice (r := fun i p => i < l → p.1 + 1 < n ∧ z.2.1 94 (16 * b + i) = lx9 p) (fun i => ?_)
  by_cases hi : i < l
  · obtain ⟨a, a1, a2 | a2⟩ := h.2.2.2.2.2 i hi
    · exact ⟨(a, false), fun _ => ⟨a1, a2⟩⟩
    · exact ⟨(a, true), fun _ => ⟨a1, a2⟩⟩
  · exact ⟨(0, false), fun h9 => absurd h9 hi⟩
theorem lw_same {b n l : Nat} {w u : Nat → Nat × Bool} (h5 : n ≤ 5) (h : lwR z b n l w) (h' : lwR z b n l u) : ∀ i, i < l → w i = u i := fun i hi => lx_inj (by have := (h i hi).1; omega) (by have := (h' i hi).1; omega) ((h i hi).2.symm.trans (h' i hi).2)
theorem xr_sumB (m : N5) {b l : Nat} {w : Nat → Nat × Bool} (hb : b < 20) (hh : hBr z b m.1 l) (hT : tbG z) (hwd : lwR z b m.1 l w) (h0 : okT m.1 (foT m.1 w l).1) : Te (fun K => qe_X13_summitOf K (nI b) z) (fun z1 => (∃ k F, smF z1 m (gF m (foT m.1 w l).2 (foT m.1 w l).1 h0) k F) ∧ fr nmH z z1) := by
  obtain ⟨b1, b2, b3⟩ := fo_bd (n := m.1) (w := w) l
  have hl := hh.2.2.1
  exact xr_summitOf hb hh hT hwd ⟨h0, rfl⟩ (by omega) (by omega) (by omega)
theorem smF_s {m : N5} {a : Gn m} {k : Int} {F : List Nat} (h : smF z m a k F) : sss a k F.length F := by
  obtain ⟨s1, s3, s2, s4, s5, s6, s7, s8, s9⟩ := h
  exact ⟨s6, rfl, s7⟩
theorem smF_cl {m : N5} {a : Gn m} {k : Int} {F : List Nat} {Ls : List (List Nat)} (h : smF z m a k F) (hl : Ls.length ≤ 200) (hn : Ls.Nodup) (hs : ∀ G, G ∈ Ls ↔ sss a k F.length G) : clS a Ls.length := by
  have := smF_s h
  obtain ⟨s1, s3, s2, s4, s5, s6, s7, s8, s9⟩ := h
  exact ⟨k, F.length, s8, s9, ⟨F, this⟩, hl, Ls, hn, hs, rfl⟩
theorem smF_op {m : N5} {a : Gn m} {k : Int} {F : List Nat} (h : smF z m a k F) (hs : smB a k F.length) : opS a := by
  obtain ⟨s1, s3, s2, s4, s5, s6, s7, s8, s9⟩ := h
  exact ⟨k, F.length, s8, s9, hs⟩
theorem xq_summit (h : gI X z) (hG : ∀ W, X W → XG W) : Te (fun K => qe_X13_summit K x z) (fun r => (r.2.1 1 = nI 1 ∧ noB (z.2.1 96) x ∨ ∃ b n l w, b < 20 ∧ x = nI b ∧ hBr z b n l ∧ lwR z b n l w ∧ (n = 5 ∧ r.2.1 1 = nI 2 ∨ n ≤ 4 ∧ r.2.1 1 = 0 ∧ smW n l w r.1))) := by
  have h1 := gI_1 (c := 0) h
  have e10 : (usF z 1 0).1 1 = 0 := po_usF_at
  refine e_X13_summit ?_; unfold qm_X13_summit_0
  refine w_wrF (w_hasBX h1.2.2.2.2.2.1 (fun h0 => w_ifT rfl (w_mono (w_failX (k := 1) h1 fr_1) (fun r hr => Or.inl ⟨hr.2.1, h0⟩))) (fun b n l hc hx hh => w_ifF (by decide) ?_))
  subst hx
  obtain ⟨w, hw⟩ := rd_w hh
  have hn2 := hh.1
  have hn5 := hh.2.1
  have h0 : okT n (foT n w l).1 := fo_ok hn2 hn5 l (fun j hj => (hw j hj).1)
  refine w_rdI ml96 rfl (by omega) hh.2.2.2.1 (w_eqN (b := 5) (by omega) (by omega) (fun e5 => w_mono (w_failX (k := 2) h1 fr_1) (fun r hr => Or.inr ⟨b, n, l, w, hc, rfl, hh, hw, Or.inl ⟨e5, hr.2.1⟩⟩)) (fun e5 => ?_))
  have n4 : n ≤ 4 := by omega
  refine w_cs0 (xr_sumB ⟨n, hn2, hn5⟩ hc hh (gI_tb hG h1) hw h0) ?_
  rintro y ⟨⟨k, F, sf⟩, f1⟩
  have hB1 := gI_nm f1 h1
  have e96 : y.2.1 96 b = nI n := by rw [(f1 96 (by unfold nmH; omega)).2.1]; exact hh.2.2.2.1
  have e1 : y.1 1 = 0 := (f1 1 (by unfold nmH; omega)).1.trans e10
  refine w_rdI ml96 rfl (by omega) e96 (w_cs1 (xr_allForms (gI_tb hG hB1) sf) (fun v y2 ⟨hv, f2⟩ => ?_))
  dsimp only at hv f2
  have e2 : y2.1 1 = 0 := (f2 1 (by unfold afH; omega)).1.trans e1
  have fin : ∀ v, smW n l w v → Tt (fun _ _ => some (v, y2)) (fun r => (r.2.1 1 = nI 1 ∧ noB (z.2.1 96) (nI b) ∨ ∃ b' n l w, b' < 20 ∧ nI b = nI b' ∧ hBr z b' n l ∧ lwR z b' n l w ∧ (n = 5 ∧ r.2.1 1 = nI 2 ∨ n ≤ 4 ∧ r.2.1 1 = 0 ∧ smW n l w r.1))) := fun v hv => w_some (Or.inr ⟨b, n, l, w, hc, rfl, hh, hw, Or.inr ⟨n4, e2, hv⟩⟩)
  rcases hv with ⟨v1, Ls, a1, a2, a3, a4⟩ | ⟨v0, a1⟩
  · rw [v1]
    exact w_ifF (by decide) (w_rdF a1.1 (fin _ ⟨⟨hn2, hn5⟩, h0, Or.inr ⟨_, rfl, smF_cl sf a2 a3 a4⟩⟩))
  · rw [v0]
    exact w_ifT rfl (fin _ ⟨⟨hn2, hn5⟩, h0, Or.inl ⟨rfl, smF_op sf a1⟩⟩)
theorem xc_needFew {b n : Nat} (hb : b < 20) (hn : n ≤ 5) (e15 : y.2.1 15 b = nI n) : Te (fun K => ce_X11_needFewStrands vl K 0 (nI b) y) (fun r => r.2 = y ∧ (r.1 = 0 ∧ n ≤ 4 ∨ r.1 = 4 ∧ n = 5)) := by
  refine e_X11_needFewStrands ?_; unfold cm_X11_needFewStrands_0
  exact w_crI ch_15 rfl hb e15 (w_lt (b := 5) (by omega) (by omega) (fun _ => w_some ⟨rfl, Or.inl ⟨rfl, by omega⟩⟩) (fun _ => w_some ⟨rfl, Or.inr ⟨rfl, by omega⟩⟩))
theorem wr_fo (m : N5) {h : Nat} {w : Nat → Nat × Bool} {l j : Nat} {F : List Nat} (hl : l ≤ 16) (h0 : okT m.1 (foT m.1 w l).1) (q1 : foA y h m.1 (iI ((foT m.1 w l).2 + (j : Nat))) (F.map (pkG m.1))) (q3 : nfL m.1 F) (q5 : eqT m.1 (foT m.1 w l).1 (List.replicate j (gNN m.1 - 1) ++ F)) : foC y h m ((foT m.1 w l).2 + (j : Nat)) F ∧ bdF9 ((foT m.1 w l).2 + (j : Nat)) F ∧ ∃ h x, gF m ((foT m.1 w l).2 + (j : Nat)) F h = cnj x (gF m (foT m.1 w l).2 (foT m.1 w l).1 h0) := by
  obtain ⟨b1, b2, b3⟩ := fo_bd (n := m.1) (w := w) l
  have b4 := fo_sl m h0 q3 q5
  refine ⟨⟨q1, q3, by omega, by omega⟩, ⟨by omega, by omega, by omega⟩, q3.1, g1 m, ?_⟩
  rw [cnj_1]
  exact (F_eq q5).symm
theorem fn_sm {m : N5} {h : Nat} {a : Gn m} {v : Int32} {k : Int} {R : Nat} {Ls W : List (List Nat)} (h0 : fnC y h m a v k R Ls W) : v = -2 ∧ opS a ∨ v ≠ -2 ∧ v = nI Ls.length ∧ clS a Ls.length := by
  obtain ⟨s1, s2, s3, s4, s5, s6, s7, ⟨F, s8⟩, s9⟩ := h0
  obtain ⟨t1, t2, t3, t4, t5, t6, t7⟩ := s1
  rcases s9 with ⟨e, hl, hi⟩ | ⟨e, hl⟩
  · refine Or.inr ⟨fun h9 => ?_, e, k, R, s3, s4, ⟨F, s5 F s8⟩, hl, Ls, t7, hi, rfl⟩
    rw [e, nI_iI, show (-2 : Int32) = iI (-2) from rfl] at h9
    have := (iI_eq (by omega) (by omega) (by omega) (by omega)).mp h9
    omega
  · exact Or.inl ⟨e, k, R, s3, s4, Ls, t7, hl, s5⟩
theorem xc_summit (hB : brC y) : Te (fun K => ce_X11_summit vl K 0 x y) (fun r => r.1 = 1 ∧ noB (y.2.1 15) x ∨ ∃ b n l w, brW y x b n l w ∧ (r.1 = 4 ∧ n = 5 ∨ r.1 = 0 ∧ n ≤ 4 ∧ smW n l w r.2.1)) := by
  refine e_X11_summit ?_; unfold cm_X11_summit_0
  refine w_tc0 (tc_needBraid (brC_E hB)) ?_ ?_
  · rintro y1 ⟨h1, rfl⟩
    rcases h1 with ⟨-, hb⟩ | h1
    · obtain ⟨b, n, l, hb20, rfl, hn2, hn5, e15, l16, e14, hwd⟩ := isB_w hB hb
      obtain ⟨w, hw⟩ := wd_w hwd
      have hW : brW y1 (nI b) b n l w := ⟨hb20, rfl, hn2, hn5, e15, l16, e14, hw⟩
      have h0 : okT n (foT n w l).1 := fo_ok hn2 hn5 l (fun j hj => (hw j hj).1)
      refine w_tc0 (xc_needFew hb20 hn5 e15) ?_ ?_
      · rintro y2 ⟨e2, h2⟩
        dsimp only at e2 h2
        rw [e2]
        rcases h2 with ⟨-, n4⟩ | h2
        · refine w_cs0 (xc_writeF fo46 hn2 hn5 hb20 e15 l16 e14 hw) ?_
          rintro y3 ⟨F, j, k1, k3, k4, k5, k2⟩
          obtain ⟨p1, p2, p3⟩ := wr_fo ⟨n, hn2, hn5⟩ l16 h0 k1 k3 k5
          refine w_cs1 (xc_findS so48 fo46 (by omega) n4 p1 p2 p3) ?_
          rintro v y4 ⟨⟨k, R, Ls, W, q1⟩, q2⟩
          dsimp only at q1 q2
          refine w_some (Or.inr ⟨b, n, l, w, hW, Or.inr ⟨rfl, n4, ⟨hn2, hn5⟩, h0, ?_⟩⟩)
          rcases fn_sm q1 with ⟨e, q3⟩ | ⟨-, e, q3⟩
          · exact Or.inl ⟨e, q3⟩
          · exact Or.inr ⟨_, e, q3⟩
        · exact absurd h2.1 (by decide)
      · rintro a y2 ha ⟨e2, h2⟩
        dsimp only at e2 h2
        rcases h2 with ⟨h2, -⟩ | ⟨h2, n5⟩
        · exact absurd h2 ha
        · exact w_some (Or.inr ⟨b, n, l, w, hW, Or.inl ⟨h2, n5⟩⟩)
    · exact absurd (show (0 : Nat) = 1 from h1.1) (by decide)
  · rintro a y1 ha ⟨h1, rfl⟩
    rcases h1 with h1 | h1
    · exact absurd h1.1 ha
    · exact w_some (Or.inl ⟨h1.1, h1.2⟩)
theorem no_z {b n l : Nat} {w : Nat → Nat × Bool} (hR : relB z y) (r2 : noB (z.2.1 96) x) (hW : brW y x b n l w) : False := by
  obtain ⟨w1, w2, w3, w4, w5, -⟩ := hW
  have := r2 b w1 w2
  rw [(hR b w1).1, w5] at this
  exact absurd this (nI_ne0 (by omega) (by omega))
theorem no_y {b n l : Nat} (hR : relB z y) (c2 : noB (y.2.1 15) x) (hb : b < 20) (hx : x = nI b) (hh : hBr z b n l) : False := by
  have := c2 b hb hx
  rw [← (hR b hb).1, hh.2.2.2.1] at this
  exact absurd this (nI_ne0 (by have := hh.1; omega) (by have := hh.2.1; omega))
theorem c_summit (hG : ∀ W, X W → XG W) (h : rel3 X z y) : Te (fun K => qe_X13_summit K x z) (fun rr => Te (fun K => ce_X11_summit vl K 0 x y) (fun rc => rel3 X rr.2 rc.2.2 ∧ ansI [(1, 1), (2, 4)] rr rc)) := by
  have hI := r3_g h
  have hB := h.2.2.2.2.1
  have hR := h.2.2.2.1
  refine te_two (te_fo (te_and (tp_summit (b := x) hG hI) (xq_summit (x := x) hI hG)) (fun K => ff_X13_summit)) (te_fo (xc_summit (x := x) hB) (fun K => ff_X11_summit)) (fun rr rc ⟨⟨hgI, hr⟩, fR⟩ ⟨hc, fC⟩ => ⟨rel3_nf fR fC (pf_nf (by decide)) (fun g hg => by omega) hgI h, ?_⟩)
  rcases hr with ⟨r1, r2⟩ | ⟨b, n, l, u, hb, hx, hh, hu, hr⟩
  · rcases hc with ⟨c1, -⟩ | ⟨b, n, l, w, hW, -⟩
    · exact Or.inr ⟨1, 1, by simp, r1, c1⟩
    · exact (no_z hR r2 hW).elim
  · rcases hc with ⟨c1, c2⟩ | ⟨b', n', l', w, hW, hc⟩
    · exact (no_y hR c2 hb hx hh).elim
    · obtain ⟨rfl, rfl, rfl, hwz⟩ := br_same hR hb hx hh hW
      rcases hr with ⟨e5, r1⟩ | ⟨e4, r1, r2⟩
      · rcases hc with ⟨c1, -⟩ | ⟨-, c2, -⟩
        · exact Or.inr ⟨2, 4, by simp, r1, c1⟩
        · omega
      · rcases hc with ⟨-, c2⟩ | ⟨c1, -, c3⟩
        · omega
        · exact Or.inl ⟨r1, c1, smW_uni (lw_same hh.2.1 hu hwz) r2 c3⟩
end XSDA
end
section
/-! 99zzzzzzzzzzzzzzzz.xsme -/
/-! conjugate answers the same -/
section XSEA
variable {X : (Nat → Nat → Int32) → Prop} {z y : ow_MS} {vl : Nat → Nat} {x x' : Int32}
theorem xq_conjugate (h : gI X z) (hG : ∀ W, X W → XG W) : Te (fun K => qe_X13_conjugate K x x' z) (fun r => (r.2.1 1 = nI 1 ∧ (noB (z.2.1 96) x ∨ noB (z.2.1 96) x') ∨ ∃ b n l w b' n' l' w', b < 20 ∧ x = nI b ∧ hBr z b n l ∧ lwR z b n l w ∧ b' < 20 ∧ x' = nI b' ∧ hBr z b' n' l' ∧ lwR z b' n' l' w' ∧ (n ≠ n' ∧ r.2.1 1 = nI 2 ∨ n = n' ∧ n = 5 ∧ r.2.1 1 = nI 3 ∨ n = n' ∧ n ≤ 4 ∧ r.2.1 1 = 0 ∧ cjW9 n l w l' w' r.1))) := by
  have h1 := gI_1 (c := 0) h
  have e10 : (usF z 1 0).1 1 = 0 := po_usF_at
  let Q : Int32 × ow_MS → Prop := fun r => (r.2.1 1 = nI 1 ∧ (noB (z.2.1 96) x ∨ noB (z.2.1 96) x') ∨ ∃ b n l w b' n' l' w', b < 20 ∧ x = nI b ∧ hBr z b n l ∧ lwR z b n l w ∧ b' < 20 ∧ x' = nI b' ∧ hBr z b' n' l' ∧ lwR z b' n' l' w' ∧ (n ≠ n' ∧ r.2.1 1 = nI 2 ∨ n = n' ∧ n = 5 ∧ r.2.1 1 = nI 3 ∨ n = n' ∧ n ≤ 4 ∧ r.2.1 1 = 0 ∧ cjW9 n l w l' w' r.1))
  have c1 : (noB (z.2.1 96) x ∨ noB (z.2.1 96) x') → Tt (fun K i => q_X13_conjugate K i 1 x x' (usF z 1 0)) Q := by
    intro hv
    refine u_X13_conjugate_1 ?_; unfold qm_X13_conjugate_1
    exact w_mono (w_failX (k := 1) h1 fr_1) (fun r hr => Or.inl ⟨hr.2.1, hv⟩)
  refine e_X13_conjugate ?_
  refine u_X13_conjugate_0 ?_; unfold qm_X13_conjugate_0
  refine w_wrF (w_hasBX h1.2.2.2.2.2.1 (fun h0 => w_ifT rfl (c1 (Or.inl h0))) (fun b n l hc hx hh => w_ifF (by decide) (w_hasBX h1.2.2.2.2.2.1 (fun h0 => w_ifT rfl (c1 (Or.inr h0))) (fun b' n' l' hc' hx' hh' => w_ifF (by decide) ?_))))
  obtain ⟨w, hw⟩ := rd_w hh
  obtain ⟨w', hw'⟩ := rd_w hh'
  have hn2 := hh.1
  have hn5 := hh.2.1
  have hn2' := hh'.1
  have hn5' := hh'.2.1
  have fin : ∀ {r}, (n ≠ n' ∧ r.2.1 1 = nI 2 ∨ n = n' ∧ n = 5 ∧ r.2.1 1 = nI 3 ∨ n = n' ∧ n ≤ 4 ∧ r.2.1 1 = 0 ∧ cjW9 n l w l' w' r.1) → Q r := fun hr => Or.inr ⟨b, n, l, w, b', n', l', w', hc, hx, hh, hw, hc', hx', hh', hw', hr⟩
  refine w_rdI ml96 hx (by omega) hh.2.2.2.1 (w_rdI ml96 hx' (by omega) hh'.2.2.2.1 (w_eqN (by omega) (by omega) (fun en => ?_) (fun en => w_mono (w_failX (k := 2) h1 fr_1) (fun r hr => fin (Or.inl ⟨en, hr.2.1⟩)))))
  refine w_rdI ml96 hx (by omega) hh.2.2.2.1 (w_eqN (b := 5) (by omega) (by omega) (fun e5 => w_mono (w_failX (k := 3) h1 fr_1) (fun r hr => fin (Or.inr (Or.inl ⟨en, e5, hr.2.1⟩)))) (fun e5 => ?_))
  have n4 : n ≤ 4 := by omega
  rw [← en] at hh' hw'
  have h0 : okT n (foT n w l).1 := fo_ok hn2 hn5 l (fun j hj => (hw j hj).1)
  have h0' : okT n (foT n w' l').1 := fo_ok hn2 hn5 l' (fun j hj => (hw' j hj).1)
  obtain ⟨m, em⟩ : ∃ m : N5, m.1 = n := ⟨⟨n, hn2, hn5⟩, rfl⟩
  subst em
  subst hx
  subst hx'
  have fin2 : ∀ {v : Int32} {y : ow_MS}, y.1 1 = 0 → cjV9 (gF m (foT m.1 w l).2 (foT m.1 w l).1 h0) (gF m (foT m.1 w' l').2 (foT m.1 w' l').1 h0') v → Tt (fun _ _ => some (v, y)) Q := fun e hv => w_some (fin (Or.inr (Or.inr ⟨en, n4, e, ⟨hn2, hn5⟩, h0, h0', hv⟩)))
  have sb := fun (y : ow_MS) (q1 : hBr y b' m.1 l') (q2 : lwR y b' m.1 l' w') (q3 : gI X y) => xr_sumB (z := y) m hc' q1 (gI_tb hG q3) q2 h0'
  have sa := fun (y : ow_MS) (q1 : hBr y b m.1 l) (q2 : lwR y b m.1 l w) (q3 : gI X y) => xr_sumB (z := y) m hc q1 (gI_tb hG q3) q2 h0
  generalize gF m (foT m.1 w l).2 (foT m.1 w l).1 h0 = A at fin2 sa
  generalize gF m (foT m.1 w' l').2 (foT m.1 w' l').1 h0' = B at fin2 sb
  refine w_cs0 (sb _ hh' hw' h1) ?_
  rintro y1 ⟨⟨k1, F1, sf1⟩, f1⟩
  have g1' := gI_nm f1 h1
  obtain ⟨s1, s3, s2, s4, s5, s6, ⟨s7h, s7x, s7⟩, s8, s9⟩ := id sf1
  refine w_cs0 (tp_formTo (r := 118) (o := 0) ml118 (by omega) (by omega) (by omega) (by omega) s1 s3) (fun y2 ⟨p1, p2, _⟩ => ?_)
  have g2 : gI X y2 := gI_fr p2 (fun g hg => by rw [hg]; decide) g1'
  have hha : hBr y2 b m.1 l := hBr_fr p2 (by omega) (by omega) (by omega) (hBr_fr f1 (by unfold nmH; omega) (by unfold nmH; omega) (by unfold nmH; omega) hh)
  have hhb : hBr y2 b' m.1 l' := hBr_fr p2 (by omega) (by omega) (by omega) (hBr_fr f1 (by unfold nmH; omega) (by unfold nmH; omega) (by unfold nmH; omega) hh')
  have r94 : y2.2.1 94 = z.2.1 94 := (p2 94 (by omega)).2.1.trans (f1 94 (by unfold nmH; omega)).2.1
  have hwa : lwR y2 b m.1 l w := fun i hi => by rw [r94]; exact hw i hi
  have hwb : lwR y2 b' m.1 l' w' := fun i hi => by rw [r94]; exact hw' i hi
  have e12 : y2.1 1 = 0 := ((p2 1 (by omega)).1.trans (f1 1 (by unfold nmH; omega)).1).trans e10
  refine w_cs0 (sa _ hha hwa g2) ?_
  rintro y3 ⟨⟨k3, F3, sf3⟩, f3⟩
  have g3 := gI_nm f3 g2
  obtain ⟨t1, t3, t2, t4, t5, t6, t7, t8, t9⟩ := id sf3
  refine w_cs1 (xr_allForms (gI_tb hG g3) sf3) (fun v y4 ⟨hv, f4⟩ => ?_)
  dsimp only at hv f4
  have g4 := gI_af f4 g3
  have e14 : y4.1 1 = 0 := ((f4 1 (by unfold afH; omega)).1.trans (f3 1 (by unfold nmH; omega)).1).trans e12
  rcases hv with ⟨v1, Ls, a1, a2, a3, a4⟩ | ⟨v0, a1⟩
  · rw [v1]
    have cA := smF_cl sf3 a2 a3 a4
    have p4 : frwI y4 118 0 m.1 F1 k1 := frwI_fr f4 (by unfold afH; omega) (frwI_fr f3 (by unfold nmH; omega) p1)
    refine w_ifF (by decide) (w_cs1 (xr_isThere (r := 118) (Or.inr rfl) a2 a1 (fun F hF => by have := ((a4 F).mp hF).2.1; omega) p4 (by omega) (by omega) (by omega) (by omega) (by omega)) (fun v2 y5 ⟨u5, hv2⟩ => ?_))
    dsimp only at u5 hv2
    rw [u5]
    rcases hv2 with ⟨v21, ek, hm⟩ | ⟨v20, hm⟩
    · rw [v21]
      obtain ⟨_, _, hF, xa, ea⟩ := (a4 F1).mp hm
      have ec : B = cnj (gm xa (gi s7x)) A := by
        rw [cnj_m, ← ea, ← ek]
        exact cj_bk s7
      exact w_ifF (by decide) (fin2 e14 (Or.inr ⟨⟨_, cA⟩, ⟨_, cl_c ec cA⟩, Or.inl ⟨rfl, _, ec⟩⟩))
    · rw [v20]
      have nc : ¬ ∃ x, B = cnj x A := fun ⟨xx, ex⟩ => hm (by
        obtain ⟨q1, q2⟩ := opt_uni (nrs_c ex t8) (nls_c ex t9) (sss_c ex (smF_s sf3)) s8 s9 (smF_s sf1)
        refine ⟨q1.symm, (a4 F1).mpr ?_⟩
        have := sss_c (cj_bk ex) (smF_s sf1)
        rw [← q1, ← q2] at this
        exact this)
      have hhb5 : hBr y4 b' m.1 l' := hBr_fr f4 (by unfold afH; omega) (by unfold afH; omega) (by unfold afH; omega) (hBr_fr f3 (by unfold nmH; omega) (by unfold nmH; omega) (by unfold nmH; omega) hhb)
      have r944 : y4.2.1 94 = y2.2.1 94 := (f4 94 (by unfold afH; omega)).2.1.trans (f3 94 (by unfold nmH; omega)).2.1
      refine w_ifT rfl (w_cs0 (sb _ hhb5 (fun i hi => by rw [r944]; exact hwb i hi) g4) ?_)
      rintro y6 ⟨⟨k6, F6, sf6⟩, f6⟩
      have g6 := gI_nm f6 g4
      have e16 : y6.1 1 = 0 := (f6 1 (by unfold nmH; omega)).1.trans e14
      refine w_cs1 (xr_allForms (gI_tb hG g6) sf6) (fun v3 y7 ⟨hv3, f7⟩ => ?_)
      dsimp only at hv3 f7
      have e17 : y7.1 1 = 0 := (f7 1 (by unfold afH; omega)).1.trans e16
      rcases hv3 with ⟨v31, Ls3, b1, b2, b3, b4⟩ | ⟨v30, b1⟩
      · rw [v31]
        exact w_ifF (by decide) (fin2 e17 (Or.inr ⟨⟨_, cA⟩, ⟨_, smF_cl sf6 b2 b3 b4⟩, Or.inr ⟨rfl, nc⟩⟩))
      · rw [v30]
        exact w_ifT rfl (fin2 e17 (Or.inl ⟨rfl, Or.inr (smF_op sf6 b1)⟩))
  · rw [v0]
    exact w_ifT rfl (fin2 e14 (Or.inl ⟨rfl, Or.inl (smF_op sf3 a1)⟩))
theorem fn_eq {m : N5} {h g : Nat} {A B : Gn m} {v v' : Int32} {k k' : Int} {R R' : Nat} {Ls W Ls' W' : List (List Nat)} {y' : ow_MS} (h0 : fnC y h m A v k R Ls W) (g0 : fnC y' g m B v' k' R' Ls' W') (n1 : v ≠ -2) (n2 : v' ≠ -2) : (k = k' ∧ R = R' ∧ W = W') ↔ ∃ x, B = cnj x A := by
  obtain ⟨s1, s2, s3, s4, s5, s6, s7, ⟨F, s8⟩, s9⟩ := h0
  obtain ⟨t1, t2, t3, t4, t5, t6, t7, ⟨G, t8⟩, t9⟩ := g0
  have i1 : ∀ F, F ∈ W ↔ sss A k R F := fun F => by
    rw [← s1.2.2.2.2.2.1 F]
    rcases s9 with ⟨-, -, s9⟩ | ⟨s9, -⟩
    · exact s9 F
    · exact absurd s9 n1
  have i2 : ∀ F, F ∈ W' ↔ sss B k' R' F := fun F => by
    rw [← t1.2.2.2.2.2.1 F]
    rcases t9 with ⟨-, -, t9⟩ | ⟨t9, -⟩
    · exact t9 F
    · exact absurd t9 n2
  have sF := s5 F s8
  have tG := t5 G t8
  constructor
  · rintro ⟨rfl, rfl, rfl⟩
    obtain ⟨_, _, hF, xa, ea⟩ := sF
    obtain ⟨_, _, hF', xb, eb⟩ := (i2 F).mp ((i1 F).mpr (s5 F s8))
    refine ⟨gm xa (gi xb), ?_⟩
    rw [cnj_m, ← ea]
    exact cj_bk eb
  · rintro ⟨xx, ex⟩
    obtain ⟨e1, e2⟩ := opt_uni (nrs_c ex s3) (nls_c ex s4) (sss_c ex sF) t3 t4 tG
    refine ⟨e1, e2, pw_un lt_as W W' s1.2.2.2.2.1 t1.2.2.2.2.1 (fun F => ?_)⟩
    rw [i1, i2, ← e1, ← e2]
    exact ⟨sss_c ex, sss_c (cj_bk ex)⟩
theorem xc_conjugate (hB : brC y) : Te (fun K => ce_X11_conjugate vl K 0 x x' y) (fun r => r.1 = 1 ∧ (noB (y.2.1 15) x ∨ noB (y.2.1 15) x') ∨ ∃ b n l w b' n' l' w', brW y x b n l w ∧ brW y x' b' n' l' w' ∧ (n ≠ n' ∧ r.1 = 2 ∨ n = n' ∧ n = 5 ∧ r.1 = 4 ∨ n = n' ∧ n ≤ 4 ∧ r.1 = 0 ∧ cjW9 n l w l' w' r.2.1)) := by
  refine e_X11_conjugate ?_; unfold cm_X11_conjugate_0
  refine w_tc0 (tc_needBraid (brC_E hB)) ?_ ?_
  · rintro y1 ⟨h1, rfl⟩
    rcases h1 with ⟨-, hb⟩ | h1
    · obtain ⟨b, n, l, hb20, rfl, hn2, hn5, e15, l16, e14, hwd⟩ := isB_w hB hb
      refine w_tc0 (tc_needBraid (brC_E hB)) ?_ ?_
      · rintro y2 ⟨h2, e2⟩
        dsimp only at e2
        rw [e2]
        rcases h2 with ⟨-, hb'⟩ | h2
        · obtain ⟨b', n', l', hb20', rfl, hn2', hn5', e15', l16', e14', hwd'⟩ := isB_w hB hb'
          obtain ⟨w, hw⟩ := wd_w hwd
          obtain ⟨w', hw'⟩ := wd_w hwd'
          have hW : brW y1 (nI b) b n l w := ⟨hb20, rfl, hn2, hn5, e15, l16, e14, hw⟩
          have hW' : brW y1 (nI b') b' n' l' w' := ⟨hb20', rfl, hn2', hn5', e15', l16', e14', hw'⟩
          let Q : Nat × Int32 × ow_MS → Prop := fun r => r.1 = 1 ∧ (noB (y1.2.1 15) (nI b) ∨ noB (y1.2.1 15) (nI b')) ∨ ∃ c n l w c' n' l' w', brW y1 (nI b) c n l w ∧ brW y1 (nI b') c' n' l' w' ∧ (n ≠ n' ∧ r.1 = 2 ∨ n = n' ∧ n = 5 ∧ r.1 = 4 ∨ n = n' ∧ n ≤ 4 ∧ r.1 = 0 ∧ cjW9 n l w l' w' r.2.1)
          have fin : ∀ {r : Nat × Int32 × ow_MS}, (n ≠ n' ∧ r.1 = 2 ∨ n = n' ∧ n = 5 ∧ r.1 = 4 ∨ n = n' ∧ n ≤ 4 ∧ r.1 = 0 ∧ cjW9 n l w l' w' r.2.1) → Q r := fun hr => Or.inr ⟨b, n, l, w, b', n', l', w', hW, hW', hr⟩
          refine w_crI ch_15 rfl hb20 e15 (w_crI ch_15 rfl hb20' e15' (w_eqN (by omega) (by omega) (fun en => ?_) (fun en => w_some (fin (Or.inl ⟨en, rfl⟩)))))
          refine w_tc0 (xc_needFew hb20 hn5 e15) ?_ ?_
          · rintro y3 ⟨e3, h3⟩
            dsimp only at e3 h3
            rw [e3]
            rcases h3 with ⟨-, n4⟩ | h3
            · rw [← en] at e15' hw'
              have h0 : okT n (foT n w l).1 := fo_ok hn2 hn5 l (fun j hj => (hw j hj).1)
              have h0' : okT n (foT n w' l').1 := fo_ok hn2 hn5 l' (fun j hj => (hw' j hj).1)
              refine w_cs0 (xc_writeF fo46 hn2 hn5 hb20 e15 l16 e14 hw) ?_
              rintro y4 ⟨F, j, k1, k3, k4, k5, k2⟩
              obtain ⟨p1, p2, p3⟩ := wr_fo ⟨n, hn2, hn5⟩ l16 h0 k1 k3 k5
              refine w_cs1 (xc_findS so48 fo46 (by omega) n4 p1 p2 p3) ?_
              rintro v y5 ⟨⟨k, R, Ls, W, q1⟩, q2⟩
              dsimp only at q1 q2
              have f5 : fr smP y1 y5 := fr_tr (fr_mono (fun g hg => by unfold foP at hg; unfold smP; omega) k2) (fr_mono (fun g hg => by unfold suP at hg; unfold smP; omega) q2)
              have q13 : y5.2.1 13 = y1.2.1 13 := (f5 13 (by unfold smP; omega)).2.1
              refine w_cs0 (xc_writeF (n := n) (l := l') (w := w') fo46 hn2 hn5 hb20' ((congrFun (f5 15 (by unfold smP; omega)).2.1 b').trans e15') l16' ((congrFun (f5 14 (by unfold smP; omega)).2.1 b').trans e14') (fun i hi => ⟨(hw' i hi).1, by rw [q13]; exact (hw' i hi).2⟩)) ?_
              rintro y6 ⟨F', j', k1', k3', k4', k5', k2'⟩
              obtain ⟨p1', p2', p3'⟩ := wr_fo ⟨n, hn2, hn5⟩ l16' h0' k1' k3' k5'
              refine w_cs1 (xc_findS so50 fo46 (by omega) n4 p1' p2' p3') ?_
              rintro v' y7 ⟨⟨k', R', Ls', W', q1'⟩, q2'⟩
              dsimp only at q1' q2'
              have f7 : fr (fun g => foP 46000 g ∨ suP 50000 g) y5 y7 := fr_tr (fr_mono (fun g hg => Or.inl hg) k2') (fr_mono (fun g hg => Or.inr hg) q2')
              have np : ∀ g, 48000 ≤ g → g < 50000 → ¬ (foP 46000 g ∨ suP 50000 g) := fun g a1 a2 h9 => by
                rcases h9 with h9 | h9
                · unfold foP at h9
                  omega
                · unfold suP at h9
                  omega
              have q7 := suL_fr f7 (fun g a1 a2 => np g (by omega) (by omega)) q1.1
              have fin2 : ∀ v : Int32, cjV9 (gF ⟨n, hn2, hn5⟩ (foT n w l).2 (foT n w l).1 h0) (gF ⟨n, hn2, hn5⟩ (foT n w' l').2 (foT n w' l').1 h0') v → Tt (fun _ _ => some ((0 : Nat), v, y7)) Q := fun v hv => w_some (fin (Or.inr (Or.inr ⟨en, n4, rfl, ⟨hn2, hn5⟩, h0, h0', hv⟩)))
              rcases fn_sm q1 with ⟨ev, o1⟩ | ⟨nv, -, o1⟩
              · exact w_ifT ev (fin2 _ (Or.inl ⟨rfl, Or.inl o1⟩))
              · refine w_ifF nv ?_
                rcases fn_sm q1' with ⟨ev', o1'⟩ | ⟨nv', -, o1'⟩
                · exact w_ifT ev' (fin2 _ (Or.inl ⟨rfl, Or.inr o1'⟩))
                · have hiff := fn_eq q1 q1' nv nv'
                  have b1 := q1.2.2.2.2.2.1
                  have b2 := q1.2.2.2.2.2.2.1
                  have b3 := q1'.2.2.2.2.2.1
                  have b4 := q1'.2.2.2.2.2.2.1
                  refine w_ifF nv' (w_cs1 (xc_sameAsS so48 so50 q7 q1'.1 ((f7 _ (np _ (by omega) (by omega))).1.trans q1.2.1) q1'.2.1 (by omega) (by omega) (by omega) (by omega)) ?_)
                  rintro v8 y8 ⟨hv8, e8⟩
                  dsimp only at hv8 e8
                  rw [e8]
                  rcases hv8 with ⟨rfl, hv8⟩ | ⟨rfl, hv8⟩
                  · exact w_ifF (by decide) (fin2 _ (Or.inr ⟨⟨_, o1⟩, ⟨_, o1'⟩, Or.inl ⟨rfl, hiff.mp hv8⟩⟩))
                  · exact w_ifT rfl (fin2 _ (Or.inr ⟨⟨_, o1⟩, ⟨_, o1'⟩, Or.inr ⟨rfl, fun h9 => hv8 (hiff.mpr h9)⟩⟩))
            · exact absurd h3.1 (by decide)
          · rintro a y3 ha ⟨e3, h3⟩
            dsimp only at e3 h3
            rcases h3 with ⟨h3, -⟩ | ⟨h3, n5⟩
            · exact absurd h3 ha
            · exact w_some (fin (Or.inr (Or.inl ⟨en, n5, h3⟩)))
        · exact absurd (show (0 : Nat) = 1 from h2.1) (by decide)
      · rintro a y2 ha ⟨h2, e2⟩
        rcases h2 with h2 | h2
        · exact absurd h2.1 ha
        · exact w_some (Or.inl ⟨h2.1, Or.inr h2.2⟩)
    · exact absurd (show (0 : Nat) = 1 from h1.1) (by decide)
  · rintro a y1 ha ⟨h1, rfl⟩
    rcases h1 with h1 | h1
    · exact absurd h1.1 ha
    · exact w_some (Or.inl ⟨h1.1, Or.inl h1.2⟩)
theorem c_conjugate (hG : ∀ W, X W → XG W) (h : rel3 X z y) : Te (fun K => qe_X13_conjugate K x x' z) (fun rr => Te (fun K => ce_X11_conjugate vl K 0 x x' y) (fun rc => rel3 X rr.2 rc.2.2 ∧ ansI [(1, 1), (2, 2), (3, 4)] rr rc)) := by
  have hI := r3_g h
  have hB := h.2.2.2.2.1
  have hR := h.2.2.2.1
  refine te_two (te_fo (te_and (tp_conjugate (a := x) (b := x') hG hI) (xq_conjugate (x := x) (x' := x') hI hG)) (fun K => ff_X13_conjugate)) (te_fo (xc_conjugate (x := x) (x' := x') hB) (fun K => ff_X11_conjugate)) (fun rr rc ⟨⟨hgI, hr⟩, fR⟩ ⟨hc, fC⟩ => ⟨rel3_nf fR fC (pf_nf (by decide)) (fun g hg => by omega) hgI h, ?_⟩)
  rcases hr with ⟨r1, r2⟩ | ⟨b, n, l, u, b', n', l', u', hb, hx, hh, hu, hb', hx', hh', hu', hr⟩
  · rcases hc with ⟨c1, -⟩ | ⟨b, n, l, w, b', n', l', w', hW, hW', -⟩
    · exact Or.inr ⟨1, 1, by simp, r1, c1⟩
    · rcases r2 with r2 | r2
      · exact (no_z hR r2 hW).elim
      · exact (no_z hR r2 hW').elim
  · rcases hc with ⟨c1, c2⟩ | ⟨b1, n1, l1, w, b2, n2, l2, w', hW, hW', hc⟩
    · rcases c2 with c2 | c2
      · exact (no_y hR c2 hb hx hh).elim
      · exact (no_y hR c2 hb' hx' hh').elim
    · obtain ⟨rfl, rfl, rfl, hwz⟩ := br_same hR hb hx hh hW
      obtain ⟨rfl, rfl, rfl, hwz'⟩ := br_same hR hb' hx' hh' hW'
      rcases hr with ⟨en, r1⟩ | ⟨en, e5, r1⟩ | ⟨en, e4, r1, r2⟩
      · rcases hc with ⟨-, c1⟩ | ⟨c2, -⟩ | ⟨c2, -⟩
        · exact Or.inr ⟨2, 2, by simp, r1, c1⟩
        · exact absurd c2 en
        · exact absurd c2 en
      · rcases hc with ⟨c2, -⟩ | ⟨-, -, c1⟩ | ⟨-, c2, -⟩
        · exact absurd en c2
        · exact Or.inr ⟨3, 4, by simp, r1, c1⟩
        · omega
      · rcases hc with ⟨c2, -⟩ | ⟨-, c2, -⟩ | ⟨-, -, c1, c3⟩
        · exact absurd en c2
        · omega
        · subst en
          exact Or.inl ⟨r1, c1, cjW9_uni (lw_same hh.2.1 hu hwz) (lw_same hh'.2.1 hu' hwz') r2 c3⟩
end XSEA
end
section
/-! 99zzzzzzzzzzzzzzzza.xsta -/
/-! summit, conjugate are steps of the law; what is left of the whole: six cases -/
section XSF
variable {Pc Pr : ow_MS → Prop}
theorem s3_summit (hc : keepP ciX Pc) (hr : keepP rfX Pr) : stpX Pc Pr lst_summit := by
  intro S x1 x2 x3 x4 x5 h pc pr
  have hc0 := rel_of (vl := S.1) (y := S.2.1) (z := S.2.2) (em := [(1, 1), (2, 4)]) (fc := fun K => ce_X11_summit S.1 K 0 x1 S.2.1) (fm := fun K => qe_X13_summit K x1 S.2.2) h.1 (c_summit (fun _ => XR_G) h.1.1) (fun K => ff_X13_summit) (fun K => ff_X11_summit) (by decide) (fun g hg h9 => by unfold ciH at h9; omega)
  have hn : Te (fun K => ce_X11_summit S.1 K 0 x1 S.2.1) (fun rc => NM rc.2.2) := te_nmF (te_in hc0) (fun K => ff_X11_summit) (fun g hg h9 => by omega) h.2
  have hs0 : Te (lsV S.1 (fun K => ce_X11_summit S.1 K 0 x1 S.2.1) (fun k z => if k = 1 then some (1, z) else if k = 4 then some (2, z) else none) (fun K => qe_X13_summit K x1 S.2.2)) (fun S1 => REL S1 ∧ dPhi S.1 ≤ dPhi S1.1) := by
    refine st_int hc0 (fun j k hm => ?_)
    simp only [List.mem_cons, List.not_mem_nil, or_false, Prod.mk.injEq] at hm
    rcases hm with ⟨rfl, rfl⟩ | ⟨rfl, rfl⟩
    · exact ⟨by decide, by decide, by decide, fun _ => rfl⟩
    · exact ⟨by decide, by decide, by decide, fun _ => rfl⟩
  have hmp : ∀ (k : Nat) (z : ow_MS) (r : Int32 × ow_MS), ((fun k z => if k = 1 then some (1, z) else if k = 4 then some (2, z) else none) : Nat → ow_MS → Option (Int32 × ow_MS)) k z = some r → r.2 = z := (fun k z r hr => by
    have hr : (if k = 1 then some (1, z) else if k = 4 then some (2, z) else none) = some r := hr
    by_cases c0 : k = 1
    · rw [if_pos c0] at hr
      cases hr
      rfl
    by_cases c1 : k = 4
    · rw [if_neg c0, if_pos c1] at hr
      cases hr
      rfl
    rw [if_neg c0, if_neg c1] at hr
    cases hr)
  have hs : Te (lsV S.1 (fun K => ce_X11_summit S.1 K 0 x1 S.2.1) (fun k z => if k = 1 then some (1, z) else if k = 4 then some (2, z) else none) (fun K => qe_X13_summit K x1 S.2.2)) (fun S1 => REL2 S1 ∧ dPhi S.1 ≤ dPhi S1.1) := w_monoE (lsV_nm hs0 hn hmp) (fun S1 ⟨⟨q1, q2⟩, q3⟩ => ⟨⟨q1, q3⟩, q2⟩)
  exact w_monoE (lsV_fo hs (fun K => ff_X11_summit) (fun K => ff_X13_summit) hmp) (fun S1 ⟨q, f1, f2⟩ => ⟨q, hc _ _ _ f1 (fun g hg h9 => by unfold ciX at h9; omega) pc, hr _ _ _ f2 (pf_rf (by decide)) pr⟩)
theorem s3_conjugate (hc : keepP ciX Pc) (hr : keepP rfX Pr) : stpX Pc Pr lst_conjugate := by
  intro S x1 x2 x3 x4 x5 h pc pr
  have hc0 := rel_of (vl := S.1) (y := S.2.1) (z := S.2.2) (em := [(1, 1), (2, 2), (3, 4)]) (fc := fun K => ce_X11_conjugate S.1 K 0 x1 x2 S.2.1) (fm := fun K => qe_X13_conjugate K x1 x2 S.2.2) h.1 (c_conjugate (fun _ => XR_G) h.1.1) (fun K => ff_X13_conjugate) (fun K => ff_X11_conjugate) (by decide) (fun g hg h9 => by unfold ciH at h9; omega)
  have hn : Te (fun K => ce_X11_conjugate S.1 K 0 x1 x2 S.2.1) (fun rc => NM rc.2.2) := te_nmF (te_in hc0) (fun K => ff_X11_conjugate) (fun g hg h9 => by omega) h.2
  have hs0 : Te (lsV S.1 (fun K => ce_X11_conjugate S.1 K 0 x1 x2 S.2.1) (fun k z => if k = 1 then some (1, z) else if k = 2 then some (2, z) else if k = 4 then some (3, z) else none) (fun K => qe_X13_conjugate K x1 x2 S.2.2)) (fun S1 => REL S1 ∧ dPhi S.1 ≤ dPhi S1.1) := by
    refine st_int hc0 (fun j k hm => ?_)
    simp only [List.mem_cons, List.not_mem_nil, or_false, Prod.mk.injEq] at hm
    rcases hm with ⟨rfl, rfl⟩ | ⟨rfl, rfl⟩ | ⟨rfl, rfl⟩
    · exact ⟨by decide, by decide, by decide, fun _ => rfl⟩
    · exact ⟨by decide, by decide, by decide, fun _ => rfl⟩
    · exact ⟨by decide, by decide, by decide, fun _ => rfl⟩
  have hmp : ∀ (k : Nat) (z : ow_MS) (r : Int32 × ow_MS), ((fun k z => if k = 1 then some (1, z) else if k = 2 then some (2, z) else if k = 4 then some (3, z) else none) : Nat → ow_MS → Option (Int32 × ow_MS)) k z = some r → r.2 = z := (fun k z r hr => by
    have hr : (if k = 1 then some (1, z) else if k = 2 then some (2, z) else if k = 4 then some (3, z) else none) = some r := hr
    by_cases c0 : k = 1
    · rw [if_pos c0] at hr
      cases hr
      rfl
    by_cases c1 : k = 2
    · rw [if_neg c0, if_pos c1] at hr
      cases hr
      rfl
    by_cases c2 : k = 4
    · rw [if_neg c0, if_neg c1, if_pos c2] at hr
      cases hr
      rfl
    rw [if_neg c0, if_neg c1, if_neg c2] at hr
    cases hr)
  have hs : Te (lsV S.1 (fun K => ce_X11_conjugate S.1 K 0 x1 x2 S.2.1) (fun k z => if k = 1 then some (1, z) else if k = 2 then some (2, z) else if k = 4 then some (3, z) else none) (fun K => qe_X13_conjugate K x1 x2 S.2.2)) (fun S1 => REL2 S1 ∧ dPhi S.1 ≤ dPhi S1.1) := w_monoE (lsV_nm hs0 hn hmp) (fun S1 ⟨⟨q1, q2⟩, q3⟩ => ⟨⟨q1, q3⟩, q2⟩)
  exact w_monoE (lsV_fo hs (fun K => ff_X11_conjugate) (fun K => ff_X13_conjugate) hmp) (fun S1 ⟨q, f1, f2⟩ => ⟨q, hc _ _ _ f1 (fun g hg h9 => by unfold ciX at h9; omega) pc, hr _ _ _ f2 (pf_rf (by decide)) pr⟩)
variable {Qc Qr : ow_MS → Prop}
end XSF
end
section
/-! 99zzzzzzzzzzzzzzzzb.xtw1 -/
/-! two: polynomials in x and z as tables; the skein relation; the tree along a list of first visits -/
abbrev pz9 : Type := Int → Int → Int
def sgz (b : Bool) : Int := if b then 1 else -1
/-- the value at a crossing of sign b, out of the values of the changed and of the smoothed one -/
def skz (b : Bool) (P Q : pz9) : pz9 := fun i j => P (i - 2 * sgz b) j + sgz b * Q (i - sgz b) (j - 1)
/-- k + 1 circles -/
def lfz : Nat → pz9
  | 0 => fun i j => if i = 0 ∧ j = 0 then 1 else 0
  | k + 1 => fun i j => lfz k (i + 1) (j + 1) - lfz k (i - 1) (j + 1)
/-- a circle more -/
def crz (P : pz9) : pz9 := fun i j => P (i + 1) (j + 1) - P (i - 1) (j + 1)
theorem lfz_s (k : Nat) : lfz (k + 1) = crz (lfz k) := rfl
theorem sgz_t : sgz true = 1 := rfl
theorem sgz_f : sgz false = -1 := rfl
theorem skz_bk (b : Bool) (P Q : pz9) : skz b (skz (!b) P Q) Q = P := by
  funext i j
  cases b
  · show P (i - 2 * -1 - 2 * 1) j + 1 * Q (i - 2 * -1 - 1) (j - 1) + -1 * Q (i - -1) (j - 1) = P i j
    rw [show i - 2 * -1 - 2 * 1 = i by omega, show i - 2 * -1 - 1 = i - -1 by omega]
    omega
  · show P (i - 2 * 1 - 2 * -1) j + -1 * Q (i - 2 * 1 - -1) (j - 1) + 1 * Q (i - 1) (j - 1) = P i j
    rw [show i - 2 * 1 - 2 * -1 = i by omega, show i - 2 * 1 - -1 = i - 1 by omega]
    omega
theorem skz_inj {b : Bool} {P P' Q : pz9} (h : skz b P Q = skz b P' Q) : P = P' := by
  funext i j
  have e := congrFun (congrFun h (i + 2 * sgz b)) j
  unfold skz at e
  rw [show i + 2 * sgz b - 2 * sgz b = i by omega] at e
  omega
theorem skz_cm (b c : Bool) (P A B C : pz9) : skz b (skz c P A) (skz c B C) = skz c (skz b P B) (skz b A C) := by
  funext i j
  unfold skz
  rw [show i - 2 * sgz b - 2 * sgz c = i - 2 * sgz c - 2 * sgz b by omega, show i - 2 * sgz b - sgz c = i - sgz c - 2 * sgz b by omega, show i - sgz b - 2 * sgz c = i - 2 * sgz c - sgz b by omega, show i - sgz b - sgz c = i - sgz c - sgz b by omega, Int.mul_add, Int.mul_add, Int.mul_left_comm (sgz b) (sgz c)]
  omega
/-- a loop: what is smoothed has a circle more -/
theorem skz_lp (b : Bool) (P : pz9) : skz b P (crz P) = P := by
  funext i j
  cases b
  · show P (i - 2 * -1) j + -1 * (P (i - -1 + 1) (j - 1 + 1) - P (i - -1 - 1) (j - 1 + 1)) = P i j
    rw [show j - 1 + 1 = j by omega, show i - 2 * -1 = i - -1 + 1 by omega, show i - -1 - 1 = i by omega]
    omega
  · show P (i - 2 * 1) j + 1 * (P (i - 1 + 1) (j - 1 + 1) - P (i - 1 - 1) (j - 1 + 1)) = P i j
    rw [show j - 1 + 1 = j by omega, show i - 2 * 1 = i - 1 - 1 by omega, show i - 1 + 1 = i by omega]
    omega
theorem crz_sk (b : Bool) (P Q : pz9) : crz (skz b P Q) = skz b (crz P) (crz Q) := by
  funext i j
  show P (i + 1 - 2 * sgz b) (j + 1) + sgz b * Q (i + 1 - sgz b) (j + 1 - 1) - (P (i - 1 - 2 * sgz b) (j + 1) + sgz b * Q (i - 1 - sgz b) (j + 1 - 1)) = P (i - 2 * sgz b + 1) (j + 1) - P (i - 2 * sgz b - 1) (j + 1) + sgz b * (Q (i - sgz b + 1) (j - 1 + 1) - Q (i - sgz b - 1) (j - 1 + 1))
  rw [show i + 1 - 2 * sgz b = i - 2 * sgz b + 1 by omega, show i - 1 - 2 * sgz b = i - 2 * sgz b - 1 by omega, show i + 1 - sgz b = i - sgz b + 1 by omega, show i - 1 - sgz b = i - sgz b - 1 by omega, show j + 1 - 1 = j - 1 + 1 by omega, Int.mul_sub]
  omega
/-- a change of one crossing -/
def flz (ov : Nat → Bool) (x : Nat) : Nat → Bool := fun y => if y = x then !ov y else ov y
theorem flz_at (ov : Nat → Bool) (x : Nat) : flz ov x x = !ov x := if_pos rfl
theorem flz_ot {ov : Nat → Bool} {x y : Nat} (h : y ≠ x) : flz ov x y = ov y := if_neg h
theorem flz_2 (ov : Nat → Bool) (x : Nat) : flz (flz ov x) x = ov := by
  funext y
  by_cases h : y = x
  · rw [h, flz_at, flz_at, Bool.not_not]
  · rw [flz_ot h, flz_ot h]
theorem flz_cm (ov : Nat → Bool) (x y : Nat) : flz (flz ov x) y = flz (flz ov y) x := by
  funext t
  by_cases h : x = y
  · rw [h]
  · by_cases h1 : t = x
    · rw [h1, flz_at, flz_ot h, flz_at, flz_ot h]
    · by_cases h2 : t = y
      · rw [h2, flz_at, flz_ot (Ne.symm h), flz_ot (Ne.symm h), flz_at]
      · rw [flz_ot h2, flz_ot h1, flz_ot h1, flz_ot h2]
/-- along the first visits: each one that comes under is smoothed, then changed -/
def goz (P : pz9) (G : Nat → (Nat → Bool) → pz9) : List (Nat × Bool) → (Nat → Bool) → pz9
  | [], _ => P
  | p :: r, ov => if p.2 = ov p.1 then goz P G r ov else skz (ov p.1) (goz P G r (flz ov p.1)) (G p.1 ov)
section XTW1
variable {P : pz9} {G : Nat → (Nat → Bool) → pz9}
theorem goz_g {p : Nat × Bool} {r : List (Nat × Bool)} {ov : Nat → Bool} (h : p.2 = ov p.1) : goz P G (p :: r) ov = goz P G r ov := if_pos h
theorem goz_b {p : Nat × Bool} {r : List (Nat × Bool)} {ov : Nat → Bool} (h : ¬ p.2 = ov p.1) : goz P G (p :: r) ov = skz (ov p.1) (goz P G r (flz ov p.1)) (G p.1 ov) := if_neg h
theorem goz_all : ∀ {l : List (Nat × Bool)} {ov : Nat → Bool}, (∀ p, p ∈ l → p.2 = ov p.1) → goz P G l ov = P
  | [], _, _ => rfl
  | p :: r, ov, h => by
    rw [goz_g (h p List.mem_cons_self)]
    exact goz_all (fun q hq => h q (List.mem_cons_of_mem _ hq))
/-- what the smoothed ones must be -/
def okz (S : List Nat) (G : Nat → (Nat → Bool) → pz9) : Prop := (∀ x ov, x ∈ S → G x (flz ov x) = G x ov) ∧ ∃ H : Nat → Nat → (Nat → Bool) → pz9, (∀ x y ov, H x y ov = H y x ov) ∧ ∀ x y ov, x ∈ S → y ∈ S → x ≠ y → G x ov = skz (ov y) (G x (flz ov y)) (H x y ov)
/-- THE SKEIN RELATION AT EVERY CROSSING -/
theorem goz_sk {S : List Nat} (hG : okz S G) : ∀ (l : List (Nat × Bool)) (ov : Nat → Bool) (y : Nat), (l.map Prod.fst).Nodup → (∀ p, p ∈ l → p.1 ∈ S) → y ∈ l.map Prod.fst → goz P G l ov = skz (ov y) (goz P G l (flz ov y)) (G y ov)
  | [], _, _, _, _, h => absurd h List.not_mem_nil
  | p :: r, ov, y, hn, hS, hy => by
    obtain ⟨g1', H, g2, g3⟩ := id hG
    rw [List.map_cons, List.nodup_cons] at hn
    have hpS := hS p List.mem_cons_self
    by_cases e : p.1 = y
    · subst e
      by_cases c : p.2 = ov p.1
      · have c' : ¬ p.2 = flz ov p.1 p.1 := by
          rw [flz_at, c]
          cases ov p.1 <;> decide
        rw [goz_g c, goz_b c', flz_2, flz_at, g1' _ _ hpS, skz_bk]
      · have c' : p.2 = flz ov p.1 p.1 := by
          rw [flz_at]
          revert c
          cases p.2 <;> cases ov p.1 <;> decide
        rw [goz_b c, goz_g c']
    · have hyr : y ∈ r.map Prod.fst := by
        rw [List.map_cons] at hy
        rcases List.mem_cons.mp hy with h | h
        · exact absurd h.symm e
        · exact h
      obtain ⟨q, hq, rfl⟩ := List.mem_map.mp hyr
      have hyS := hS q (List.mem_cons_of_mem _ hq)
      have ih := fun ov => goz_sk hG r ov q.1 hn.2 (fun p hp => hS p (List.mem_cons_of_mem _ hp)) hyr
      have ep : flz ov q.1 p.1 = ov p.1 := flz_ot e
      by_cases c : p.2 = ov p.1
      · rw [goz_g c, goz_g (c.trans ep.symm)]
        exact ih ov
      · rw [goz_b c, goz_b (by rw [ep]; exact c), ih (flz ov p.1), flz_ot (Ne.symm e), ep, g3 p.1 q.1 ov hpS hyS e, skz_cm, flz_cm, g2, ← g3 q.1 p.1 ov hyS hpS (Ne.symm e)]
/-- two of them that agree once agree everywhere -/
def skA (S : List Nat) (G : Nat → (Nat → Bool) → pz9) (V : (Nat → Bool) → pz9) : Prop := ∀ ov y, y ∈ S → V ov = skz (ov y) (V (flz ov y)) (G y ov)
theorem skA_eq {V V' : (Nat → Bool) → pz9} : ∀ (S : List Nat), skA S G V → skA S G V' → ∀ ov ov0 : Nat → Bool, (∀ x, x ∉ S → ov x = ov0 x) → V ov0 = V' ov0 → V ov = V' ov
  | [], _, _, ov, ov0, h, e => by
    have : ov = ov0 := funext (fun x => h x List.not_mem_nil)
    rw [this]
    exact e
  | y :: S, h1, h2, ov, ov0, h, e => by
    have s1 : skA S G V := fun ov x hx => h1 ov x (List.mem_cons_of_mem _ hx)
    have s2 : skA S G V' := fun ov x hx => h2 ov x (List.mem_cons_of_mem _ hx)
    by_cases c : ov y = ov0 y
    · refine skA_eq S s1 s2 ov ov0 (fun x hx => ?_) e
      by_cases ex : x = y
      · rw [ex]
        exact c
      · exact h x (fun h9 => (List.mem_cons.mp h9).elim ex hx)
    · refine skA_eq S s1 s2 ov (flz ov0 y) (fun x hx => ?_) ?_
      · by_cases ex : x = y
        · rw [ex, flz_at]
          revert c
          cases ov y <;> cases ov0 y <;> decide
        · rw [flz_ot ex]
          exact h x (fun h9 => (List.mem_cons.mp h9).elim ex hx)
      · have k1 := h1 ov0 y List.mem_cons_self
        have k2 := h2 ov0 y List.mem_cons_self
        rw [e, k2] at k1
        exact (skz_inj k1).symm
end XTW1
end
section
/-! 99zzzzzzzzzzzzzzzzc.xtw2 -/
/-! two: closed braids as cycles of visits and marks; what a letter less does -/
abbrev tk9 : Type := Nat × Nat
/-- letters (place, name), the last one first; (x, 1) is the visit of x that comes from the left, (x, 0) from the right, (t, 2) the mark of track t where the braid is closed -/
abbrev wd9 : Type := List (Nat × Nat)
def thz (g x : Nat) (p : tk9) : tk9 := if p = (g, 2) then (x, 1) else if p = (g + 1, 2) then (x, 0) else p
def sgm : wd9 → tk9 → tk9
  | [], p => p
  | l :: W, p => if p = (l.2, 1) then (l.1 + 1, 2) else if p = (l.2, 0) then (l.1, 2) else thz l.1 l.2 (sgm W p)
def nmz (W : wd9) : List Nat := W.map Prod.snd
def tkz (n : Nat) (W : wd9) (p : tk9) : Prop := p.2 = 2 ∧ p.1 < n ∨ p.2 < 2 ∧ p.1 ∈ nmz W
def okw (n : Nat) (W : wd9) : Prop := (∀ l, l ∈ W → l.1 + 1 < n) ∧ (nmz W).Nodup
def pth (s : tk9 → tk9) : tk9 → List tk9 → tk9 → Prop
  | p, [], q => s p = q
  | p, a :: r, q => s p = a ∧ pth s a r q
def cyz (s : tk9 → tk9) (c : List tk9) : Prop := ∃ p r, c = p :: r ∧ pth s p r p
/-- an order of the closed braid: its components, each from some base -/
def orz (n : Nat) (W : wd9) (L : List (List tk9)) : Prop := (∀ c, c ∈ L → cyz (sgm W) c) ∧ L.flatten.Nodup ∧ ∀ p, p ∈ L.flatten ↔ tkz n W p
theorem pth_a {s : tk9 → tk9} : ∀ {r : List tk9} {p a q : tk9} {r' : List tk9}, pth s p (r ++ a :: r') q ↔ pth s p r a ∧ pth s a r' q
  | [], _, _, _, _ => Iff.rfl
  | b :: r, p, a, q, r' => by
    show s p = b ∧ pth s b (r ++ a :: r') q ↔ (s p = b ∧ pth s b r a) ∧ pth s a r' q
    rw [pth_a, and_assoc]
theorem cyz_r {s : tk9 → tk9} {a b : List tk9} (h : cyz s (a ++ b)) : cyz s (b ++ a) := by
  cases a with
  | nil =>
    rw [List.nil_append] at h
    rw [List.append_nil]
    exact h
  | cons p r =>
    cases b with
    | nil =>
      rw [List.append_nil] at h
      exact h
    | cons q t =>
      obtain ⟨p', r', e, hp⟩ := h
      obtain ⟨rfl, rfl⟩ := List.cons.inj e
      obtain ⟨h1, h2⟩ := pth_a.mp hp
      exact ⟨q, t ++ p :: r, rfl, pth_a.mpr ⟨h2, h1⟩⟩
section XTW2
variable {n : Nat} {W A B : wd9}
theorem thz_v {g x : Nat} {p : tk9} (h : p.2 ≠ 2) : thz g x p = p := by
  have h1 : p ≠ (g, 2) := fun h9 => h (by rw [h9])
  have h2 : p ≠ (g + 1, 2) := fun h9 => h (by rw [h9])
  unfold thz
  rw [if_neg h1, if_neg h2]
theorem thz_1 (g x : Nat) : thz g x (g, 2) = (x, 1) := if_pos rfl
theorem thz_0 (g x : Nat) : thz g x (g + 1, 2) = (x, 0) := by
  unfold thz
  rw [if_neg (fun h9 => by have := (Prod.mk.inj h9).1; omega), if_pos rfl]
theorem thz_o {g x : Nat} {p : tk9} (h1 : p ≠ (g, 2)) (h2 : p ≠ (g + 1, 2)) : thz g x p = p := by
  unfold thz
  rw [if_neg h1, if_neg h2]
theorem sgm_1 {l : Nat × Nat} : sgm (l :: W) (l.2, 1) = (l.1 + 1, 2) := if_pos rfl
theorem sgm_0 {l : Nat × Nat} : sgm (l :: W) (l.2, 0) = (l.1, 2) := by
  show (if ((l.2, 0) : tk9) = (l.2, 1) then _ else _) = _
  rw [if_neg (fun h9 => by have := (Prod.mk.inj h9).2; omega), if_pos rfl]
theorem sgm_o {l : Nat × Nat} {p : tk9} (h1 : p ≠ (l.2, 1)) (h0 : p ≠ (l.2, 0)) : sgm (l :: W) p = thz l.1 l.2 (sgm W p) := by
  show (if p = (l.2, 1) then _ else _) = _
  rw [if_neg h1, if_neg h0]
/-- visits of another letter -/
def nov (x : Nat) (p : tk9) : Prop := p ≠ (x, 1) ∧ p ≠ (x, 0)
theorem nov_m {x t : Nat} : nov x (t, 2) := ⟨fun h9 => by have := (Prod.mk.inj h9).2; omega, fun h9 => by have := (Prod.mk.inj h9).2; omega⟩
theorem nov_n {x y i : Nat} (h : y ≠ x) : nov x (y, i) := ⟨fun h9 => h (Prod.mk.inj h9).1, fun h9 => h (Prod.mk.inj h9).1⟩
theorem nov_t {g y x : Nat} {p : tk9} (h : y ≠ x) (hp : nov x p) : nov x (thz g y p) := by
  by_cases h1 : p = (g, 2)
  · rw [h1, thz_1]
    exact nov_n h
  · by_cases h2 : p = (g + 1, 2)
    · rw [h2, thz_0]
      exact nov_n h
    · rw [thz_o h1 h2]
      exact hp
/-- a letter that isn't there is never met -/
theorem sgm_n {x : Nat} : ∀ {W : wd9} {p : tk9}, x ∉ nmz W → nov x p → nov x (sgm W p)
  | [], _, _, h => h
  | l :: W, p, hx, hp => by
    have hl : l.2 ≠ x := fun h9 => hx (by rw [← h9]; exact List.mem_cons_self)
    have hW : x ∉ nmz W := fun h9 => hx (List.mem_cons_of_mem _ h9)
    by_cases h1 : p = (l.2, 1)
    · rw [h1, sgm_1]
      exact nov_m
    · by_cases h0 : p = (l.2, 0)
      · rw [h0, sgm_0]
        exact nov_m
      · rw [sgm_o h1 h0]
        exact nov_t hl (sgm_n hW hp)
/-- from a letter one doesn't come to it at once: the mark lies between -/
theorem sgm_x {g x i : Nat} (hi : i < 2) : ∀ {B : wd9}, x ∉ nmz B → nov x (sgm (B ++ (g, x) :: A) (x, i))
  | [], _ => by
    rcases (show i = 0 ∨ i = 1 by omega) with rfl | rfl
    · show nov x (sgm ((g, x) :: A) ((g, x).2, 0))
      rw [sgm_0]
      exact nov_m
    · show nov x (sgm ((g, x) :: A) ((g, x).2, 1))
      rw [sgm_1]
      exact nov_m
  | l :: B, hx => by
    have hl : l.2 ≠ x := fun h9 => hx (by rw [← h9]; exact List.mem_cons_self)
    have hB : x ∉ nmz B := fun h9 => hx (List.mem_cons_of_mem _ h9)
    show nov x (sgm (l :: (B ++ (g, x) :: A)) (x, i))
    rw [sgm_o (fun h9 => hl (Prod.mk.inj h9).1.symm) (fun h9 => hl (Prod.mk.inj h9).1.symm)]
    exact nov_t hl (sgm_x hi hB)
/-- the letter x taken away: who came to one of its visits goes on behind the other -/
def exz (s : tk9 → tk9) (x : Nat) (p : tk9) : tk9 := if p = (x, 1) then s (x, 0) else if p = (x, 0) then s (x, 1) else p
theorem exz_o {s : tk9 → tk9} {x : Nat} {p : tk9} (h : nov x p) : exz s x p = p := by
  unfold exz
  rw [if_neg h.1, if_neg h.2]
theorem exz_i {s : tk9 → tk9} {x i : Nat} (hi : i < 2) : exz s x (x, i) = s (x, 1 - i) := by
  unfold exz
  rcases (show i = 0 ∨ i = 1 by omega) with rfl | rfl
  · rw [if_neg (fun h9 => by have := (Prod.mk.inj h9).2; omega), if_pos rfl]
  · rw [if_pos rfl]
theorem sgm_d {g x : Nat} (hA : x ∉ nmz A) : ∀ {B : wd9} {p : tk9}, x ∉ nmz B → nov x p → sgm (B ++ A) p = exz (sgm (B ++ (g, x) :: A)) x (sgm (B ++ (g, x) :: A) p)
  | [], p, _, hp => by
    have e : sgm ((g, x) :: A) p = thz g x (sgm A p) := sgm_o hp.1 hp.2
    show sgm A p = exz (sgm ((g, x) :: A)) x (sgm ((g, x) :: A) p)
    rw [e]
    have hn := sgm_n hA hp
    by_cases h1 : sgm A p = (g, 2)
    · rw [h1, thz_1, exz_i (by omega)]
      show (g, 2) = sgm ((g, x) :: A) ((g, x).2, 0)
      rw [sgm_0]
    · by_cases h2 : sgm A p = (g + 1, 2)
      · rw [h2, thz_0, exz_i (by omega)]
        show (g + 1, 2) = sgm ((g, x) :: A) ((g, x).2, 1)
        rw [sgm_1]
      · rw [thz_o h1 h2, exz_o hn]
  | l :: B, p, hx, hp => by
    have hl : l.2 ≠ x := fun h9 => hx (by rw [← h9]; exact List.mem_cons_self)
    have hB : x ∉ nmz B := fun h9 => hx (List.mem_cons_of_mem _ h9)
    show sgm (l :: (B ++ A)) p = exz (sgm (l :: (B ++ (g, x) :: A))) x (sgm (l :: (B ++ (g, x) :: A)) p)
    by_cases h1 : p = (l.2, 1)
    · rw [h1, sgm_1, sgm_1, exz_o nov_m]
    · by_cases h0 : p = (l.2, 0)
      · rw [h0, sgm_0, sgm_0, exz_o nov_m]
      · rw [sgm_o h1 h0, sgm_o h1 h0, sgm_d hA hB hp]
        generalize sgm (B ++ (g, x) :: A) p = q
        have ex : ∀ i, sgm (l :: (B ++ (g, x) :: A)) (x, i) = thz l.1 l.2 (sgm (B ++ (g, x) :: A) (x, i)) := fun i => sgm_o (fun h9 => hl (Prod.mk.inj h9).1.symm) (fun h9 => hl (Prod.mk.inj h9).1.symm)
        by_cases q1 : q = (x, 1)
        · rw [q1, exz_i (by omega), thz_v (p := (x, 1)) (show (1 : Nat) ≠ 2 by decide), exz_i (by omega), ex]
        · by_cases q0 : q = (x, 0)
          · rw [q0, exz_i (by omega), thz_v (p := (x, 0)) (show (0 : Nat) ≠ 2 by decide), exz_i (by omega), ex]
          · rw [exz_o ⟨q1, q0⟩, exz_o (nov_t hl ⟨q1, q0⟩)]
end XTW2
end
section
/-! 99zzzzzzzzzzzzzzzzd.xtw3 -/
/-! two: orders of a closed braid: turned, permuted, smoothed -/
section XTW3
variable {n : Nat} {W A B : wd9} {L L' P Q M : List (List tk9)}
theorem orz_of (h : orz n W L) (hc : ∀ c, c ∈ L' → cyz (sgm W) c) (hp : L'.flatten.Perm L.flatten) : orz n W L' := ⟨hc, hp.nodup_iff.mpr h.2.1, fun p => hp.mem_iff.trans (h.2.2 p)⟩
theorem orz_t {a b : List tk9} (h : orz n W (P ++ (a ++ b) :: Q)) : orz n W (P ++ (b ++ a) :: Q) := by
  refine orz_of h (fun c hc => ?_) ?_
  · rcases List.mem_append.mp hc with h1 | h1
    · exact h.1 c (List.mem_append_left _ h1)
    · rcases List.mem_cons.mp h1 with h3 | h3
      · rw [h3]
        exact cyz_r (h.1 _ (List.mem_append_right _ List.mem_cons_self))
      · exact h.1 c (List.mem_append_right _ (List.mem_cons_of_mem _ h3))
  · refine List.perm_iff_count.mpr (fun t => ?_)
    simp only [List.flatten_append, List.flatten_cons, List.count_append]
    omega
theorem orz_p (hp : L'.Perm L) (h : orz n W L) : orz n W L' := orz_of h (fun c hc => h.1 c (hp.mem_iff.mp hc)) hp.flatten
theorem nm_a : nmz (B ++ A) = nmz B ++ nmz A := List.map_append
theorem okw_d {g x : Nat} (h : okw n (B ++ (g, x) :: A)) : x ∉ nmz A ∧ x ∉ nmz B ∧ okw n (B ++ A) := by
  obtain ⟨h1, h2⟩ := h
  rw [nm_a] at h2
  have e : nmz ((g, x) :: A) = x :: nmz A := rfl
  rw [e] at h2
  obtain ⟨k1, k2, k3⟩ := List.nodup_append.mp h2
  refine ⟨(List.nodup_cons.mp k2).1, fun h9 => k3 x h9 x List.mem_cons_self rfl, fun l hl => h1 l ?_, ?_⟩
  · rcases List.mem_append.mp hl with h9 | h9
    · exact List.mem_append_left _ h9
    · exact List.mem_append_right _ (List.mem_cons_of_mem _ h9)
  · rw [nm_a]
    exact List.nodup_append.mpr ⟨k1, (List.nodup_cons.mp k2).2, fun a ha b hb => k3 a ha b (List.mem_cons_of_mem _ hb)⟩
theorem tkz_d {g x : Nat} {p : tk9} (hA : x ∉ nmz A) (hB : x ∉ nmz B) : tkz n (B ++ A) p ↔ tkz n (B ++ (g, x) :: A) p ∧ nov x p := by
  have e : ∀ y, y ∈ nmz (B ++ (g, x) :: A) ↔ y = x ∨ y ∈ nmz (B ++ A) := fun y => by
    rw [nm_a, nm_a, List.mem_append, List.mem_append, show nmz ((g, x) :: A) = x :: nmz A from rfl, List.mem_cons]
    constructor
    · rintro (h | h | h)
      · exact Or.inr (Or.inl h)
      · exact Or.inl h
      · exact Or.inr (Or.inr h)
    · rintro (h | h | h)
      · exact Or.inr (Or.inl h)
      · exact Or.inl h
      · exact Or.inr (Or.inr h)
  have hx : x ∉ nmz (B ++ A) := fun h9 => by
    rw [nm_a] at h9
    exact (List.mem_append.mp h9).elim hB hA
  obtain ⟨y, i⟩ := p
  constructor
  · rintro (⟨h1, h2⟩ | ⟨h1, h2⟩)
    · have h1 : i = 2 := h1
      subst h1
      exact ⟨Or.inl ⟨rfl, h2⟩, nov_m⟩
    · exact ⟨Or.inr ⟨h1, (e y).mpr (Or.inr h2)⟩, nov_n (fun h9 => hx (by rw [← h9]; exact h2))⟩
  · rintro ⟨⟨h1, h2⟩ | ⟨h1, h2⟩, h3⟩
    · exact Or.inl ⟨h1, h2⟩
    · refine Or.inr ⟨h1, ?_⟩
      rcases (e y).mp h2 with h4 | h4
      · exfalso
        have h1 : i < 2 := h1
        rcases (show i = 0 ∨ i = 1 by omega) with rfl | rfl
        · exact h3.2 (by rw [h4])
        · exact h3.1 (by rw [h4])
      · exact h4
theorem pth_d {g x : Nat} (hA : x ∉ nmz A) (hB : x ∉ nmz B) : ∀ {r : List tk9} {p q : tk9}, pth (sgm (B ++ (g, x) :: A)) p r q → nov x p → (∀ t, t ∈ r → nov x t) → pth (sgm (B ++ A)) p r (exz (sgm (B ++ (g, x) :: A)) x q)
  | [], p, q, h, hp, _ => by
    have h : sgm (B ++ (g, x) :: A) p = q := h
    show sgm (B ++ A) p = _
    rw [sgm_d (g := g) hA hB hp, h]
  | a :: r, p, q, h, hp, hr => by
    refine ⟨?_, pth_d hA hB h.2 (hr a List.mem_cons_self) (fun t ht => hr t (List.mem_cons_of_mem _ ht))⟩
    rw [sgm_d (g := g) hA hB hp, h.1, exz_o (hr a List.mem_cons_self)]
theorem cyz_d {g x : Nat} {c : List tk9} (hA : x ∉ nmz A) (hB : x ∉ nmz B) (h : cyz (sgm (B ++ (g, x) :: A)) c) (hn : ∀ t, t ∈ c → nov x t) : cyz (sgm (B ++ A)) c := by
  obtain ⟨p, r, rfl, hp⟩ := h
  have hp0 := hn p List.mem_cons_self
  have := pth_d hA hB hp hp0 (fun t ht => hn t (List.mem_cons_of_mem _ ht))
  rw [exz_o hp0] at this
  exact ⟨p, r, rfl, this⟩
theorem orz_d {g x : Nat} (ho : okw n (B ++ (g, x) :: A)) (h : orz n (B ++ (g, x) :: A) L) (hp : L.flatten.Perm ((x, 1) :: (x, 0) :: L'.flatten)) (hc : ∀ c, c ∈ L' → cyz (sgm (B ++ A)) c) : orz n (B ++ A) L' := by
  obtain ⟨hA, hB, -⟩ := okw_d ho
  have hn := hp.nodup_iff.mp h.2.1
  rw [List.nodup_cons, List.nodup_cons] at hn
  refine ⟨hc, hn.2.2, fun p => ?_⟩
  rw [tkz_d (g := g) hA hB, ← h.2.2 p, hp.mem_iff, List.mem_cons, List.mem_cons]
  constructor
  · intro h9
    exact ⟨Or.inr (Or.inr h9), fun h8 => hn.1 (by rw [← h8]; exact List.mem_cons_of_mem _ h9), fun h8 => hn.2.1 (by rw [← h8]; exact h9)⟩
  · rintro ⟨h9 | h9 | h9, k1, k2⟩
    · exact absurd h9 k1
    · exact absurd h9 k2
    · exact h9
theorem prm_x {x i : Nat} {l : List tk9} (hi : i < 2) : ((x, i) :: (x, 1 - i) :: l).Perm ((x, 1) :: (x, 0) :: l) := by
  rcases (show i = 0 ∨ i = 1 by omega) with rfl | rfl
  · exact List.Perm.swap _ _ _
  · exact List.Perm.refl _
/-- smoothed within a component -/
theorem orz_s1 {g x i : Nat} {X Y Z : List tk9} (ho : okw n (B ++ (g, x) :: A)) (hi : i < 2) (h : orz n (B ++ (g, x) :: A) (P ++ (X ++ (x, i) :: (Y ++ (x, 1 - i) :: Z)) :: Q)) : orz n (B ++ A) (P ++ (X ++ Z) :: Y :: Q) := by
  obtain ⟨hA, hB, -⟩ := okw_d ho
  have hp : (P ++ (X ++ (x, i) :: (Y ++ (x, 1 - i) :: Z)) :: Q).flatten.Perm ((x, i) :: (x, 1 - i) :: (P ++ (X ++ Z) :: Y :: Q).flatten) := by
    refine List.perm_iff_count.mpr (fun t => ?_)
    simp only [List.flatten_append, List.flatten_cons, List.count_append, List.count_cons]
    omega
  have hn := (hp.trans (prm_x hi)).nodup_iff.mp h.2.1
  have nv : ∀ t, t ∈ (P ++ (X ++ Z) :: Y :: Q).flatten → nov x t := fun t ht => by
    rw [List.nodup_cons, List.nodup_cons] at hn
    exact ⟨fun h8 => hn.1 (by rw [← h8]; exact List.mem_cons_of_mem _ ht), fun h8 => hn.2.1 (by rw [← h8]; exact ht)⟩
  have nc : ∀ c, c ∈ P ++ (X ++ Z) :: Y :: Q → ∀ t, t ∈ c → nov x t := fun c hc t ht => nv t (List.mem_flatten.mpr ⟨c, hc, ht⟩)
  have h0 := h.1 _ (List.mem_append_right P List.mem_cons_self)
  have h1 : cyz (sgm (B ++ (g, x) :: A)) ((x, i) :: (Y ++ (x, 1 - i) :: (Z ++ X))) := by
    have := cyz_r h0
    simpa only [List.cons_append, List.append_assoc] using this
  obtain ⟨p, r, e, hq⟩ := h1
  obtain ⟨rfl, rfl⟩ := List.cons.inj e
  obtain ⟨q1, q2⟩ := pth_a.mp hq
  have mY : ∀ t, t ∈ Y → nov x t := nc Y (List.mem_append_right _ (List.mem_cons_of_mem _ List.mem_cons_self))
  have mX : ∀ t, t ∈ Z ++ X → nov x t := fun t ht => nc (X ++ Z) (List.mem_append_right _ List.mem_cons_self) t (by
    rcases List.mem_append.mp ht with h9 | h9
    · exact List.mem_append_right _ h9
    · exact List.mem_append_left _ h9)
  have part : ∀ {j : Nat} {c : List tk9}, j < 2 → pth (sgm (B ++ (g, x) :: A)) (x, j) c (x, 1 - j) → (∀ t, t ∈ c → nov x t) → cyz (sgm (B ++ A)) c := by
    intro j c hj hc hcn
    cases c with
    | nil =>
      exfalso
      have := sgm_x (A := A) (g := g) hj hB
      rw [show sgm (B ++ (g, x) :: A) (x, j) = (x, 1 - j) from hc] at this
      rcases (show j = 0 ∨ j = 1 by omega) with rfl | rfl
      · exact this.1 rfl
      · exact this.2 rfl
    | cons a c =>
      have h3 := pth_d hA hB hc.2 (hcn a List.mem_cons_self) (fun t ht => hcn t (List.mem_cons_of_mem _ ht))
      rw [exz_i (by omega), show 1 - (1 - j) = j by omega, hc.1] at h3
      exact ⟨a, c, rfl, h3⟩
  refine orz_d ho h (hp.trans (prm_x hi)) (fun c hc => ?_)
  rcases List.mem_append.mp hc with h9 | h9
  · exact cyz_d hA hB (h.1 c (List.mem_append_left _ h9)) (nc c hc)
  · rcases List.mem_cons.mp h9 with h8 | h8
    · rw [h8]
      exact cyz_r (part (j := 1 - i) (by omega) (by rw [show 1 - (1 - i) = i by omega]; exact q2) mX)
    · rcases List.mem_cons.mp h8 with h7 | h7
      · rw [h7]
        exact part hi q1 mY
      · exact cyz_d hA hB (h.1 c (List.mem_append_right _ (List.mem_cons_of_mem _ h7))) (nc c hc)
/-- smoothed between two components -/
theorem orz_s2 {g x i : Nat} {a1 a2 b1 b2 : List tk9} (ho : okw n (B ++ (g, x) :: A)) (hi : i < 2) (h : orz n (B ++ (g, x) :: A) (P ++ (a1 ++ (x, i) :: a2) :: (M ++ (b1 ++ (x, 1 - i) :: b2) :: Q))) : orz n (B ++ A) (P ++ (a1 ++ (b2 ++ (b1 ++ a2))) :: (M ++ Q)) := by
  obtain ⟨hA, hB, -⟩ := okw_d ho
  have hp : (P ++ (a1 ++ (x, i) :: a2) :: (M ++ (b1 ++ (x, 1 - i) :: b2) :: Q)).flatten.Perm ((x, i) :: (x, 1 - i) :: (P ++ (a1 ++ (b2 ++ (b1 ++ a2))) :: (M ++ Q)).flatten) := by
    refine List.perm_iff_count.mpr (fun t => ?_)
    simp only [List.flatten_append, List.flatten_cons, List.count_append, List.count_cons]
    omega
  have hn := (hp.trans (prm_x hi)).nodup_iff.mp h.2.1
  have nv : ∀ t, t ∈ (P ++ (a1 ++ (b2 ++ (b1 ++ a2))) :: (M ++ Q)).flatten → nov x t := fun t ht => by
    rw [List.nodup_cons, List.nodup_cons] at hn
    exact ⟨fun h8 => hn.1 (by rw [← h8]; exact List.mem_cons_of_mem _ ht), fun h8 => hn.2.1 (by rw [← h8]; exact ht)⟩
  have nc : ∀ c, c ∈ P ++ (a1 ++ (b2 ++ (b1 ++ a2))) :: (M ++ Q) → ∀ t, t ∈ c → nov x t := fun c hc t ht => nv t (List.mem_flatten.mpr ⟨c, hc, ht⟩)
  have nm : ∀ t, t ∈ a1 ++ (b2 ++ (b1 ++ a2)) → nov x t := nc _ (List.mem_append_right _ List.mem_cons_self)
  have h1 : cyz (sgm (B ++ (g, x) :: A)) ((x, i) :: (a2 ++ a1)) := cyz_r (h.1 _ (List.mem_append_right P List.mem_cons_self))
  have h2 : cyz (sgm (B ++ (g, x) :: A)) ((x, 1 - i) :: (b2 ++ b1)) := cyz_r (h.1 _ (List.mem_append_right P (List.mem_cons_of_mem _ (List.mem_append_right M List.mem_cons_self))))
  have m1 : ∀ t, t ∈ a2 ++ a1 → nov x t := fun t ht => nm t (by
    simp only [List.mem_append] at ht ⊢
    rcases ht with h9 | h9
    · exact Or.inr (Or.inr (Or.inr h9))
    · exact Or.inl h9)
  have m2 : ∀ t, t ∈ b2 ++ b1 → nov x t := fun t ht => nm t (by
    simp only [List.mem_append] at ht ⊢
    rcases ht with h9 | h9
    · exact Or.inr (Or.inl h9)
    · exact Or.inr (Or.inr (Or.inl h9)))
  generalize ea : a2 ++ a1 = a at h1 m1
  generalize eb : b2 ++ b1 = b at h2 m2
  obtain ⟨p, r, e, q1⟩ := h1
  obtain ⟨rfl, rfl⟩ := List.cons.inj e
  obtain ⟨p, r, e, q2⟩ := h2
  obtain ⟨rfl, rfl⟩ := List.cons.inj e
  have ne : ∀ {j : Nat} {c : List tk9}, j < 2 → pth (sgm (B ++ (g, x) :: A)) (x, j) c (x, j) → ∃ t c', c = t :: c' := by
    intro j c hj hc
    cases c with
    | nil =>
      exfalso
      have := sgm_x (A := A) (g := g) hj hB
      rw [show sgm (B ++ (g, x) :: A) (x, j) = (x, j) from hc] at this
      rcases (show j = 0 ∨ j = 1 by omega) with rfl | rfl
      · exact this.2 rfl
      · exact this.1 rfl
    | cons t c => exact ⟨t, c, rfl⟩
  obtain ⟨t1, c1, rfl⟩ := ne hi q1
  obtain ⟨t2, c2, rfl⟩ := ne (by omega) q2
  have k1 := pth_d hA hB q1.2 (m1 t1 List.mem_cons_self) (fun t ht => m1 t (List.mem_cons_of_mem _ ht))
  have k2 := pth_d hA hB q2.2 (m2 t2 List.mem_cons_self) (fun t ht => m2 t (List.mem_cons_of_mem _ ht))
  rw [exz_i hi, q2.1] at k1
  rw [exz_i (by omega), show 1 - (1 - i) = i by omega, q1.1] at k2
  have hnew : cyz (sgm (B ++ A)) ((a2 ++ a1) ++ (b2 ++ b1)) := by
    rw [ea, eb]
    exact ⟨t1, c1 ++ t2 :: c2, rfl, pth_a.mpr ⟨k1, k2⟩⟩
  refine orz_d ho h (hp.trans (prm_x hi)) (fun c hc => ?_)
  rcases List.mem_append.mp hc with h9 | h9
  · exact cyz_d hA hB (h.1 c (List.mem_append_left _ h9)) (nc c hc)
  · rcases List.mem_cons.mp h9 with h8 | h8
    · rw [h8]
      have := cyz_r (a := a2) (b := a1 ++ (b2 ++ b1)) (by simpa only [List.append_assoc] using hnew)
      simpa only [List.append_assoc] using this
    · refine cyz_d hA hB (h.1 c (List.mem_append_right _ (List.mem_cons_of_mem _ ?_))) (nc c hc)
      rcases List.mem_append.mp h8 with h7 | h7
      · exact List.mem_append_left _ h7
      · exact List.mem_append_right _ (List.mem_cons_of_mem _ h7)
end XTW3
end
