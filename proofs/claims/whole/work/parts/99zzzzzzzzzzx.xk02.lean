/-! exact: moves of kinds 0 and 2 of the reference -/
def O0 (A : rn_L) (sg : Nat → Bool) (k : Nat) (A' : rn_L) (sg' : Nat → Bool) : Prop := sg' = sg ∧ ∃ v, v < k ∧ rn_nx A v = mtf A v ∧ A' = woA (crs A v) (crs A v) A
def tw2 (A : rn_L) (sg : Nat → Bool) (v : Nat) : Prop := uns A v = 0 ∧ uns A (rn_nx A v) = 0 ∧ crs A v ≠ crs A (rn_nx A v) ∧ sg (crs A v) ≠ sg (crs A (rn_nx A v)) ∧ (rn_nx A (mtf A v) = mtf A (rn_nx A v) ∨ rn_nx A (mtf A (rn_nx A v)) = mtf A v)
def O2 (A : rn_L) (sg : Nat → Bool) (k : Nat) (A' : rn_L) (sg' : Nat → Bool) : Prop := sg' = sg ∧ ∃ v, v < k ∧ tw2 A sg v ∧ A' = woA (crs A v) (crs A (rn_nx A v)) A
section XK0
variable {Φ : ow_MS → (List Nat → Prop) → Nat → Prop} {n L : Nat} {z : ow_MS} {A : rn_L} {sg : Nat → Bool} {S : List Nat → Prop}
theorem sg_ne {b c : Bool} : ((if b = true then (-1 : Int32) else 1) = (if c = true then -1 else 1)) ↔ b = c := by
  cases b <;> cases c <;> decide
theorem exs_s {P : Nat → Prop} {v : Nat} : (∃ i, i < v + 1 ∧ P i) ↔ (∃ i, i < v ∧ P i) ∨ P v := by
  constructor
  · rintro ⟨i, h1, h2⟩
    by_cases e : i = v
    · rw [e] at h2
      exact Or.inr h2
    · exact Or.inl ⟨i, by omega, h2⟩
  · rintro (⟨i, h1, h2⟩ | h)
    · exact ⟨i, by omega, h2⟩
    · exact ⟨v, by omega, h⟩
theorem xr_k0 (hΦ : snkF Φ) (hn : mw_net n) (hn3 : n ≠ 3000) (hL : L + 24 ≤ 2700) (hO : oNet z n A sg) (h : Φ z S L) : Te (fun K => qe_X13_tryMoves K n (nI 0) z) (fun z1 => (∃ S', adS S S' (O0 A sg A.flatten.length) ∧ Φ z1 S' (L + 24)) ∧ fr frC z z1) := by
  have hl := hO.len
  have hd := wkF_ok hO.wk
  let Q : ow_MS → Prop := fun z1 => (∃ S', adS S S' (O0 A sg A.flatten.length) ∧ Φ z1 S' (L + 24)) ∧ fr frC z z1
  have l1 : ∀ (k v : Nat) (y : ow_MS), v + k = A.flatten.length → fr frC z y → (∃ S1, adS S S1 (O0 A sg v) ∧ Φ y S1 (L + v)) → Tt (fun K i => q_X13_tryMoves K i 1 (nI 0) (nI v) n y) Q := by
    intro k
    induction k with
    | zero =>
      intro v y hv hf ⟨S1, a1, a2⟩
      have hve : v = A.flatten.length := by omega
      rw [hve] at a1
      have o2 := oNet_C hn hn3 hf hO
      refine u_X13_tryMoves_1 ?_; unfold qm_X13_tryMoves_1
      exact w_rdF o2.1.V (w_leT (by omega) (by omega) (w_some ⟨⟨S1, a1, hΦ.2.2 _ _ _ _ (by omega) a2⟩, hf⟩))
    | succ k ih =>
      intro v y hv hf ⟨S1, a1, a2⟩
      have o2 := oNet_C hn hn3 hf hO
      have hvl : v < A.flatten.length := by omega
      have hnl := rn_nx_lt (A := A) hvl
      have hm1 := mtf_lt hd hvl
      have x1 := (o2.cx hvl).1
      have c2 : ∀ (y2 : ow_MS), fr frC z y2 → (∃ S2, adS S S2 (O0 A sg (v + 1)) ∧ Φ y2 S2 (L + (v + 1))) → Tt (fun K i => q_X13_tryMoves K i 2 (nI 0) (nI v) n y2) Q := by
        intro y2 hf2 ho2
        refine u_X13_tryMoves_2 ?_; unfold qm_X13_tryMoves_2
        rw [nI_1]
        exact ih (v + 1) y2 (by omega) hf2 ho2
      refine u_X13_tryMoves_1 ?_; unfold qm_X13_tryMoves_1
      refine w_rdF o2.1.V (w_leF (by omega) hvl (w_rdI (pl9 hn) rfl (by omega) (lk_n o2.1 hvl) (w_rdI (pl7 hn) rfl (by omega) (lk_m hd o2.1 hvl) (w_eqN (by omega) (by omega) (fun h9 => w_rdI (pl4 hn) rfl (by omega) (lk_cu o2.1 hvl).1 (w_rdI (pl4 hn) rfl (by omega) (lk_cu o2.1 hvl).1 (w_cs0 (xr_without hΦ hn hn3 (by omega) (by omega) (by omega) o2 a2) (fun y2 ⟨⟨S2, k0, k1⟩, k2⟩ => c2 y2 (fr_tr hf (fr_mono (fun g hg => by unfold frB at hg; unfold frC; omega) k2)) ⟨S2, adS_eq (adS_tr a1 k0) (fun A' sg' => ?_), hΦ.2.2 _ _ _ _ (by omega) k1⟩)))) (fun h9 => c2 y hf ⟨S1, adS_eq a1 (fun A' sg' => ?_), hΦ.2.2 _ _ _ _ (by omega) a2⟩)))))
      · unfold O0
        rw [exs_s]
        constructor
        · rintro (⟨e, h8⟩ | ⟨e1, e2⟩)
          · exact ⟨e, Or.inl h8⟩
          · exact ⟨e2, Or.inr ⟨h9, e1⟩⟩
        · rintro ⟨e, h8 | ⟨-, h8⟩⟩
          · exact Or.inl ⟨e, h8⟩
          · exact Or.inr ⟨h8, e⟩
      · unfold O0
        rw [exs_s]
        constructor
        · rintro ⟨e, h8⟩
          exact ⟨e, Or.inl h8⟩
        · rintro ⟨e, h8 | ⟨h8, -⟩⟩
          · exact ⟨e, h8⟩
          · exact absurd h8 h9
  refine e_X13_tryMoves ?_
  refine u_X13_tryMoves_0 ?_; unfold qm_X13_tryMoves_0
  refine w_ifF (by decide) (w_ifT rfl (l1 _ 0 z (Nat.zero_add _) fr_rf ⟨S, ?_, h⟩))
  refine adS_eq adS_rf (fun A' sg' => ⟨fun h9 => h9.elim, fun ⟨_, i, h9, _⟩ => absurd h9 (Nat.not_lt_zero _)⟩)
theorem xr_twoGo (hΦ : snkF Φ) (hn : mw_net n) (hn3 : n ≠ 3000) (hL : L + 24 ≤ 2700) (hO : oNet z n A sg) (h : Φ z S L) : Te (fun K => qe_X13_twoGo K n z) (fun z1 => (∃ S', adS S S' (O2 A sg A.flatten.length) ∧ Φ z1 S' (L + 24)) ∧ fr frC z z1) := by
  have hl := hO.len
  have hd := wkF_ok hO.wk
  let Q : ow_MS → Prop := fun z1 => (∃ S', adS S S' (O2 A sg A.flatten.length) ∧ Φ z1 S' (L + 24)) ∧ fr frC z z1
  have key : ∀ (k v : Nat) (y : ow_MS), v + k = A.flatten.length → fr frC z y → (∃ S1, adS S S1 (O2 A sg v) ∧ Φ y S1 (L + v)) → Tt (fun K i => q_X13_twoGo K i 1 (nI v) 0 0 0 n y) Q := by
    intro k
    induction k with
    | zero =>
      intro v y hv hf ⟨S1, a1, a2⟩
      have hve : v = A.flatten.length := by omega
      rw [hve] at a1
      have o2 := oNet_C hn hn3 hf hO
      refine u_X13_twoGo_1 ?_; unfold qm_X13_twoGo_1
      exact w_rdF o2.1.V (w_leT (by omega) (by omega) (w_some ⟨⟨S1, a1, hΦ.2.2 _ _ _ _ (by omega) a2⟩, hf⟩))
    | succ k ih =>
      intro v y hv hf ⟨S1, a1, a2⟩
      have o2 := oNet_C hn hn3 hf hO
      have hvl : v < A.flatten.length := by omega
      have hnl := rn_nx_lt (A := A) hvl
      have hm1 := mtf_lt hd hvl
      have hm2 := mtf_lt hd hnl
      have hnm1 := rn_nx_lt (A := A) hm1
      have hnm2 := rn_nx_lt (A := A) hm2
      obtain ⟨x1, xu, -⟩ := o2.cx hvl
      obtain ⟨x2, xu2, -⟩ := o2.cx hnl
      have u1 : uns A v < 2 := (hO.wk.2 _ (vAt_mem hvl)).2.1
      have u2 : uns A (rn_nx A v) < 2 := (hO.wk.2 _ (vAt_mem hnl)).2.1
      have c3 : ∀ (y2 : ow_MS) (a b c : Int32), fr frC z y2 → (∃ S2, adS S S2 (O2 A sg (v + 1)) ∧ Φ y2 S2 (L + (v + 1))) → Tt (fun K i => q_X13_twoGo K i 3 (nI v) a b c n y2) Q := by
        intro y2 a b c hf2 ho2
        refine u_X13_twoGo_3 ?_; unfold qm_X13_twoGo_3
        rw [nI_1]
        exact ih (v + 1) y2 (by omega) hf2 ho2
      have c2 : tw2 A sg v → ∀ (a b : Int32), Tt (fun K i => q_X13_twoGo K i 2 (nI v) (nI (rn_nx A v)) a b n y) Q := by
        intro htw a b
        refine u_X13_twoGo_2 ?_; unfold qm_X13_twoGo_2
        refine w_rdI (pl4 hn) rfl (by omega) (lk_cu o2.1 hvl).1 (w_rdI (pl4 hn) rfl (by omega) (lk_cu o2.1 hnl).1 (w_cs0 (xr_without hΦ hn hn3 (by omega) (by omega) (by omega) o2 a2) (fun y2 ⟨⟨S2, k0, k1⟩, k2⟩ => c3 y2 _ _ _ (fr_tr hf (fr_mono (fun g hg => by unfold frB at hg; unfold frC; omega) k2)) ⟨S2, adS_eq (adS_tr a1 k0) (fun A' sg' => ?_), hΦ.2.2 _ _ _ _ (by omega) k1⟩)))
        unfold O2
        rw [exs_s]
        constructor
        · rintro (⟨e, h8⟩ | ⟨e1, e2⟩)
          · exact ⟨e, Or.inl h8⟩
          · exact ⟨e2, Or.inr ⟨htw, e1⟩⟩
        · rintro ⟨e, h8 | ⟨-, h8⟩⟩
          · exact Or.inl ⟨e, h8⟩
          · exact Or.inr ⟨h8, e⟩
      have c33 : ¬ tw2 A sg v → ∀ a b c : Int32, Tt (fun K i => q_X13_twoGo K i 3 (nI v) a b c n y) Q := fun hno a b c => c3 y a b c hf ⟨S1, adS_eq a1 (fun A' sg' => by
        unfold O2
        rw [exs_s]
        constructor
        · rintro ⟨e, h8⟩
          exact ⟨e, Or.inl h8⟩
        · rintro ⟨e, h8 | ⟨h8, -⟩⟩
          · exact ⟨e, h8⟩
          · exact absurd h8 hno), hΦ.2.2 _ _ _ _ (by omega) a2⟩
      have e4 := (lk_cu o2.1 hvl).1
      have e4n := (lk_cu o2.1 hnl).1
      have e6 : y.2.1 (n + 6) (crs A v) = if sg (crs A v) = true then -1 else 1 := o2.2.1 _ (vAt_mem hvl)
      have e6n : y.2.1 (n + 6) (crs A (rn_nx A v)) = if sg (crs A (rn_nx A v)) = true then -1 else 1 := o2.2.1 _ (vAt_mem hnl)
      refine u_X13_twoGo_1 ?_; unfold qm_X13_twoGo_1
      exact w_rdF o2.1.V (w_leF (by omega) hvl (w_rdI (pl9 hn) rfl (by omega) (lk_n o2.1 hvl) (w_rdI (pl5 hn) rfl (by omega) (lk_cu o2.1 hvl).2 (w_eqN (b := 0) (by omega) (by omega) (fun h1 => w_rdI (pl5 hn) rfl (by omega) (lk_cu o2.1 hnl).2 (w_eqN (b := 0) (by omega) (by omega) (fun h2 => w_rdI (pl4 hn) rfl (by omega) e4 (w_rdI (pl4 hn) rfl (by omega) e4n (w_eqN (by omega) (by omega) (fun h3 => c33 (fun h9 => h9.2.2.1 h3) _ _ _) (fun h3 => w_rdI (pl4 hn) rfl (by omega) e4 (w_rdI (pl6 hn) rfl (by omega) e6 (w_rdI (pl4 hn) rfl (by omega) e4n (w_rdI (pl6 hn) rfl (by omega) e6n (w_if (fun h4 => c33 (fun h9 => h9.2.2.2.1 (sg_ne.mp h4)) _ _ _) (fun h4 => w_rdI (pl7 hn) rfl (by omega) (lk_m hd o2.1 hvl) (w_rdI (pl7 hn) rfl (by omega) (lk_m hd o2.1 hnl) (w_rdI (pl9 hn) rfl (by omega) (lk_n o2.1 hm1) (w_eqN (by omega) (by omega) (fun h5 => c2 ⟨h1, h2, h3, fun h8 => h4 (sg_ne.mpr h8), Or.inl h5⟩ _ _) (fun h5 => w_rdI (pl9 hn) rfl (by omega) (lk_n o2.1 hm2) (w_eqN (by omega) (by omega) (fun h6 => c2 ⟨h1, h2, h3, fun h8 => h4 (sg_ne.mpr h8), Or.inr h6⟩ _ _) (fun h6 => c33 (fun h9 => h9.2.2.2.2.elim h5 h6) _ _ _)))))))))))))) ) (fun h2 => c33 (fun h9 => h2 h9.2.1) _ _ _))) (fun h1 => c33 (fun h9 => h1 h9.1) _ _ _)))))
  refine e_X13_twoGo ?_
  refine u_X13_twoGo_0 ?_; unfold qm_X13_twoGo_0
  refine key _ 0 z (Nat.zero_add _) fr_rf ⟨S, ?_, h⟩
  exact adS_eq adS_rf (fun A' sg' => ⟨fun h9 => h9.elim, fun ⟨_, i, h9, _⟩ => absurd h9 (Nat.not_lt_zero _)⟩)
end XK0
