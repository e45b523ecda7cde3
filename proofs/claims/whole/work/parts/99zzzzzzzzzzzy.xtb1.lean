/-! moves are taken back: two visits beside one another, out and in again -/
def flr (r r' : vT) (L : List vT) : List vT := L.filter (fun q => decide (q ≠ r) && decide (q ≠ r'))
def flA (r r' : vT) (A : rn_L) : rn_L := A.map (flr r r')
/-- one visit stands behind the other -/
def bsA (A : rn_L) (r r' : vT) : Prop := ∃ L, L ∈ A ∧ r ∈ L ∧ sc L r = r'
section XTB
variable {A Pre Post : rn_L} {p q r r' s s' : vT} {P X Y U V L : List vT} {g : vT → Nat} {S : ow_NP} {i : Nat} {b : vT → Bool}
theorem shP_rot (hn : (Pre ++ (U ++ V) :: Post).flatten.Nodup) (h : shP S g (Pre ++ (V ++ U) :: Post)) : shP S g (Pre ++ (U ++ V) :: Post) := by
  have nC : (U ++ V).Nodup := L_nd hn (by simp)
  intro L hL
  rcases List.mem_append.mp hL with h9 | h9
  · exact h L (List.mem_append_left _ h9)
  · rcases List.mem_cons.mp h9 with h9 | h9
    · rw [h9]
      intro p hp
      have hp' : p ∈ V ++ U := by
        rcases List.mem_append.mp hp with h8 | h8
        · exact List.mem_append_right _ h8
        · exact List.mem_append_left _ h8
      rw [← sc_rot nC hp]
      exact h (V ++ U) (by simp) p hp'
    · exact h L (List.mem_append_right _ (List.mem_cons_of_mem _ h9))
theorem beside (hn : L.Nodup) (hr : r ∈ L) (hne : r ≠ r') (e : sc L r = r') : (∃ X Y, L = X ++ r :: r' :: Y) ∨ ∃ Z, L = r' :: (Z ++ [r]) := by
  obtain ⟨X, Y, rfl⟩ := List.append_of_mem hr
  have h1 := nd_mid hn
  rw [sc_hd h1.1] at e
  cases Y with
  | cons q Y =>
    have e : q = r' := e
    subst e
    exact Or.inl ⟨X, Y, rfl⟩
  | nil =>
    cases X with
    | nil => exact absurd e hne
    | cons a X =>
      have e : a = r' := e
      subst e
      exact Or.inr ⟨X, rfl⟩
theorem flr_no (h1 : r ∉ L) (h2 : r' ∉ L) : flr r r' L = L := by
  refine List.filter_eq_self.mpr (fun a ha => ?_)
  rw [decide_eq_true (show a ≠ r from fun e => h1 (by rw [← e]; exact ha)), decide_eq_true (show a ≠ r' from fun e => h2 (by rw [← e]; exact ha))]
  rfl
theorem flr_app : flr r r' (U ++ V) = flr r r' U ++ flr r r' V := List.filter_append ..
theorem flr_1 : flr r r' (r :: L) = flr r r' L := by
  unfold flr
  rw [List.filter_cons_of_neg]
  simp
theorem flr_2 : flr r r' (r' :: L) = flr r r' L := by
  unfold flr
  rw [List.filter_cons_of_neg]
  simp
theorem put2 (hn1 : (Pre ++ (X ++ p :: r :: r' :: Y) :: Post).flatten.Nodup) (hg : gin g (Pre ++ (X ++ p :: r :: r' :: Y) :: Post).flatten) (h : shP S g (Pre ++ (X ++ p :: Y) :: Post)) : shP (np_putBehind (np_putBehind S (g p) (g r)) (g r) (g r')) g (Pre ++ (X ++ p :: r :: r' :: Y) :: Post) := by
  have sl : (Pre ++ (X ++ p :: r :: Y) :: Post).flatten.Sublist (Pre ++ (X ++ p :: r :: r' :: Y) :: Post).flatten := by
    rw [List.flatten_append, List.flatten_cons, List.flatten_append, List.flatten_cons]
    refine List.Sublist.append (List.Sublist.refl _) (List.Sublist.append (List.Sublist.append (List.Sublist.refl _) ?_) (List.Sublist.refl _))
    exact List.Sublist.cons₂ _ (List.Sublist.cons₂ _ (List.sublist_cons_self _ _))
  have h1 := shP_put1 (List.Sublist.nodup sl hn1) (gin_sub hg (fun a ha => sl.subset ha)) h
  have e1 : X ++ p :: r :: Y = (X ++ [p]) ++ r :: Y := by simp
  have e2 : X ++ p :: r :: r' :: Y = (X ++ [p]) ++ r :: r' :: Y := by simp
  rw [e1] at h1
  rw [e2] at hn1 hg ⊢
  exact shP_put1 hn1 hg h1
theorem putE (hn1 : (Pre ++ [r, r'] :: Post).flatten.Nodup) (hg : gin g (Pre ++ [r, r'] :: Post).flatten) (h : shP S g (Pre ++ [] :: Post)) : shP (np_putBehind (nl S (g r) (g r)) (g r) (g r')) g (Pre ++ [r, r'] :: Post) := by
  have sl : (Pre ++ [r] :: Post).flatten.Sublist (Pre ++ [r, r'] :: Post).flatten := by
    rw [List.flatten_append, List.flatten_cons, List.flatten_append, List.flatten_cons]
    refine List.Sublist.append (List.Sublist.refl _) (List.Sublist.append ?_ (List.Sublist.refl _))
    exact List.Sublist.cons₂ _ (List.sublist_cons_self _ _)
  have h1 := shP_nil (List.Sublist.nodup sl hn1) (gin_sub hg (fun a ha => sl.subset ha)) h
  exact shP_put1 (X := []) (Y := []) hn1 hg h1
/-- a pair that was taken out comes back -/
theorem rput (hn : A.flatten.Nodup) (hb : bsA A r r') (hne : r ≠ r') (hg : gin g A.flatten) : ∃ af, ((∃ p, p ∈ (flA r r' A).flatten ∧ bsA A p r ∧ af = some (g p)) ∨ af = none ∧ 0 < cirs (flA r r' A)) ∧ ∀ T : ow_NT, shP T.2.2.1 g (flA r r' A) → cirs (flA r r' A) = T.2.1 → shP (nt_pair T af (g r) (g r')).2.2.1 g A ∧ cirs A = (nt_pair T af (g r) (g r')).2.1 := by
  obtain ⟨L, hL, hr, e⟩ := hb
  have nL := L_nd hn hL
  have hr' : r' ∈ L := by rw [← e]; exact sc_in hr nL
  obtain ⟨Pre, Post, rfl⟩ := List.append_of_mem hL
  have rest : ∀ B : rn_L, (∀ K, K ∈ B → K ∈ Pre ∨ K ∈ Post) → B.map (flr r r') = B := fun B hB => (List.map_congr_left (fun K hK => flr_no (fun h9 => dj_L hn (hB K hK) h9 hr rfl) (fun h9 => dj_L hn (hB K hK) h9 hr' rfl))).trans (List.map_id _)
  have eF : flA r r' (Pre ++ L :: Post) = Pre ++ flr r r' L :: Post := by
    unfold flA
    rw [List.map_append, List.map_cons, rest Pre (fun K h => Or.inl h), rest Post (fun K h => Or.inr h)]
  rw [eF]
  have pm : ∀ {U V : List vT}, L = U ++ V → (Pre ++ (V ++ U) :: Post).flatten.Perm (Pre ++ L :: Post).flatten := by
    intro U V e9
    rw [e9, List.flatten_append, List.flatten_append, List.flatten_cons, List.flatten_cons]
    exact List.Perm.append_left _ (List.Perm.append_right _ List.perm_append_comm)
  have ne : L ≠ [] := fun h9 => by rw [h9] at hr; cases hr
  have main1 : ∀ (U V X Y : List vT) (p : vT), L = U ++ V → V ++ U = X ++ p :: r :: r' :: Y → flr r r' L = X ++ p :: Y → ∃ af, ((∃ p, p ∈ (Pre ++ flr r r' L :: Post).flatten ∧ bsA (Pre ++ L :: Post) p r ∧ af = some (g p)) ∨ af = none ∧ 0 < cirs (Pre ++ flr r r' L :: Post)) ∧ ∀ T : ow_NT, shP T.2.2.1 g (Pre ++ flr r r' L :: Post) → cirs (Pre ++ flr r r' L :: Post) = T.2.1 → shP (nt_pair T af (g r) (g r')).2.2.1 g (Pre ++ L :: Post) ∧ cirs (Pre ++ L :: Post) = (nt_pair T af (g r) (g r')).2.1 := by
    intro U V X Y p e1 e2 e3
    have q := pm e1
    have n1 := q.nodup_iff.mpr hn
    have g1 : gin g (Pre ++ (V ++ U) :: Post).flatten := gin_sub hg (fun a ha => q.mem_iff.mp ha)
    have nVU : (V ++ U).Nodup := L_nd n1 (by simp)
    rw [e2] at n1 g1
    have hp : p ∈ V ++ U := by rw [e2]; simp
    refine ⟨some (g p), Or.inl ⟨p, ?_, ⟨L, by simp, ?_, ?_⟩, rfl⟩, fun T hS hC => ⟨?_, ?_⟩⟩
    · rw [e3]
      exact List.mem_flatten.mpr ⟨X ++ p :: Y, by simp, by simp⟩
    · rw [e1]
      rcases List.mem_append.mp hp with h8 | h8
      · exact List.mem_append_right _ h8
      · exact List.mem_append_left _ h8
    · rw [e1, sc_rot nVU hp, e2]
      rw [e2] at nVU
      exact sc_mid (nd_mid nVU).1
    · rw [e3] at hS
      have hs := put2 n1 g1 hS
      rw [← e2] at hs
      have := shP_rot (S := (nt_pair T (some (g p)) (g r) (g r')).2.2.1) (by rw [← e1]; exact hn) hs
      rw [← e1] at this
      exact this
    · show _ = T.2.1
      rw [← hC, cirs_app2, cirs_app2, cirs_ne ne, cirs_ne (by rw [e3]; simp)]
  have main2 : ∀ (U V : List vT), L = U ++ V → V ++ U = [r, r'] → flr r r' L = [] → ∃ af, ((∃ p, p ∈ (Pre ++ flr r r' L :: Post).flatten ∧ bsA (Pre ++ L :: Post) p r ∧ af = some (g p)) ∨ af = none ∧ 0 < cirs (Pre ++ flr r r' L :: Post)) ∧ ∀ T : ow_NT, shP T.2.2.1 g (Pre ++ flr r r' L :: Post) → cirs (Pre ++ flr r r' L :: Post) = T.2.1 → shP (nt_pair T af (g r) (g r')).2.2.1 g (Pre ++ L :: Post) ∧ cirs (Pre ++ L :: Post) = (nt_pair T af (g r) (g r')).2.1 := by
    intro U V e1 e2 e3
    have q := pm e1
    have n1 := q.nodup_iff.mpr hn
    have g1 : gin g (Pre ++ (V ++ U) :: Post).flatten := gin_sub hg (fun a ha => q.mem_iff.mp ha)
    rw [e3]
    rw [e2] at n1 g1
    have hc1 : cirs (Pre ++ [] :: Post) = cirs (Pre ++ L :: Post) + 1 := by
      rw [cirs_app2, cirs_app2, cirs_ne ne, cirs_cons, if_pos rfl]
      omega
    refine ⟨none, Or.inr ⟨rfl, by omega⟩, fun T hS hC => ⟨?_, ?_⟩⟩
    · have hs := putE n1 g1 hS
      rw [← e2] at hs
      have := shP_rot (S := (nt_pair T none (g r) (g r')).2.2.1) (by rw [← e1]; exact hn) hs
      rw [← e1] at this
      exact this
    · show _ = T.2.1 - 1
      omega
  rcases beside nL hr hne e with ⟨X, Y, hXY⟩ | ⟨Z, hZ⟩
  · have nx : (X ++ r :: r' :: Y).Nodup := by rw [← hXY]; exact nL
    have m1 := nd_mid nx
    have m2 := nd_mid (X := X ++ [r]) (Y := Y) (p := r') (by simpa using nx)
    have eL : flr r r' L = X ++ Y := by
      rw [hXY, flr_app, flr_1, flr_2, flr_no m1.1 (fun h9 => m2.1 (List.mem_append_left _ h9)), flr_no (fun h9 => m1.2 (List.mem_cons_of_mem _ h9)) m2.2]
    rcases List.eq_nil_or_concat X with h9 | ⟨X', p, h9⟩
    · rcases List.eq_nil_or_concat Y with h8 | ⟨Y', p, h8⟩
      · rw [h9, h8] at hXY eL
        exact main2 [] [r, r'] hXY rfl eL
      · rw [h9, h8, List.concat_eq_append] at hXY eL
        exact main1 [r, r'] (Y' ++ [p]) Y' [] p hXY (by simp) eL
    · rw [h9, List.concat_eq_append] at hXY eL
      exact main1 [] L X' Y p rfl (by rw [hXY]; simp) (by rw [eL]; simp)
  · have nx : (r' :: (Z ++ [r])).Nodup := by rw [← hZ]; exact nL
    have n2 := List.nodup_cons.mp nx
    have m1 := nd_mid n2.2
    have eL : flr r r' L = Z := by
      rw [hZ, flr_2, flr_app, flr_1, flr_no m1.1 (fun h9 => n2.1 (List.mem_append_left _ h9))]
      exact List.append_nil _
    rcases List.eq_nil_or_concat Z with h9 | ⟨Z', p, h9⟩
    · rw [h9] at hZ eL
      exact main2 [r'] [r] hZ rfl eL
    · rw [h9, List.concat_eq_append] at hZ eL
      exact main1 [r'] ((Z' ++ [p]) ++ [r]) Z' [] p hZ (by simp) eL
/-! what was put in is taken out -/
theorem fl_ins (hP : ∀ q, q ∈ P → b q = false) : ∀ L : List vT, (insL p P L).filter b = L.filter b
  | [] => rfl
  | a :: L => by
    have ih := fl_ins hP L
    have e : insL p P (a :: L) = (if a = p then a :: P else [a]) ++ insL p P L := rfl
    rw [e, List.filter_append, ih]
    by_cases q : a = p
    · rw [if_pos q]
      have hN : P.filter b = [] := List.filter_eq_nil_iff.mpr (fun x hx => by rw [hP x hx]; decide)
      by_cases h9 : b a = true
      · rw [List.filter_cons_of_pos h9, List.filter_cons_of_pos h9, hN]
        rfl
      · rw [List.filter_cons_of_neg h9, List.filter_cons_of_neg h9, hN]
        rfl
    · rw [if_neg q]
      by_cases h9 : b a = true
      · rw [List.filter_cons_of_pos h9, List.filter_cons_of_pos h9]
        rfl
      · rw [List.filter_cons_of_neg h9, List.filter_cons_of_neg h9]
        rfl
theorem flA_ins (hP : ∀ q, q ∈ P → b q = false) : (insV A p P).map (List.filter b) = A.map (List.filter b) := by
  unfold insV
  rw [List.map_map]
  exact List.map_congr_left (fun L _ => fl_ins hP L)
theorem flA_set (hi : A[i]? = some []) (hP : ∀ q, q ∈ P → b q = false) : (A.set i P).map (List.filter b) = A.map (List.filter b) := by
  obtain ⟨Pre, Post, e1, e2⟩ := set_at hi
  rw [e2, e1, List.map_append, List.map_append, List.map_cons, List.map_cons]
  have hN : P.filter b = [] := List.filter_eq_nil_iff.mpr (fun x hx => by rw [hP x hx]; decide)
  rw [hN]
  rfl
theorem flA_id (h : ∀ q, q ∈ A.flatten → b q = true) : A.map (List.filter b) = A := (List.map_congr_left (fun L hL => List.filter_eq_self.mpr (fun q hq => h q (List.mem_flatten.mpr ⟨L, hL, hq⟩)))).trans (List.map_id _)
/-! who stands beside whom -/
theorem bs_ins (hn : A.flatten.Nodup) (hp : p ∈ A.flatten) (hn1 : (insV A p [s, s']).flatten.Nodup) (hb : bsA A r r') (hne : r ≠ p) : bsA (insV A p [s, s']) r r' := by
  obtain ⟨L, hL, hr, e⟩ := hb
  obtain ⟨Pre, X, Y, Post, rfl, e9⟩ := insV_at hn hp
  rw [e9] at hn1 ⊢
  rcases List.mem_append.mp hL with h9 | h9
  · exact ⟨L, List.mem_append_left _ h9, hr, e⟩
  · rcases List.mem_cons.mp h9 with h9 | h9
    · rw [h9] at hr e
      have n1 : (X ++ p :: ([s, s'] ++ Y)).Nodup := L_nd hn1 (by simp)
      have n1 : ((X ++ [p]) ++ s :: s' :: Y).Nodup := by simpa using n1
      have hs : s ∉ X ++ p :: Y ∧ s' ∉ X ++ p :: Y := by
        have m1 := nd_mid n1
        have m2 := nd_mid (X := X ++ [p] ++ [s]) (Y := Y) (p := s') (by simpa using n1)
        constructor
        · intro h8
          rcases List.mem_append.mp h8 with h7 | h7
          · exact m1.1 (List.mem_append_left _ h7)
          · rcases List.mem_cons.mp h7 with h7 | h7
            · exact m1.1 (by rw [h7]; simp)
            · exact m1.2 (List.mem_cons_of_mem _ h7)
        · intro h8
          rcases List.mem_append.mp h8 with h7 | h7
          · exact m2.1 (by simp [h7])
          · rcases List.mem_cons.mp h7 with h7 | h7
            · exact m2.1 (by simp [h7])
            · exact m2.2 h7
      have r1 : r ≠ s := fun h8 => hs.1 (by rw [← h8]; exact hr)
      have r2 : r ≠ s' := fun h8 => hs.2 (by rw [← h8]; exact hr)
      have hr2 : r ∈ X ++ p :: s :: Y := by
        rcases List.mem_append.mp hr with h7 | h7
        · exact List.mem_append_left _ h7
        · rcases List.mem_cons.mp h7 with h7 | h7
          · exact absurd h7 hne
          · exact List.mem_append_right _ (List.mem_cons_of_mem _ (List.mem_cons_of_mem _ h7))
      have hr3 : r ∈ (X ++ [p]) ++ s :: s' :: Y := by
        rcases List.mem_append.mp hr with h7 | h7
        · exact List.mem_append_left _ (List.mem_append_left _ h7)
        · rcases List.mem_cons.mp h7 with h7 | h7
          · exact absurd h7 hne
          · exact List.mem_append_right _ (List.mem_cons_of_mem _ (List.mem_cons_of_mem _ h7))
      have n2 : (X ++ p :: s :: Y).Nodup := by
        have : (X ++ p :: s :: Y).Sublist ((X ++ [p]) ++ s :: s' :: Y) := by
          rw [List.append_assoc]
          exact List.Sublist.append (List.Sublist.refl _) (List.Sublist.cons₂ _ (List.Sublist.cons₂ _ (List.sublist_cons_self _ _)))
        exact this.nodup n1
      refine ⟨X ++ p :: ([s, s'] ++ Y), by simp, by simpa using hr3, ?_⟩
      have q1 := sc_put (X := X ++ [p]) (p := s) (r := s') (Y := Y) (q := r) n1 hr3
      rw [if_neg r1, if_neg r2] at q1
      have q2 := sc_put (X := X) (p := p) (r := s) (Y := Y) (q := r) n2 hr2
      rw [if_neg hne, if_neg r1] at q2
      have e7 : (X ++ [p]) ++ s :: Y = X ++ p :: s :: Y := by simp
      have e8 : X ++ p :: ([s, s'] ++ Y) = (X ++ [p]) ++ s :: s' :: Y := by simp
      rw [e8, q1, e7, q2, e]
    · exact ⟨L, List.mem_append_right _ (List.mem_cons_of_mem _ h9), hr, e⟩
theorem bs_new {P1 P2 : List vT} (hn : A.flatten.Nodup) (hp : p ∈ A.flatten) (hn1 : (insV A p (P1 ++ s :: s' :: P2)).flatten.Nodup) : bsA (insV A p (P1 ++ s :: s' :: P2)) s s' := by
  obtain ⟨Pre, X, Y, Post, rfl, e9⟩ := insV_at hn hp
  rw [e9] at hn1 ⊢
  have n1 : (X ++ p :: (P1 ++ s :: s' :: P2 ++ Y)).Nodup := L_nd hn1 (by simp)
  have e8 : X ++ p :: (P1 ++ s :: s' :: P2 ++ Y) = (X ++ p :: P1) ++ s :: s' :: (P2 ++ Y) := by simp
  refine ⟨_, List.mem_append_right _ List.mem_cons_self, by simp, ?_⟩
  rw [e8] at n1 ⊢
  exact sc_mid (nd_mid n1).1
theorem bs_set (hi : A[i]? = some []) (hb : bsA A r r') : bsA (A.set i P) r r' := by
  obtain ⟨L, hL, hr, e⟩ := hb
  obtain ⟨Pre, Post, e1, e2⟩ := set_at hi
  rw [e2]
  rw [e1] at hL
  rcases List.mem_append.mp hL with h9 | h9
  · exact ⟨L, List.mem_append_left _ h9, hr, e⟩
  · rcases List.mem_cons.mp h9 with h9 | h9
    · rw [h9] at hr
      cases hr
    · exact ⟨L, List.mem_append_right _ (List.mem_cons_of_mem _ h9), hr, e⟩
theorem bs_setn {P1 P2 : List vT} (hi : A[i]? = some []) (hn : (P1 ++ s :: s' :: P2).Nodup) : bsA (A.set i (P1 ++ s :: s' :: P2)) s s' := by
  obtain ⟨Pre, Post, e1, e2⟩ := set_at hi
  rw [e2]
  exact ⟨_, List.mem_append_right _ List.mem_cons_self, by simp, sc_mid (nd_mid hn).1⟩
end XTB
