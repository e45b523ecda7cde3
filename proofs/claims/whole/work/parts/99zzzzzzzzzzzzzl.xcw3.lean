/-! smoothing, with the names of the crossings that are left -/
section ISMb
variable {A : rn_L} {sg : Nat → Bool} {f : Nat → Nat} {T : ow_NT} {P Mi Po : rn_L} {X Y Z W : List vT} {p q : vT}
theorem iso_sm0b {A1 : rn_L} {x : Nat} (h : isoV A1 sg f (T.1, T.2.1, np_exchange T.2.2.1 (gl f p) (gl f q), T.2.2.2)) (hv : vn T.1 T.2.2.1) (hp : p.1 = x) (hq : q = (x, 1 - p.2)) (hp2 : p.2 < 2) (hpA : p ∈ A1.flatten) : ∃ f', isoV (A1.map (List.filter (fun r => decide (r.1 ≠ x)))) sg f' (ntSm T (f x)) ∧ ∀ y, f' y = if f y = T.1 - 1 then f x else f y := by
  have hF := h.1.1
  have hqA : q ∈ A1.flatten := by
    have := (hF.2 p hpA).2.2
    rw [hp, ← hq] at this
    exact this
  have x0 : (x, 0) ∈ A1.flatten ∧ (p = (x, 0) ∧ q = (x, 1) ∨ p = (x, 1) ∧ q = (x, 0)) := by
    rcases (show p.2 = 0 ∨ p.2 = 1 by omega) with e | e
    · have e1 : p = (x, 0) := Prod.ext hp e
      rw [e] at hq
      exact ⟨by rw [← e1]; exact hpA, Or.inl ⟨e1, hq⟩⟩
    · have e1 : p = (x, 1) := Prod.ext hp e
      rw [e] at hq
      exact ⟨by have hq' : q = (x, 0) := hq; rw [← hq']; exact hqA, Or.inr ⟨e1, hq⟩⟩
  obtain ⟨f', k1, kf⟩ := iso_rm h x0.1
  refine ⟨f', ?_, kf⟩
  have ew : wox A1 x = A1.map (List.filter (fun r => decide (r.1 ≠ x))) := by
    unfold wox rmv
    rw [List.map_map]
    exact List.map_congr_left (fun L hL => woL (fun r hr => (hF.2 r (List.mem_flatten.mpr ⟨L, hL, hr⟩)).2.1))
  rw [ew] at k1
  have hfx : f x < T.1 := h.1.2.2.2.1 _ x0.1
  have eT : nt_rm (T.1, T.2.1, np_exchange T.2.2.1 (gl f p) (gl f q), T.2.2.2) (f x) = ntSm T (f x) := by
    unfold ntSm
    rcases x0.2 with ⟨e1, e2⟩ | ⟨e1, e2⟩
    · rw [e1, e2]
      rfl
    · rw [e1, e2]
      rw [show np_exchange T.2.2.1 (gl f (x, 1)) (gl f (x, 0)) = np_exchange T.2.2.1 (2 * f x) (2 * f x + 1) from ex_comm (v := 2 * f x + 1) (w := 2 * f x) hv (by omega) (by omega) (by omega)]
  rw [eT] at k1
  exact k1
theorem iso_sm1b {x : Nat} (hAe : A = P ++ (X ++ p :: (Y ++ q :: Z)) :: Po) (h : isoV A sg f T) (hx : p = (x, 0) ∧ q = (x, 1) ∨ p = (x, 1) ∧ q = (x, 0)) : ∃ f', isoV (P ++ (X ++ Z) :: Po ++ [Y]) sg f' (ntSm T (f x)) ∧ ∀ y, f' y = if f y = T.1 - 1 then f x else f y := by
  have hF := h.1.1
  have hv := isoV_vn h
  have hLA : X ++ p :: (Y ++ q :: Z) ∈ A := by rw [hAe]; exact List.mem_append_right _ List.mem_cons_self
  have nL := L_nd hF.1 hLA
  have hpL : p ∈ X ++ p :: (Y ++ q :: Z) := List.mem_append_right _ List.mem_cons_self
  have hqL : q ∈ X ++ p :: (Y ++ q :: Z) := List.mem_append_right _ (List.mem_cons_of_mem _ (List.mem_append_right _ List.mem_cons_self))
  have hpq : p ≠ q := by
    rcases hx with ⟨rfl, rfl⟩ | ⟨rfl, rfl⟩
    · exact fun e => absurd (Prod.mk.inj e).2 (by decide)
    · exact fun e => absurd (Prod.mk.inj e).2 (by decide)
  have eR : X ++ p :: (Y ++ q :: Z) = (X ++ p :: (Y ++ [q])) ++ Z := by simp
  have eR2 : Z ++ (X ++ p :: (Y ++ [q])) = ((Z ++ X) ++ [p]) ++ (Y ++ [q]) := by simp
  have nR : (((Z ++ X) ++ [p]) ++ (Y ++ [q])).Nodup := by
    rw [← eR2]
    refine nd_rot ?_
    rw [← eR]
    exact nL
  have memR : ∀ r, r ∈ ((Z ++ X) ++ [p]) ++ (Y ++ [q]) ↔ r ∈ X ++ p :: (Y ++ q :: Z) := fun r => by
    simp only [List.mem_append, List.mem_cons, List.mem_singleton]
    grind
  have scR : ∀ r, r ∈ X ++ p :: (Y ++ q :: Z) → sc (((Z ++ X) ++ [p]) ++ (Y ++ [q])) r = sc (X ++ p :: (Y ++ q :: Z)) r := fun r hr => by
    have hn2 : ((X ++ p :: (Y ++ [q])) ++ Z).Nodup := by rw [← eR]; exact nL
    have := sc_rot (p := r) hn2 (by rw [← eR]; exact hr)
    rw [eR2, ← eR] at this
    exact this
  have otherL : ∀ L, L ∈ P ++ Po → L ∈ A := fun L hL => by
    rw [hAe]
    rcases List.mem_append.mp hL with h9 | h9
    · exact List.mem_append_left _ h9
    · exact List.mem_append_right _ (List.mem_cons_of_mem _ h9)
  have otherN : ∀ L, L ∈ P ++ Po → ∀ r, r ∈ L → r ≠ p ∧ r ≠ q := fun L hL r hr => by
    have hn := hF.1
    rw [hAe, List.flatten_append, List.flatten_cons] at hn
    have dis : ∀ s, s ∈ X ++ p :: (Y ++ q :: Z) → r ≠ s := fun s hs e => by
      obtain ⟨n1, n2, n3⟩ := List.nodup_append.mp hn
      obtain ⟨m1, m2, m3⟩ := List.nodup_append.mp n2
      rcases List.mem_append.mp hL with h9 | h9
      · exact n3 r (List.mem_flatten.mpr ⟨L, h9, hr⟩) s (List.mem_append_left _ hs) e
      · exact m3 s hs r (List.mem_flatten.mpr ⟨L, h9, hr⟩) e.symm
    exact ⟨dis p hpL, dis q hqL⟩
  let A1 : rn_L := P ++ ((Z ++ X) ++ [p]) :: Po ++ [Y ++ [q]]
  have perm1 : A1.flatten.Perm A.flatten := by
    rw [hAe]
    show (P ++ ((Z ++ X) ++ [p]) :: Po ++ [Y ++ [q]]).flatten.Perm _
    refine List.perm_iff_count.mpr (fun a => ?_)
    simp only [List.flatten_append, List.flatten_cons, List.flatten_nil, List.count_append, List.count_cons, List.count_nil]
    omega
  have cirs1 : cirs A1 = cirs A := by
    rw [hAe]
    show cirs (P ++ ((Z ++ X) ++ [p]) :: Po ++ [Y ++ [q]]) = _
    rw [cirs_app2, cirs_app2, cirs_app2, cirs_ne (by simp), cirs_ne (by simp), cirs_ne (by simp)]
    show cirs P + cirs Po + 0 = _
    omega
  have hpA : p ∈ A.flatten := List.mem_flatten.mpr ⟨_, hLA, hpL⟩
  have hqA : q ∈ A.flatten := List.mem_flatten.mpr ⟨_, hLA, hqL⟩
  have dis : ∀ r, r ∈ (Z ++ X) ++ [p] → r ∈ Y ++ [q] → False := fun r h1 h2 => (List.nodup_append.mp nR).2.2 r h1 r h2 rfl
  have key1 : isoV A1 sg f (T.1, T.2.1, np_exchange T.2.2.1 (gl f p) (gl f q), T.2.2.2) := by
    refine iso_exch h hpA hqA hpq perm1 cirs1 (fun L hL r hr => ?_)
    have hL : L ∈ P ++ Po ∨ L = (Z ++ X) ++ [p] ∨ L = Y ++ [q] := by
      have hL : L ∈ P ++ ((Z ++ X) ++ [p]) :: Po ++ [Y ++ [q]] := hL
      rcases List.mem_append.mp hL with h9 | h9
      · rcases List.mem_append.mp h9 with h8 | h8
        · exact Or.inl (List.mem_append_left _ h8)
        · rcases List.mem_cons.mp h8 with h7 | h7
          · exact Or.inr (Or.inl h7)
          · exact Or.inl (List.mem_append_right _ h7)
      · exact Or.inr (Or.inr (List.mem_singleton.mp h9))
    rcases hL with hL | rfl | rfl
    · obtain ⟨n1, n2⟩ := otherN L hL r hr
      exact ⟨fun e => absurd e n1, fun e => absurd e n2, fun _ _ => ⟨L, otherL L hL, hr, rfl⟩⟩
    · have hs := sc_spl1 nR hr
      have hrR := (memR r).mp (List.mem_append_left _ hr)
      refine ⟨fun e => ⟨_, hLA, hqL, ?_⟩, fun e => absurd (List.mem_append_right _ (by rw [e]; exact List.mem_singleton.mpr rfl)) (fun h9 => dis r hr h9), fun e1 _ => ⟨_, hLA, hrR, ?_⟩⟩
      · rw [hs, if_pos e, scR q hqL]
      · rw [hs, if_neg e1, scR r hrR]
    · have hs := sc_spl2 nR hr
      have hrR := (memR r).mp (List.mem_append_right _ hr)
      refine ⟨fun e => absurd (List.mem_append_right _ (by rw [e]; exact List.mem_singleton.mpr rfl)) (fun h9 => dis r h9 hr), fun e => ⟨_, hLA, hpL, ?_⟩, fun _ e2 => ⟨_, hLA, hrR, ?_⟩⟩
      · rw [hs, if_pos e, scR p hpL]
      · rw [hs, if_neg e2, scR r hrR]
  have hp1 : p.1 = x ∧ q = (x, 1 - p.2) ∧ p.2 < 2 := by
    rcases hx with ⟨rfl, rfl⟩ | ⟨rfl, rfl⟩
    · exact ⟨rfl, rfl, by show 0 < 2; omega⟩
    · exact ⟨rfl, rfl, by show 1 < 2; omega⟩
  obtain ⟨f', k1, kf⟩ := iso_sm0b key1 hv hp1.1 hp1.2.1 hp1.2.2 (perm1.mem_iff.mpr hpA)
  have hq1 : q.1 = x := by rw [hp1.2.1]
  have notx : ∀ r, r ∈ X ++ p :: (Y ++ q :: Z) → r ≠ p → r ≠ q → r.1 ≠ x := fun r hr h1 h2 => nd_of hF hLA hx hr h1 h2
  have fo1 : ∀ L, L ∈ P ++ Po → L.filter (fun r => decide (r.1 ≠ x)) = L := fun L hL => fil_k (fun r hr => nd_of hF (otherL L hL) hx hr (otherN L hL r hr).1 (otherN L hL r hr).2)
  have inZX : ∀ r, r ∈ Z ++ X → r.1 ≠ x := fun r hr => notx r ((memR r).mp (List.mem_append_left _ (List.mem_append_left _ hr))) (fun e => by
    have nn := (List.nodup_append.mp nR).1
    exact (List.nodup_append.mp nn).2.2 r hr p (List.mem_singleton.mpr rfl) e) (fun e => dis r (List.mem_append_left _ hr) (by rw [e]; exact List.mem_append_right _ (List.mem_singleton.mpr rfl)))
  have inY : ∀ r, r ∈ Y → r.1 ≠ x := fun r hr => notx r ((memR r).mp (List.mem_append_right _ (List.mem_append_left _ hr))) (fun e => dis r (by rw [e]; exact List.mem_append_right _ (List.mem_singleton.mpr rfl)) (List.mem_append_left _ hr)) (fun e => by
    have nn := (List.nodup_append.mp nR).2.1
    exact (List.nodup_append.mp nn).2.2 r hr q (List.mem_singleton.mpr rfl) e)
  have f1 : ((Z ++ X) ++ [p]).filter (fun r => decide (r.1 ≠ x)) = Z ++ X := by
    rw [List.filter_append, fil_k inZX, List.filter_cons_of_neg (by rw [hp1.1]; simp), List.filter_nil, List.append_nil]
  have f2 : (Y ++ [q]).filter (fun r => decide (r.1 ≠ x)) = Y := by
    rw [List.filter_append, fil_k inY, List.filter_cons_of_neg (by rw [hq1]; simp), List.filter_nil, List.append_nil]
  have fP : P.map (List.filter (fun r => decide (r.1 ≠ x))) = P := by
    conv => rhs; rw [← List.map_id P]
    exact List.map_congr_left (fun L hL => fo1 L (List.mem_append_left _ hL))
  have fPo : Po.map (List.filter (fun r => decide (r.1 ≠ x))) = Po := by
    conv => rhs; rw [← List.map_id Po]
    exact List.map_congr_left (fun L hL => fo1 L (List.mem_append_right _ hL))
  have eA1 : A1.map (List.filter (fun r => decide (r.1 ≠ x))) = P ++ (Z ++ X) :: Po ++ [Y] := by
    show (P ++ ((Z ++ X) ++ [p]) :: Po ++ [Y ++ [q]]).map _ = _
    rw [List.map_append, List.map_append, List.map_cons, List.map_cons, List.map_nil, f1, f2, fP, fPo]
  rw [eA1] at k1
  refine ⟨f', isoV_lists k1 ?_ ?_ (fun L hL r hr => ?_), kf⟩
  · refine List.perm_iff_count.mpr (fun a => ?_)
    simp only [List.flatten_append, List.flatten_cons, List.flatten_nil, List.count_append, List.count_nil]
    omega
  · rw [cirs_app2, cirs_app2, cirs_app2, cirs_app2, cirs_cons (X ++ Z), cirs_cons (Z ++ X)]
    have : (X ++ Z = []) ↔ (Z ++ X = []) := by
      rw [List.append_eq_nil_iff, List.append_eq_nil_iff]
      exact And.comm
    simp only [this]
  · rcases List.mem_append.mp hL with h9 | h9
    · rcases List.mem_append.mp h9 with h8 | h8
      · exact ⟨L, List.mem_append_left _ (List.mem_append_left _ h8), hr, rfl⟩
      · rcases List.mem_cons.mp h8 with h7 | h7
        · have nZX : (Z ++ X).Nodup := by
            have nn := (List.nodup_append.mp nR).1
            exact (List.nodup_append.mp nn).1
          have hrZ : r ∈ Z ++ X := by
            rw [h7] at hr
            rcases List.mem_append.mp hr with h6 | h6
            · exact List.mem_append_right _ h6
            · exact List.mem_append_left _ h6
          refine ⟨Z ++ X, List.mem_append_left _ (List.mem_append_right _ List.mem_cons_self), hrZ, ?_⟩
          rw [h7]
          exact sc_rot nZX hrZ
        · exact ⟨L, List.mem_append_left _ (List.mem_append_right _ (List.mem_cons_of_mem _ h7)), hr, rfl⟩
    · exact ⟨L, List.mem_append_right _ h9, hr, rfl⟩
end ISMb
section ISNb
variable {A : rn_L} {sg : Nat → Bool} {f : Nat → Nat} {T : ow_NT} {P Mi Po : rn_L} {X X' W W' : List vT} {p q : vT}
theorem iso_sm2b {x : Nat} (hAe : A = P ++ (X ++ p :: X') :: (Mi ++ (W ++ q :: W') :: Po)) (h : isoV A sg f T) (hx : p = (x, 0) ∧ q = (x, 1) ∨ p = (x, 1) ∧ q = (x, 0)) : ∃ f', isoV (P ++ (((X ++ W') ++ W) ++ X') :: (Mi ++ Po)) sg f' (ntSm T (f x)) ∧ ∀ y, f' y = if f y = T.1 - 1 then f x else f y := by
  have hF := h.1.1
  have hv := isoV_vn h
  have hLA : X ++ p :: X' ∈ A := by rw [hAe]; exact List.mem_append_right _ List.mem_cons_self
  have hMA : W ++ q :: W' ∈ A := by rw [hAe]; exact List.mem_append_right _ (List.mem_cons_of_mem _ (List.mem_append_right _ List.mem_cons_self))
  have nL := L_nd hF.1 hLA
  have nM := L_nd hF.1 hMA
  have hpL : p ∈ X ++ p :: X' := List.mem_append_right _ List.mem_cons_self
  have hqM : q ∈ W ++ q :: W' := List.mem_append_right _ List.mem_cons_self
  have hpq : p ≠ q := by
    rcases hx with ⟨rfl, rfl⟩ | ⟨rfl, rfl⟩
    · exact fun e => absurd (Prod.mk.inj e).2 (by decide)
    · exact fun e => absurd (Prod.mk.inj e).2 (by decide)
  have eU : X ++ p :: X' = (X ++ [p]) ++ X' := by simp
  have eU2 : X' ++ (X ++ [p]) = (X' ++ X) ++ [p] := by simp
  have eW : W ++ q :: W' = (W ++ [q]) ++ W' := by simp
  have eW2 : W' ++ (W ++ [q]) = (W' ++ W) ++ [q] := by simp
  have memU : ∀ r, r ∈ (X' ++ X) ++ [p] ↔ r ∈ X ++ p :: X' := fun r => by
    simp only [List.mem_append, List.mem_cons, List.mem_singleton]
    grind
  have memW : ∀ r, r ∈ (W' ++ W) ++ [q] ↔ r ∈ W ++ q :: W' := fun r => by
    simp only [List.mem_append, List.mem_cons, List.mem_singleton]
    grind
  have scU : ∀ r, r ∈ X ++ p :: X' → sc ((X' ++ X) ++ [p]) r = sc (X ++ p :: X') r := fun r hr => by
    have hn2 : ((X ++ [p]) ++ X').Nodup := by rw [← eU]; exact nL
    have := sc_rot (p := r) hn2 (by rw [← eU]; exact hr)
    rw [eU2, ← eU] at this
    exact this
  have scW : ∀ r, r ∈ W ++ q :: W' → sc ((W' ++ W) ++ [q]) r = sc (W ++ q :: W') r := fun r hr => by
    have hn2 : ((W ++ [q]) ++ W').Nodup := by rw [← eW]; exact nM
    have := sc_rot (p := r) hn2 (by rw [← eW]; exact hr)
    rw [eW2, ← eW] at this
    exact this
  have nA := hF.1
  rw [hAe] at nA
  have cnt : ∀ r, A.flatten.count r = P.flatten.count r + ((X' ++ X) ++ [p]).count r + Mi.flatten.count r + ((W' ++ W) ++ [q]).count r + Po.flatten.count r := fun r => by
    rw [hAe]
    simp only [List.flatten_append, List.flatten_cons, List.count_append, List.count_cons, List.count_nil]
    omega
  have one : ∀ r, A.flatten.count r ≤ 1 := fun r => List.nodup_iff_count.mp hF.1 r
  have nR : (((X' ++ X) ++ [p]) ++ ((W' ++ W) ++ [q])).Nodup := by
    refine List.nodup_iff_count.mpr (fun r => ?_)
    have h1 := cnt r
    have h2 := one r
    rw [List.count_append]
    omega
  have dis : ∀ r, r ∈ (X' ++ X) ++ [p] → r ∈ (W' ++ W) ++ [q] → False := fun r h1 h2 => (List.nodup_append.mp nR).2.2 r h1 r h2 rfl
  have otherL : ∀ L, L ∈ P ++ (Mi ++ Po) → L ∈ A := fun L hL => by
    rw [hAe]
    rcases List.mem_append.mp hL with h9 | h9
    · exact List.mem_append_left _ h9
    · rcases List.mem_append.mp h9 with h8 | h8
      · exact List.mem_append_right _ (List.mem_cons_of_mem _ (List.mem_append_left _ h8))
      · exact List.mem_append_right _ (List.mem_cons_of_mem _ (List.mem_append_right _ (List.mem_cons_of_mem _ h8)))
  have otherN : ∀ L, L ∈ P ++ (Mi ++ Po) → ∀ r, r ∈ L → r ≠ p ∧ r ≠ q := fun L hL r hr => by
    have h1 := cnt r
    have h2 := one r
    have h3 : 0 < (P ++ (Mi ++ Po)).flatten.count r := List.count_pos_iff.mpr (List.mem_flatten.mpr ⟨L, hL, hr⟩)
    rw [List.flatten_append, List.flatten_append, List.count_append, List.count_append] at h3
    refine ⟨fun e => ?_, fun e => ?_⟩
    · have h4 : 0 < ((X' ++ X) ++ [p]).count r := List.count_pos_iff.mpr (by rw [e]; exact List.mem_append_right _ (List.mem_singleton.mpr rfl))
      omega
    · have h4 : 0 < ((W' ++ W) ++ [q]).count r := List.count_pos_iff.mpr (by rw [e]; exact List.mem_append_right _ (List.mem_singleton.mpr rfl))
      omega
  let A1 : rn_L := P ++ (((X' ++ X) ++ [p]) ++ ((W' ++ W) ++ [q])) :: (Mi ++ Po)
  have perm1 : A1.flatten.Perm A.flatten := by
    refine List.perm_iff_count.mpr (fun a => ?_)
    rw [cnt]
    show (P ++ (((X' ++ X) ++ [p]) ++ ((W' ++ W) ++ [q])) :: (Mi ++ Po)).flatten.count a = _
    simp only [List.flatten_append, List.flatten_cons, List.count_append]
    omega
  have cirs1 : cirs A1 = cirs A := by
    rw [hAe]
    show cirs (P ++ (((X' ++ X) ++ [p]) ++ ((W' ++ W) ++ [q])) :: (Mi ++ Po)) = _
    rw [cirs_app2, cirs_app2, cirs_ne (by simp), cirs_ne (by simp), cirs_app2, cirs_app2, cirs_ne (by simp)]
  have hpA : p ∈ A.flatten := List.mem_flatten.mpr ⟨_, hLA, hpL⟩
  have hqA : q ∈ A.flatten := List.mem_flatten.mpr ⟨_, hMA, hqM⟩
  have key1 : isoV A1 sg f (T.1, T.2.1, np_exchange T.2.2.1 (gl f p) (gl f q), T.2.2.2) := by
    refine iso_exch h hpA hqA hpq perm1 cirs1 (fun L hL r hr => ?_)
    have hL : L ∈ P ++ (Mi ++ Po) ∨ L = ((X' ++ X) ++ [p]) ++ ((W' ++ W) ++ [q]) := by
      have hL : L ∈ P ++ (((X' ++ X) ++ [p]) ++ ((W' ++ W) ++ [q])) :: (Mi ++ Po) := hL
      rcases List.mem_append.mp hL with h9 | h9
      · exact Or.inl (List.mem_append_left _ h9)
      · rcases List.mem_cons.mp h9 with h8 | h8
        · exact Or.inr h8
        · exact Or.inl (List.mem_append_right _ h8)
    rcases hL with hL | rfl
    · obtain ⟨n1, n2⟩ := otherN L hL r hr
      exact ⟨fun e => absurd e n1, fun e => absurd e n2, fun _ _ => ⟨L, otherL L hL, hr, rfl⟩⟩
    · rcases List.mem_append.mp hr with hr1 | hr1
      · have hs := sc_spl1 nR hr1
        have hrU := (memU r).mp hr1
        refine ⟨fun e => ⟨_, hMA, hqM, ?_⟩, fun e => absurd (List.mem_append_right _ (by rw [e]; exact List.mem_singleton.mpr rfl)) (fun h9 => dis r hr1 h9), fun e1 _ => ⟨_, hLA, hrU, ?_⟩⟩
        · have hs2 := sc_spl2 (p := q) nR (List.mem_append_right _ (List.mem_singleton.mpr rfl))
          rw [if_pos rfl, scW q hqM] at hs2
          rw [e, hs2]
        · rw [if_neg e1, scU r hrU] at hs
          exact hs.symm
      · have hs := sc_spl2 nR hr1
        have hrW := (memW r).mp hr1
        refine ⟨fun e => absurd (List.mem_append_right _ (by rw [e]; exact List.mem_singleton.mpr rfl)) (fun h9 => dis r h9 hr1), fun e => ⟨_, hLA, hpL, ?_⟩, fun _ e2 => ⟨_, hMA, hrW, ?_⟩⟩
        · have hs2 := sc_spl1 (p := p) nR (List.mem_append_right _ (List.mem_singleton.mpr rfl))
          rw [if_pos rfl, scU p hpL] at hs2
          rw [e, hs2]
        · rw [if_neg e2, scW r hrW] at hs
          exact hs.symm
  have hp1 : p.1 = x ∧ q = (x, 1 - p.2) ∧ p.2 < 2 := by
    rcases hx with ⟨rfl, rfl⟩ | ⟨rfl, rfl⟩
    · exact ⟨rfl, rfl, by show 0 < 2; omega⟩
    · exact ⟨rfl, rfl, by show 1 < 2; omega⟩
  obtain ⟨f', k1, kf⟩ := iso_sm0b key1 hv hp1.1 hp1.2.1 hp1.2.2 (perm1.mem_iff.mpr hpA)
  have hq1 : q.1 = x := by rw [hp1.2.1]
  have fo1 : ∀ L, L ∈ P ++ (Mi ++ Po) → L.filter (fun r => decide (r.1 ≠ x)) = L := fun L hL => fil_k (fun r hr => nd_of hF (otherL L hL) hx hr (otherN L hL r hr).1 (otherN L hL r hr).2)
  have inU : ∀ r, r ∈ X' ++ X → r.1 ≠ x := fun r hr => nd_of hF hLA hx ((memU r).mp (List.mem_append_left _ hr)) (fun e => by
    have nn := (List.nodup_append.mp nR).1
    exact (List.nodup_append.mp nn).2.2 r hr p (List.mem_singleton.mpr rfl) e) (fun e => dis r (List.mem_append_left _ hr) (by rw [e]; exact List.mem_append_right _ (List.mem_singleton.mpr rfl)))
  have inW : ∀ r, r ∈ W' ++ W → r.1 ≠ x := fun r hr => nd_of hF hMA hx ((memW r).mp (List.mem_append_left _ hr)) (fun e => dis r (by rw [e]; exact List.mem_append_right _ (List.mem_singleton.mpr rfl)) (List.mem_append_left _ hr)) (fun e => by
    have nn := (List.nodup_append.mp nR).2.1
    exact (List.nodup_append.mp nn).2.2 r hr q (List.mem_singleton.mpr rfl) e)
  have f1 : (((X' ++ X) ++ [p]) ++ ((W' ++ W) ++ [q])).filter (fun r => decide (r.1 ≠ x)) = (X' ++ X) ++ (W' ++ W) := by
    rw [List.filter_append, List.filter_append (l₁ := X' ++ X), List.filter_append (l₁ := W' ++ W), fil_k inU, fil_k inW, List.filter_cons_of_neg (by rw [hp1.1]; simp), List.filter_cons_of_neg (by rw [hq1]; simp), List.filter_nil, List.append_nil, List.append_nil]
  have fP : P.map (List.filter (fun r => decide (r.1 ≠ x))) = P := by
    conv => rhs; rw [← List.map_id P]
    exact List.map_congr_left (fun L hL => fo1 L (List.mem_append_left _ hL))
  have fPo : (Mi ++ Po).map (List.filter (fun r => decide (r.1 ≠ x))) = Mi ++ Po := by
    conv => rhs; rw [← List.map_id (Mi ++ Po)]
    exact List.map_congr_left (fun L hL => fo1 L (List.mem_append_right _ hL))
  have eA1 : A1.map (List.filter (fun r => decide (r.1 ≠ x))) = P ++ ((X' ++ X) ++ (W' ++ W)) :: (Mi ++ Po) := by
    show (P ++ (((X' ++ X) ++ [p]) ++ ((W' ++ W) ++ [q])) :: (Mi ++ Po)).map _ = _
    rw [List.map_append, List.map_cons, f1, fP, fPo]
  rw [eA1] at k1
  have eZ : (X' ++ X) ++ (W' ++ W) = X' ++ ((X ++ W') ++ W) := by simp
  rw [eZ] at k1
  refine ⟨f', isoV_lists k1 ?_ ?_ (fun L hL r hr => ?_), kf⟩
  · refine List.perm_iff_count.mpr (fun a => ?_)
    simp only [List.flatten_append, List.flatten_cons, List.count_append]
    omega
  · rw [cirs_app2, cirs_app2, cirs_cons (((X ++ W') ++ W) ++ X'), cirs_cons (X' ++ ((X ++ W') ++ W))]
    have : (((X ++ W') ++ W) ++ X' = []) ↔ (X' ++ ((X ++ W') ++ W) = []) := by
      rw [List.append_eq_nil_iff (p := (X ++ W') ++ W), List.append_eq_nil_iff (p := X')]
      exact And.comm
    simp only [this]
  · rcases List.mem_append.mp hL with h9 | h9
    · exact ⟨L, List.mem_append_left _ h9, hr, rfl⟩
    · rcases List.mem_cons.mp h9 with h7 | h7
      · have nZX : (X' ++ ((X ++ W') ++ W)).Nodup := by
          rw [← eZ]
          have := nR.filter (fun r => decide (r.1 ≠ x))
          rw [f1] at this
          exact this
        have hrZ : r ∈ X' ++ ((X ++ W') ++ W) := by
          rw [h7] at hr
          rcases List.mem_append.mp hr with h6 | h6
          · exact List.mem_append_right _ h6
          · exact List.mem_append_left _ h6
        refine ⟨_, List.mem_append_right _ List.mem_cons_self, hrZ, ?_⟩
        rw [h7]
        exact sc_rot nZX hrZ
      · exact ⟨L, List.mem_append_right _ (List.mem_cons_of_mem _ h7), hr, rfl⟩
theorem iso_smb {v w : Nat} (h : isoV A sg f T) (hvw : v < w) (hw : w < A.flatten.length) (hx : vAt A v = (crs A v, 0) ∧ vAt A w = (crs A v, 1) ∨ vAt A v = (crs A v, 1) ∧ vAt A w = (crs A v, 0)) : ∃ f', isoV (smV A v w) sg f' (ntSm T (f (crs A v))) ∧ ∀ y, f' y = if f y = T.1 - 1 then f (crs A v) else f y := by
  obtain ⟨c1, c2, c3⟩ := rn_c_in A v (by omega)
  obtain ⟨j1, j2, j3⟩ := rn_c_in A w hw
  unfold smV
  generalize rn_c A v = c at c1 c2 c3
  generalize rn_c A w = J at j1 j2 j3
  have eA : A = ((cps A 0 c).map (List.map (vAt A))) ++ ((seg (rn_b A c) (rn_b A (c + 1))).map (vAt A)) :: ((cps A (c + 1) A.length).map (List.map (vAt A))) := by
    conv => lhs; rw [← cps_all (A := A)]
    rw [cps_app (Nat.zero_le c) (show c ≤ A.length by omega), cps_cons c1, List.map_append, List.map_cons]
  have eL : seg (rn_b A c) (rn_b A (c + 1)) = seg (rn_b A c) v ++ v :: seg (v + 1) (rn_b A (c + 1)) := by
    rw [seg_app c2 (Nat.le_of_lt c3), seg_cons c3]
  unfold smC
  by_cases hone : w < rn_b A (c + 1)
  · rw [if_pos hone]
    have eL2 : seg (v + 1) (rn_b A (c + 1)) = seg (v + 1) w ++ w :: seg (w + 1) (rn_b A (c + 1)) := by
      rw [seg_app (show v + 1 ≤ w by omega) (Nat.le_of_lt hone), seg_cons hone]
    rw [eL, eL2, List.map_append, List.map_cons, List.map_append, List.map_cons] at eA
    obtain ⟨f', k, kf⟩ := iso_sm1b eA h hx
    refine ⟨f', ?_, kf⟩
    rw [List.map_append, List.map_append, List.map_append, List.map_cons, List.map_cons, List.map_nil, List.map_append]
    rw [show ∀ (a : rn_L) (b : List vT) (d e : rn_L), a ++ [b] ++ d ++ e = a ++ b :: d ++ e from fun a b d e => by simp]
    exact k
  · rw [if_neg hone]
    have hcJ : c < J := by
      rcases Nat.lt_or_ge c J with h9 | h9
      · exact h9
      · have := rn_b_mono2 (A := A) (show J + 1 ≤ c + 1 by omega)
        omega
    have eP : cps A (c + 1) A.length = cps A (c + 1) J ++ seg (rn_b A J) (rn_b A (J + 1)) :: cps A (J + 1) A.length := by
      rw [cps_app (show c + 1 ≤ J by omega) (show J ≤ A.length by omega), cps_cons j1]
    have eM : seg (rn_b A J) (rn_b A (J + 1)) = seg (rn_b A J) w ++ w :: seg (w + 1) (rn_b A (J + 1)) := by
      rw [seg_app j2 (Nat.le_of_lt j3), seg_cons j3]
    rw [eL, eP, eM, List.map_append, List.map_cons, List.map_append, List.map_cons, List.map_append, List.map_cons] at eA
    obtain ⟨f', k, kf⟩ := iso_sm2b eA h hx
    refine ⟨f', ?_, kf⟩
    rw [List.map_append, List.map_append, List.map_append, List.map_cons, List.map_nil, List.map_append, List.map_append, List.map_append]
    rw [show ∀ (a : rn_L) (b : List vT) (d e : rn_L), a ++ [b] ++ d ++ e = a ++ b :: (d ++ e) from fun a b d e => by simp]
    exact k
end ISNb
