/-! a net joined to another: the lists -/
section IJN
variable {A : rn_L} {sg : Nat → Bool} {f : Nat → Nat} {T : ow_NT} {P Mi Po : rn_L} {X X' W W' : List vT} {p q : vT}
theorem iso_mrg (hAe : A = P ++ (X ++ p :: X') :: (Mi ++ (W ++ q :: W') :: Po)) (h : isoV A sg f T) : isoV (P ++ ((((X ++ [p]) ++ W') ++ (W ++ [q])) ++ X') :: (Mi ++ Po)) sg f (T.1, T.2.1, np_exchange T.2.2.1 (gl f p) (gl f q), T.2.2.2) := by
  have hF := h.1.1
  have hv := isoV_vn h
  have hLA : X ++ p :: X' ∈ A := by rw [hAe]; exact List.mem_append_right _ List.mem_cons_self
  have hMA : W ++ q :: W' ∈ A := by rw [hAe]; exact List.mem_append_right _ (List.mem_cons_of_mem _ (List.mem_append_right _ List.mem_cons_self))
  have nL := L_nd hF.1 hLA
  have nM := L_nd hF.1 hMA
  have hpL : p ∈ X ++ p :: X' := List.mem_append_right _ List.mem_cons_self
  have hqM : q ∈ W ++ q :: W' := List.mem_append_right _ List.mem_cons_self
  have eU : X ++ p :: X' = (X ++ [p]) ++ X' := by simp
  have eU2 : X' ++ (X ++ [p]) = (X' ++ X) ++ [p] := by simp
  have eW : W ++ q :: W' = (W ++ [q]) ++ W' := by simp
  have eW2 : W' ++ (W ++ [q]) = (W' ++ W) ++ [q] := by simp
  have memU : ∀ r, r ∈ (X' ++ X) ++ [p] ↔ r ∈ X ++ p :: X' := fun r => by
    simp only [List.mem_append, List.mem_cons, List.mem_singleton]
    grind
  have memW : ∀ r, r ∈ (W' ++ W) ++ [q] ↔ r ∈ W ++ q :: W' := fun r => by
    simp only [List.mem_append, List.mem_cons, List.mem_singleton]
    grind
  have scU : ∀ r, r ∈ X ++ p :: X' → sc ((X' ++ X) ++ [p]) r = sc (X ++ p :: X') r := fun r hr => by
    have hn2 : ((X ++ [p]) ++ X').Nodup := by rw [← eU]; exact nL
    have := sc_rot (p := r) hn2 (by rw [← eU]; exact hr)
    rw [eU2, ← eU] at this
    exact this
  have scW : ∀ r, r ∈ W ++ q :: W' → sc ((W' ++ W) ++ [q]) r = sc (W ++ q :: W') r := fun r hr => by
    have hn2 : ((W ++ [q]) ++ W').Nodup := by rw [← eW]; exact nM
    have := sc_rot (p := r) hn2 (by rw [← eW]; exact hr)
    rw [eW2, ← eW] at this
    exact this
  have nA := hF.1
  rw [hAe] at nA
  have cnt : ∀ r, A.flatten.count r = P.flatten.count r + ((X' ++ X) ++ [p]).count r + Mi.flatten.count r + ((W' ++ W) ++ [q]).count r + Po.flatten.count r := fun r => by
    rw [hAe]
    simp only [List.flatten_append, List.flatten_cons, List.count_append, List.count_cons, List.count_nil]
    omega
  have one : ∀ r, A.flatten.count r ≤ 1 := fun r => List.nodup_iff_count.mp hF.1 r
  have nR : (((X' ++ X) ++ [p]) ++ ((W' ++ W) ++ [q])).Nodup := by
    refine List.nodup_iff_count.mpr (fun r => ?_)
    have h1 := cnt r
    have h2 := one r
    rw [List.count_append]
    omega
  have dis : ∀ r, r ∈ (X' ++ X) ++ [p] → r ∈ (W' ++ W) ++ [q] → False := fun r h1 h2 => (List.nodup_append.mp nR).2.2 r h1 r h2 rfl
  have hpq : p ≠ q := fun e => dis p (List.mem_append_right _ (List.mem_singleton.mpr rfl)) (by rw [e]; exact List.mem_append_right _ (List.mem_singleton.mpr rfl))
  have otherL : ∀ L, L ∈ P ++ (Mi ++ Po) → L ∈ A := fun L hL => by
    rw [hAe]
    rcases List.mem_append.mp hL with h9 | h9
    · exact List.mem_append_left _ h9
    · rcases List.mem_append.mp h9 with h8 | h8
      · exact List.mem_append_right _ (List.mem_cons_of_mem _ (List.mem_append_left _ h8))
      · exact List.mem_append_right _ (List.mem_cons_of_mem _ (List.mem_append_right _ (List.mem_cons_of_mem _ h8)))
  have otherN : ∀ L, L ∈ P ++ (Mi ++ Po) → ∀ r, r ∈ L → r ≠ p ∧ r ≠ q := fun L hL r hr => by
    have h1 := cnt r
    have h2 := one r
    have h3 : 0 < (P ++ (Mi ++ Po)).flatten.count r := List.count_pos_iff.mpr (List.mem_flatten.mpr ⟨L, hL, hr⟩)
    rw [List.flatten_append, List.flatten_append, List.count_append, List.count_append] at h3
    refine ⟨fun e => ?_, fun e => ?_⟩
    · have h4 : 0 < ((X' ++ X) ++ [p]).count r := List.count_pos_iff.mpr (by rw [e]; exact List.mem_append_right _ (List.mem_singleton.mpr rfl))
      omega
    · have h4 : 0 < ((W' ++ W) ++ [q]).count r := List.count_pos_iff.mpr (by rw [e]; exact List.mem_append_right _ (List.mem_singleton.mpr rfl))
      omega
  let A1 : rn_L := P ++ (((X' ++ X) ++ [p]) ++ ((W' ++ W) ++ [q])) :: (Mi ++ Po)
  have perm1 : A1.flatten.Perm A.flatten := by
    refine List.perm_iff_count.mpr (fun a => ?_)
    rw [cnt]
    show (P ++ (((X' ++ X) ++ [p]) ++ ((W' ++ W) ++ [q])) :: (Mi ++ Po)).flatten.count a = _
    simp only [List.flatten_append, List.flatten_cons, List.count_append]
    omega
  have cirs1 : cirs A1 = cirs A := by
    rw [hAe]
    show cirs (P ++ (((X' ++ X) ++ [p]) ++ ((W' ++ W) ++ [q])) :: (Mi ++ Po)) = _
    rw [cirs_app2, cirs_app2, cirs_ne (by simp), cirs_ne (by simp), cirs_app2, cirs_app2, cirs_ne (by simp)]
  have hpA : p ∈ A.flatten := List.mem_flatten.mpr ⟨_, hLA, hpL⟩
  have hqA : q ∈ A.flatten := List.mem_flatten.mpr ⟨_, hMA, hqM⟩
  have key1 : isoV A1 sg f (T.1, T.2.1, np_exchange T.2.2.1 (gl f p) (gl f q), T.2.2.2) := by
    refine iso_exch h hpA hqA hpq perm1 cirs1 (fun L hL r hr => ?_)
    have hL : L ∈ P ++ (Mi ++ Po) ∨ L = ((X' ++ X) ++ [p]) ++ ((W' ++ W) ++ [q]) := by
      have hL : L ∈ P ++ (((X' ++ X) ++ [p]) ++ ((W' ++ W) ++ [q])) :: (Mi ++ Po) := hL
      rcases List.mem_append.mp hL with h9 | h9
      · exact Or.inl (List.mem_append_left _ h9)
      · rcases List.mem_cons.mp h9 with h8 | h8
        · exact Or.inr h8
        · exact Or.inl (List.mem_append_right _ h8)
    rcases hL with hL | rfl
    · obtain ⟨n1, n2⟩ := otherN L hL r hr
      exact ⟨fun e => absurd e n1, fun e => absurd e n2, fun _ _ => ⟨L, otherL L hL, hr, rfl⟩⟩
    · rcases List.mem_append.mp hr with hr1 | hr1
      · have hs := sc_spl1 nR hr1
        have hrU := (memU r).mp hr1
        refine ⟨fun e => ⟨_, hMA, hqM, ?_⟩, fun e => absurd (List.mem_append_right _ (by rw [e]; exact List.mem_singleton.mpr rfl)) (fun h9 => dis r hr1 h9), fun e1 _ => ⟨_, hLA, hrU, ?_⟩⟩
        · have hs2 := sc_spl2 (p := q) nR (List.mem_append_right _ (List.mem_singleton.mpr rfl))
          rw [if_pos rfl, scW q hqM] at hs2
          rw [e, hs2]
        · rw [if_neg e1, scU r hrU] at hs
          exact hs.symm
      · have hs := sc_spl2 nR hr1
        have hrW := (memW r).mp hr1
        refine ⟨fun e => absurd (List.mem_append_right _ (by rw [e]; exact List.mem_singleton.mpr rfl)) (fun h9 => dis r h9 hr1), fun e => ⟨_, hLA, hpL, ?_⟩, fun _ e2 => ⟨_, hMA, hrW, ?_⟩⟩
        · have hs2 := sc_spl1 (p := p) nR (List.mem_append_right _ (List.mem_singleton.mpr rfl))
          rw [if_pos rfl, scU p hpL] at hs2
          rw [e, hs2]
        · rw [if_neg e2, scW r hrW] at hs
          exact hs.symm
  have eM : ((X' ++ X) ++ [p]) ++ ((W' ++ W) ++ [q]) = X' ++ (((X ++ [p]) ++ W') ++ (W ++ [q])) := by simp
  have k1 : isoV (P ++ (X' ++ (((X ++ [p]) ++ W') ++ (W ++ [q]))) :: (Mi ++ Po)) sg f (T.1, T.2.1, np_exchange T.2.2.1 (gl f p) (gl f q), T.2.2.2) := by
    rw [← eM]
    exact key1
  refine isoV_lists k1 ?_ ?_ (fun L hL r hr => ?_)
  · refine List.perm_iff_count.mpr (fun a => ?_)
    simp only [List.flatten_append, List.flatten_cons, List.count_append]
    omega
  · rw [cirs_app2, cirs_app2, cirs_ne (by simp), cirs_ne (by simp)]
  · rcases List.mem_append.mp hL with h9 | h9
    · exact ⟨L, List.mem_append_left _ h9, hr, rfl⟩
    · rcases List.mem_cons.mp h9 with h7 | h7
      · have nZX : (X' ++ (((X ++ [p]) ++ W') ++ (W ++ [q]))).Nodup := by
          rw [← eM]
          exact nR
        have hrZ : r ∈ X' ++ (((X ++ [p]) ++ W') ++ (W ++ [q])) := by
          rw [h7] at hr
          rcases List.mem_append.mp hr with h6 | h6
          · exact List.mem_append_right _ h6
          · exact List.mem_append_left _ h6
        refine ⟨_, List.mem_append_right _ List.mem_cons_self, hrZ, ?_⟩
        rw [h7]
        exact sc_rot nZX hrZ
      · exact ⟨L, List.mem_append_right _ (List.mem_cons_of_mem _ h7), hr, rfl⟩
end IJN
/-- the component of the second visit put behind the first one -/
def joC (D : rn_L) (c v w J : Nat) : List (List Nat) := cps D 0 c ++ [((seg (rn_b D c) (v + 1) ++ seg (w + 1) (rn_b D (J + 1))) ++ seg (rn_b D J) (w + 1)) ++ seg (v + 1) (rn_b D (c + 1))] ++ cps D (c + 1) J ++ cps D (J + 1) D.length
theorem iso_joC {D : rn_L} {sg : Nat → Bool} {f : Nat → Nat} {T : ow_NT} {c v w J : Nat} (h : isoV D sg f T) (c2 : rn_b D c ≤ v) (c3 : v < rn_b D (c + 1)) (hcJ : c < J) (j1 : J < D.length) (j2 : rn_b D J ≤ w) (j3 : w < rn_b D (J + 1)) : isoV ((joC D c v w J).map (List.map (vAt D))) sg f (T.1, T.2.1, np_exchange T.2.2.1 (gl f (vAt D v)) (gl f (vAt D w)), T.2.2.2) := by
  have eA : D = ((cps D 0 c).map (List.map (vAt D))) ++ ((seg (rn_b D c) (rn_b D (c + 1))).map (vAt D)) :: ((cps D (c + 1) D.length).map (List.map (vAt D))) := by
    conv => lhs; rw [← cps_all (A := D)]
    rw [cps_app (Nat.zero_le c) (show c ≤ D.length by omega), cps_cons (show c < D.length by omega), List.map_append, List.map_cons]
  have eL : seg (rn_b D c) (rn_b D (c + 1)) = seg (rn_b D c) v ++ v :: seg (v + 1) (rn_b D (c + 1)) := by
    rw [seg_app c2 (Nat.le_of_lt c3), seg_cons c3]
  have eP : cps D (c + 1) D.length = cps D (c + 1) J ++ seg (rn_b D J) (rn_b D (J + 1)) :: cps D (J + 1) D.length := by
    rw [cps_app (show c + 1 ≤ J by omega) (show J ≤ D.length by omega), cps_cons j1]
  have eM : seg (rn_b D J) (rn_b D (J + 1)) = seg (rn_b D J) w ++ w :: seg (w + 1) (rn_b D (J + 1)) := by
    rw [seg_app j2 (Nat.le_of_lt j3), seg_cons j3]
  rw [eL, eP, eM, List.map_append, List.map_cons, List.map_append, List.map_cons, List.map_append, List.map_cons] at eA
  have k := iso_mrg eA h
  unfold joC
  rw [List.map_append, List.map_append, List.map_append, List.map_cons, List.map_nil, List.map_append, List.map_append, List.map_append, seg_s c2, seg_s j2, List.map_append, List.map_append]
  rw [show ∀ (a : rn_L) (b : List vT) (d e : rn_L), a ++ [b] ++ d ++ e = a ++ b :: (d ++ e) from fun a b d e => by simp]
  exact k
section JNB
variable {A B : rn_L} {s : Nat}
theorem A12_bl {m : Nat} (hm : m ≤ A.length) : rn_b (A12 A B s) m = rn_b A m := by
  unfold rn_b A12
  rw [List.take_append_of_le_length hm]
theorem A12_br (m : Nat) : rn_b (A12 A B s) (A.length + m) = A.flatten.length + rn_b B m := by
  unfold rn_b A12
  rw [List.take_length_add_append, List.flatten_append, List.length_append]
  congr 1
  unfold shN
  rw [← List.map_take]
  show (shN s (B.take m)).flatten.length = _
  rw [shN_fl, List.length_map]
theorem A12_n : (A12 A B s).length = A.length + B.length := by
  unfold A12 shN
  rw [List.length_append, List.length_map]
/-- the components of the joined net -/
def joV (A B : rn_L) (s v w : Nat) : rn_L := (joC (A12 A B s) (rn_c A v) v (A.flatten.length + w) (A.length + rn_c B w)).map (List.map (vAt (A12 A B s)))
theorem jo_perm {v w : Nat} (hv : v < A.flatten.length) (hw : w < B.flatten.length) : (joV A B s v w).flatten.Perm (A12 A B s).flatten ∧ (joV A B s v w).length + 1 = A.length + B.length := by
  obtain ⟨c1, c2, c3⟩ := rn_c_in A v hv
  obtain ⟨j1, j2, j3⟩ := rn_c_in B w hw
  unfold joV
  generalize rn_c A v = c at c1 c2 c3
  generalize rn_c B w = jw at j1 j2 j3
  have nD := A12_n (A := A) (B := B) (s := s)
  have b1 := A12_bl (A := A) (B := B) (s := s) (m := c) (by omega)
  have b2 := A12_bl (A := A) (B := B) (s := s) (m := c + 1) (by omega)
  have b3 := A12_br (A := A) (B := B) (s := s) jw
  have b4 := A12_br (A := A) (B := B) (s := s) (jw + 1)
  have b4 : rn_b (A12 A B s) (A.length + jw + 1) = A.flatten.length + rn_b B (jw + 1) := b4
  generalize A12 A B s = D at nD b1 b2 b3 b4
  constructor
  · have e : D.flatten = ((cps D 0 D.length).map (List.map (vAt D))).flatten := by rw [cps_all]
    rw [e, cps_app (A := D) (Nat.zero_le c) (show c ≤ D.length by omega), cps_cons (show c < D.length by omega), cps_app (A := D) (a := c + 1) (b := A.length + jw) (d := D.length) (by omega) (by omega), cps_cons (show A.length + jw < D.length by omega)]
    rw [seg_app (a := rn_b D c) (b := v + 1) (d := rn_b D (c + 1)) (by omega) (by omega), seg_app (a := rn_b D (A.length + jw)) (b := A.flatten.length + w + 1) (d := rn_b D (A.length + jw + 1)) (by omega) (by omega)]
    unfold joC
    refine List.perm_iff_count.mpr (fun a => ?_)
    simp only [List.map_append, List.map_cons, List.map_nil, List.flatten_append, List.flatten_cons, List.flatten_nil, List.count_append, List.count_nil]
    omega
  · unfold joC
    rw [List.length_map]
    simp only [List.length_append, cps_n, List.length_cons, List.length_nil]
    omega
end JNB
theorem pl_join {T R : ow_NT} (hT : nv T) (hR : nv R) (h12 : T.1 + R.1 ≤ 12) (hp : nt_plane T = true) (hq : nt_plane R = true) {v w : Nat} (hv : v < 2 * T.1) (hw : w < 2 * R.1) : nt_plane (ntS (ntA T R) (np_exchange (ntA T R).2.2.1 v (2 * T.1 + w))) = true := by
  obtain ⟨a1, -, -, -, -⟩ := ntA_ok hT hR h12
  have hpl := (plane_iff a1 h12).mp (pl_app hT hR h12 hp hq)
  have l1 : v < 2 * (ntA T R).1 := by show v < 2 * (T.1 + R.1); omega
  have l2 : 2 * T.1 + w < 2 * (ntA T R).1 := by show 2 * T.1 + w < 2 * (T.1 + R.1); omega
  refine (plane_iff (T := ntS (ntA T R) (np_exchange (ntA T R).2.2.1 v (2 * T.1 + w))) (vn_exchange a1 l1 l2) h12).mpr ?_
  refine pn_exch a1 stG_fl hpl l1 l2 (by omega) (Or.inl (fun hr => ?_))
  have := hr (fun k => k < 2 * T.1) hv (fun j _ hj => by
    show np_app T.2.2.1.1 R.2.2.1.1 (2 * T.1) (2 * R.1) j < 2 * T.1
    rw [ntA_lo _ _ hj]
    exact (hT.1 j hj).1) (fun j _ hj => by
    unfold mt
    split <;> omega)
  have this : 2 * T.1 + w < 2 * T.1 := this
  omega
