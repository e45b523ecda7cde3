section
/-! 99zzzzzzzzzl.ijn -/
/-! a net joined to another: the lists -/
section IJN
variable {A : rn_L} {sg : Nat → Bool} {f : Nat → Nat} {T : ow_NT} {P Mi Po : rn_L} {X X' W W' : List vT} {p q : vT}
theorem iso_mrg (hAe : A = P ++ (X ++ p :: X') :: (Mi ++ (W ++ q :: W') :: Po)) (h : isoV A sg f T) : isoV (P ++ ((((X ++ [p]) ++ W') ++ (W ++ [q])) ++ X') :: (Mi ++ Po)) sg f (T.1, T.2.1, np_exchange T.2.2.1 (gl f p) (gl f q), T.2.2.2) := by
  have hF := h.1.1
  have hv := isoV_vn h
  have hLA : X ++ p :: X' ∈ A := by rw [hAe]; exact List.mem_append_right _ List.mem_cons_self
  have hMA : W ++ q :: W' ∈ A := by rw [hAe]; exact List.mem_append_right _ (List.mem_cons_of_mem _ (List.mem_append_right _ List.mem_cons_self))
  have nL := L_nd hF.1 hLA
  have nM := L_nd hF.1 hMA
  have hpL : p ∈ X ++ p :: X' := List.mem_append_right _ List.mem_cons_self
  have hqM : q ∈ W ++ q :: W' := List.mem_append_right _ List.mem_cons_self
  have eU : X ++ p :: X' = (X ++ [p]) ++ X' := by simp
  have eU2 : X' ++ (X ++ [p]) = (X' ++ X) ++ [p] := by simp
  have eW : W ++ q :: W' = (W ++ [q]) ++ W' := by simp
  have eW2 : W' ++ (W ++ [q]) = (W' ++ W) ++ [q] := by simp
  have memU : ∀ r, r ∈ (X' ++ X) ++ [p] ↔ r ∈ X ++ p :: X' := fun r => by
    simp only [List.mem_append, List.mem_cons, List.mem_singleton]
    grind
  have memW : ∀ r, r ∈ (W' ++ W) ++ [q] ↔ r ∈ W ++ q :: W' := fun r => by
    simp only [List.mem_append, List.mem_cons, List.mem_singleton]
    grind
  have scU : ∀ r, r ∈ X ++ p :: X' → sc ((X' ++ X) ++ [p]) r = sc (X ++ p :: X') r := fun r hr => by
    have hn2 : ((X ++ [p]) ++ X').Nodup := by rw [← eU]; exact nL
    have := sc_rot (p := r) hn2 (by rw [← eU]; exact hr)
    rw [eU2, ← eU] at this
    exact this
  have scW : ∀ r, r ∈ W ++ q :: W' → sc ((W' ++ W) ++ [q]) r = sc (W ++ q :: W') r := fun r hr => by
    have hn2 : ((W ++ [q]) ++ W').Nodup := by rw [← eW]; exact nM
    have := sc_rot (p := r) hn2 (by rw [← eW]; exact hr)
    rw [eW2, ← eW] at this
    exact this
  have nA := hF.1
  rw [hAe] at nA
  have cnt : ∀ r, A.flatten.count r = P.flatten.count r + ((X' ++ X) ++ [p]).count r + Mi.flatten.count r + ((W' ++ W) ++ [q]).count r + Po.flatten.count r := fun r => by
    rw [hAe]
    simp only [List.flatten_append, List.flatten_cons, List.count_append, List.count_cons, List.count_nil]
    omega
  have one : ∀ r, A.flatten.count r ≤ 1 := fun r => List.nodup_iff_count.mp hF.1 r
  have nR : (((X' ++ X) ++ [p]) ++ ((W' ++ W) ++ [q])).Nodup := by
    refine List.nodup_iff_count.mpr (fun r => ?_)
    have h1 := cnt r
    have h2 := one r
    rw [List.count_append]
    omega
  have dis : ∀ r, r ∈ (X' ++ X) ++ [p] → r ∈ (W' ++ W) ++ [q] → False := fun r h1 h2 => (List.nodup_append.mp nR).2.2 r h1 r h2 rfl
  have hpq : p ≠ q := fun e => dis p (List.mem_append_right _ (List.mem_singleton.mpr rfl)) (by rw [e]; exact List.mem_append_right _ (List.mem_singleton.mpr rfl))
  have otherL : ∀ L, L ∈ P ++ (Mi ++ Po) → L ∈ A := fun L hL => by
    rw [hAe]
    rcases List.mem_append.mp hL with h9 | h9
    · exact List.mem_append_left _ h9
    · rcases List.mem_append.mp h9 with h8 | h8
      · exact List.mem_append_right _ (List.mem_cons_of_mem _ (List.mem_append_left _ h8))
      · exact List.mem_append_right _ (List.mem_cons_of_mem _ (List.mem_append_right _ (List.mem_cons_of_mem _ h8)))
  have otherN : ∀ L, L ∈ P ++ (Mi ++ Po) → ∀ r, r ∈ L → r ≠ p ∧ r ≠ q := fun L hL r hr => by
    have h1 := cnt r
    have h2 := one r
    have h3 : 0 < (P ++ (Mi ++ Po)).flatten.count r := List.count_pos_iff.mpr (List.mem_flatten.mpr ⟨L, hL, hr⟩)
    rw [List.flatten_append, List.flatten_append, List.count_append, List.count_append] at h3
    refine ⟨fun e => ?_, fun e => ?_⟩
    · have h4 : 0 < ((X' ++ X) ++ [p]).count r := List.count_pos_iff.mpr (by rw [e]; exact List.mem_append_right _ (List.mem_singleton.mpr rfl))
      omega
    · have h4 : 0 < ((W' ++ W) ++ [q]).count r := List.count_pos_iff.mpr (by rw [e]; exact List.mem_append_right _ (List.mem_singleton.mpr rfl))
      omega
  let A1 : rn_L := P ++ (((X' ++ X) ++ [p]) ++ ((W' ++ W) ++ [q])) :: (Mi ++ Po)
  have perm1 : A1.flatten.Perm A.flatten := by
    refine List.perm_iff_count.mpr (fun a => ?_)
    rw [cnt]
    show (P ++ (((X' ++ X) ++ [p]) ++ ((W' ++ W) ++ [q])) :: (Mi ++ Po)).flatten.count a = _
    simp only [List.flatten_append, List.flatten_cons, List.count_append]
    omega
  have cirs1 : cirs A1 = cirs A := by
    rw [hAe]
    show cirs (P ++ (((X' ++ X) ++ [p]) ++ ((W' ++ W) ++ [q])) :: (Mi ++ Po)) = _
    rw [cirs_app2, cirs_app2, cirs_ne (by simp), cirs_ne (by simp), cirs_app2, cirs_app2, cirs_ne (by simp)]
  have hpA : p ∈ A.flatten := List.mem_flatten.mpr ⟨_, hLA, hpL⟩
  have hqA : q ∈ A.flatten := List.mem_flatten.mpr ⟨_, hMA, hqM⟩
  have key1 : isoV A1 sg f (T.1, T.2.1, np_exchange T.2.2.1 (gl f p) (gl f q), T.2.2.2) := by
    refine iso_exch h hpA hqA hpq perm1 cirs1 (fun L hL r hr => ?_)
    have hL : L ∈ P ++ (Mi ++ Po) ∨ L = ((X' ++ X) ++ [p]) ++ ((W' ++ W) ++ [q]) := by
      have hL : L ∈ P ++ (((X' ++ X) ++ [p]) ++ ((W' ++ W) ++ [q])) :: (Mi ++ Po) := hL
      rcases List.mem_append.mp hL with h9 | h9
      · exact Or.inl (List.mem_append_left _ h9)
      · rcases List.mem_cons.mp h9 with h8 | h8
        · exact Or.inr h8
        · exact Or.inl (List.mem_append_right _ h8)
    rcases hL with hL | rfl
    · obtain ⟨n1, n2⟩ := otherN L hL r hr
      exact ⟨fun e => absurd e n1, fun e => absurd e n2, fun _ _ => ⟨L, otherL L hL, hr, rfl⟩⟩
    · rcases List.mem_append.mp hr with hr1 | hr1
      · have hs := sc_spl1 nR hr1
        have hrU := (memU r).mp hr1
        refine ⟨fun e => ⟨_, hMA, hqM, ?_⟩, fun e => absurd (List.mem_append_right _ (by rw [e]; exact List.mem_singleton.mpr rfl)) (fun h9 => dis r hr1 h9), fun e1 _ => ⟨_, hLA, hrU, ?_⟩⟩
        · have hs2 := sc_spl2 (p := q) nR (List.mem_append_right _ (List.mem_singleton.mpr rfl))
          rw [if_pos rfl, scW q hqM] at hs2
          rw [e, hs2]
        · rw [if_neg e1, scU r hrU] at hs
          exact hs.symm
      · have hs := sc_spl2 nR hr1
        have hrW := (memW r).mp hr1
        refine ⟨fun e => absurd (List.mem_append_right _ (by rw [e]; exact List.mem_singleton.mpr rfl)) (fun h9 => dis r h9 hr1), fun e => ⟨_, hLA, hpL, ?_⟩, fun _ e2 => ⟨_, hMA, hrW, ?_⟩⟩
        · have hs2 := sc_spl1 (p := p) nR (List.mem_append_right _ (List.mem_singleton.mpr rfl))
          rw [if_pos rfl, scU p hpL] at hs2
          rw [e, hs2]
        · rw [if_neg e2, scW r hrW] at hs
          exact hs.symm
  have eM : ((X' ++ X) ++ [p]) ++ ((W' ++ W) ++ [q]) = X' ++ (((X ++ [p]) ++ W') ++ (W ++ [q])) := by simp
  have k1 : isoV (P ++ (X' ++ (((X ++ [p]) ++ W') ++ (W ++ [q]))) :: (Mi ++ Po)) sg f (T.1, T.2.1, np_exchange T.2.2.1 (gl f p) (gl f q), T.2.2.2) := by
    rw [← eM]
    exact key1
  refine isoV_lists k1 ?_ ?_ (fun L hL r hr => ?_)
  · refine List.perm_iff_count.mpr (fun a => ?_)
    simp only [List.flatten_append, List.flatten_cons, List.count_append]
    omega
  · rw [cirs_app2, cirs_app2, cirs_ne (by simp), cirs_ne (by simp)]
  · rcases List.mem_append.mp hL with h9 | h9
    · exact ⟨L, List.mem_append_left _ h9, hr, rfl⟩
    · rcases List.mem_cons.mp h9 with h7 | h7
      · have nZX : (X' ++ (((X ++ [p]) ++ W') ++ (W ++ [q]))).Nodup := by
          rw [← eM]
          exact nR
        have hrZ : r ∈ X' ++ (((X ++ [p]) ++ W') ++ (W ++ [q])) := by
          rw [h7] at hr
          rcases List.mem_append.mp hr with h6 | h6
          · exact List.mem_append_right _ h6
          · exact List.mem_append_left _ h6
        refine ⟨_, List.mem_append_right _ List.mem_cons_self, hrZ, ?_⟩
        rw [h7]
        exact sc_rot nZX hrZ
      · exact ⟨L, List.mem_append_right _ (List.mem_cons_of_mem _ h7), hr, rfl⟩
end IJN
/-- the component of the second visit put behind the first one -/
def joC (D : rn_L) (c v w J : Nat) : List (List Nat) := cps D 0 c ++ [((seg (rn_b D c) (v + 1) ++ seg (w + 1) (rn_b D (J + 1))) ++ seg (rn_b D J) (w + 1)) ++ seg (v + 1) (rn_b D (c + 1))] ++ cps D (c + 1) J ++ cps D (J + 1) D.length
theorem iso_joC {D : rn_L} {sg : Nat → Bool} {f : Nat → Nat} {T : ow_NT} {c v w J : Nat} (h : isoV D sg f T) (c2 : rn_b D c ≤ v) (c3 : v < rn_b D (c + 1)) (hcJ : c < J) (j1 : J < D.length) (j2 : rn_b D J ≤ w) (j3 : w < rn_b D (J + 1)) : isoV ((joC D c v w J).map (List.map (vAt D))) sg f (T.1, T.2.1, np_exchange T.2.2.1 (gl f (vAt D v)) (gl f (vAt D w)), T.2.2.2) := by
  have eA : D = ((cps D 0 c).map (List.map (vAt D))) ++ ((seg (rn_b D c) (rn_b D (c + 1))).map (vAt D)) :: ((cps D (c + 1) D.length).map (List.map (vAt D))) := by
    conv => lhs; rw [← cps_all (A := D)]
    rw [cps_app (Nat.zero_le c) (show c ≤ D.length by omega), cps_cons (show c < D.length by omega), List.map_append, List.map_cons]
  have eL : seg (rn_b D c) (rn_b D (c + 1)) = seg (rn_b D c) v ++ v :: seg (v + 1) (rn_b D (c + 1)) := by
    rw [seg_app c2 (Nat.le_of_lt c3), seg_cons c3]
  have eP : cps D (c + 1) D.length = cps D (c + 1) J ++ seg (rn_b D J) (rn_b D (J + 1)) :: cps D (J + 1) D.length := by
    rw [cps_app (show c + 1 ≤ J by omega) (show J ≤ D.length by omega), cps_cons j1]
  have eM : seg (rn_b D J) (rn_b D (J + 1)) = seg (rn_b D J) w ++ w :: seg (w + 1) (rn_b D (J + 1)) := by
    rw [seg_app j2 (Nat.le_of_lt j3), seg_cons j3]
  rw [eL, eP, eM, List.map_append, List.map_cons, List.map_append, List.map_cons, List.map_append, List.map_cons] at eA
  have k := iso_mrg eA h
  unfold joC
  rw [List.map_append, List.map_append, List.map_append, List.map_cons, List.map_nil, List.map_append, List.map_append, List.map_append, seg_s c2, seg_s j2, List.map_append, List.map_append]
  rw [show ∀ (a : rn_L) (b : List vT) (d e : rn_L), a ++ [b] ++ d ++ e = a ++ b :: (d ++ e) from fun a b d e => by simp]
  exact k
section JNB
variable {A B : rn_L} {s : Nat}
theorem A12_bl {m : Nat} (hm : m ≤ A.length) : rn_b (A12 A B s) m = rn_b A m := by
  unfold rn_b A12
  rw [List.take_append_of_le_length hm]
theorem A12_br (m : Nat) : rn_b (A12 A B s) (A.length + m) = A.flatten.length + rn_b B m := by
  unfold rn_b A12
  rw [List.take_length_add_append, List.flatten_append, List.length_append]
  congr 1
  unfold shN
  rw [← List.map_take]
  show (shN s (B.take m)).flatten.length = _
  rw [shN_fl, List.length_map]
theorem A12_n : (A12 A B s).length = A.length + B.length := by
  unfold A12 shN
  rw [List.length_append, List.length_map]
/-- the components of the joined net -/
def joV (A B : rn_L) (s v w : Nat) : rn_L := (joC (A12 A B s) (rn_c A v) v (A.flatten.length + w) (A.length + rn_c B w)).map (List.map (vAt (A12 A B s)))
theorem jo_perm {v w : Nat} (hv : v < A.flatten.length) (hw : w < B.flatten.length) : (joV A B s v w).flatten.Perm (A12 A B s).flatten ∧ (joV A B s v w).length + 1 = A.length + B.length := by
  obtain ⟨c1, c2, c3⟩ := rn_c_in A v hv
  obtain ⟨j1, j2, j3⟩ := rn_c_in B w hw
  unfold joV
  generalize rn_c A v = c at c1 c2 c3
  generalize rn_c B w = jw at j1 j2 j3
  have nD := A12_n (A := A) (B := B) (s := s)
  have b1 := A12_bl (A := A) (B := B) (s := s) (m := c) (by omega)
  have b2 := A12_bl (A := A) (B := B) (s := s) (m := c + 1) (by omega)
  have b3 := A12_br (A := A) (B := B) (s := s) jw
  have b4 := A12_br (A := A) (B := B) (s := s) (jw + 1)
  have b4 : rn_b (A12 A B s) (A.length + jw + 1) = A.flatten.length + rn_b B (jw + 1) := b4
  generalize A12 A B s = D at nD b1 b2 b3 b4
  constructor
  · have e : D.flatten = ((cps D 0 D.length).map (List.map (vAt D))).flatten := by rw [cps_all]
    rw [e, cps_app (A := D) (Nat.zero_le c) (show c ≤ D.length by omega), cps_cons (show c < D.length by omega), cps_app (A := D) (a := c + 1) (b := A.length + jw) (d := D.length) (by omega) (by omega), cps_cons (show A.length + jw < D.length by omega)]
    rw [seg_app (a := rn_b D c) (b := v + 1) (d := rn_b D (c + 1)) (by omega) (by omega), seg_app (a := rn_b D (A.length + jw)) (b := A.flatten.length + w + 1) (d := rn_b D (A.length + jw + 1)) (by omega) (by omega)]
    unfold joC
    refine List.perm_iff_count.mpr (fun a => ?_)
    simp only [List.map_append, List.map_cons, List.map_nil, List.flatten_append, List.flatten_cons, List.flatten_nil, List.count_append, List.count_nil]
    omega
  · unfold joC
    rw [List.length_map]
    simp only [List.length_append, cps_n, List.length_cons, List.length_nil]
    omega
end JNB
theorem pl_join {T R : ow_NT} (hT : nv T) (hR : nv R) (h12 : T.1 + R.1 ≤ 12) (hp : nt_plane T = true) (hq : nt_plane R = true) {v w : Nat} (hv : v < 2 * T.1) (hw : w < 2 * R.1) : nt_plane (ntS (ntA T R) (np_exchange (ntA T R).2.2.1 v (2 * T.1 + w))) = true := by
  obtain ⟨a1, -, -, -, -⟩ := ntA_ok hT hR h12
  have hpl := (plane_iff a1 h12).mp (pl_app hT hR h12 hp hq)
  have l1 : v < 2 * (ntA T R).1 := by show v < 2 * (T.1 + R.1); omega
  have l2 : 2 * T.1 + w < 2 * (ntA T R).1 := by show 2 * T.1 + w < 2 * (T.1 + R.1); omega
  refine (plane_iff (T := ntS (ntA T R) (np_exchange (ntA T R).2.2.1 v (2 * T.1 + w))) (vn_exchange a1 l1 l2) h12).mpr ?_
  refine pn_exch a1 stG_fl hpl l1 l2 (by omega) (Or.inl (fun hr => ?_))
  have := hr (fun k => k < 2 * T.1) hv (fun j _ hj => by
    show np_app T.2.2.1.1 R.2.2.1.1 (2 * T.1) (2 * R.1) j < 2 * T.1
    rw [ntA_lo _ _ hj]
    exact (hT.1 j hj).1) (fun j _ hj => by
    unfold mt
    split <;> omega)
  have this : 2 * T.1 + w < 2 * T.1 := this
  omega
end
section
/-! 99zzzzzzzzzm.xjo -/
/-! exact calls: join, of the reference -/
theorem ring_seg {B : rn_L} {w n : Nat} (hw : w < B.flatten.length) : (List.range (rlen B (rn_c B w))).map (fun s => n + rv B w (s + 1)) = seg (n + w + 1) (n + rn_b B (rn_c B w + 1)) ++ seg (n + rn_b B (rn_c B w)) (n + w + 1) := by
  obtain ⟨j1, j2, j3⟩ := rn_c_in B w hw
  have l1 := seg_len (n + w + 1) (n + rn_b B (rn_c B w + 1))
  have l2 := seg_len (n + rn_b B (rn_c B w)) (n + w + 1)
  have er : rlen B (rn_c B w) = rn_b B (rn_c B w + 1) - rn_b B (rn_c B w) := rfl
  apply List.ext_getElem?
  intro i
  rw [List.getElem?_map]
  by_cases h : i < rlen B (rn_c B w)
  · rw [List.getElem?_range h]
    show some (n + rv B w (i + 1)) = _
    unfold rv
    by_cases h2 : w + (i + 1) < rn_b B (rn_c B w + 1)
    · rw [if_pos h2, List.getElem?_append_left (by omega)]
      unfold seg
      rw [List.getElem?_map, List.getElem?_range (by omega)]
      show _ = some (n + w + 1 + i)
      congr 1
      omega
    · rw [if_neg h2, List.getElem?_append_right (by omega), l1]
      unfold seg
      rw [List.getElem?_map, List.getElem?_range (by omega)]
      show _ = some (n + rn_b B (rn_c B w) + (i - (n + rn_b B (rn_c B w + 1) - (n + w + 1))))
      congr 1
      omega
  · rw [List.getElem?_eq_none (by rw [List.length_range]; omega), List.getElem?_eq_none (by rw [List.length_append]; omega)]
    rfl
/-- both diagrams and both visits are there -/
def joG (St : plT) (d v0 e w0 : Int32) (A : rn_L) (sg : Nat → Bool) (B : rn_L) (sg' : Nat → Bool) (v w : Nat) : Prop := (∃ d', d' < 40 ∧ d = nI d' ∧ St d' = some (A, sg)) ∧ (∃ e', e' < 40 ∧ e = nI e' ∧ St e' = some (B, sg')) ∧ v < A.flatten.length ∧ v0 = nI v ∧ w < B.flatten.length ∧ w0 = nI w
def joN (St : plT) (d v0 e w0 : Int32) : Prop := ∀ A sg B sg' v w, ¬ joG St d v0 e w0 A sg B sg' v w
def joS (A : rn_L) (sg sg' : Nat → Bool) (k : Nat) : Bool := if k < A.flatten.length / 2 then sg k else sg' (k - A.flatten.length / 2)
theorem pl_uni {St : plT} {d : Int32} {d1 d2 : Nat} {A1 A2 : rn_L} {s1 s2 : Nat → Bool} (h1 : d1 < 40) (h2 : d2 < 40) (e1 : d = nI d1) (e2 : d = nI d2) (q1 : St d1 = some (A1, s1)) (q2 : St d2 = some (A2, s2)) : A1 = A2 ∧ s1 = s2 := by
  have e : d1 = d2 := nI_inj9 (by omega) (by omega) (e1.symm.trans e2)
  rw [e, q2] at q1
  have := Option.some.inj q1
  exact ⟨(Prod.mk.inj this).1.symm, (Prod.mk.inj this).2.symm⟩
section XJ
variable {X : (Nat → Nat → Int32) → Prop} {z : ow_MS} {St : plT}
theorem xq_join {d v0 e w0 : Int32} (h : gI X z) (hR : relR z St) : Te (fun K => qe_X13_join K d v0 e w0 z) (fun r => rFl X z 1 r ∧ joN St d v0 e w0 ∨ ∃ A sg B sg' v w, joG St d v0 e w0 A sg B sg' v w ∧ (rFl X z 2 r ∧ (24 < A.flatten.length + B.flatten.length ∨ 6 < A.length + B.length - 1) ∨ A.flatten.length + B.flatten.length ≤ 24 ∧ A.length + B.length - 1 ≤ 6 ∧ (rFl X z 3 r ∧ allF St ∨ ∃ f, lstF St f ∧ rKp X z f (joV A B (A.flatten.length / 2) v w) (joS A sg sg') r))) := by
  let Q : Int32 × ow_MS → Prop := fun r => rFl X z 1 r ∧ joN St d v0 e w0 ∨ ∃ A sg B sg' v w, joG St d v0 e w0 A sg B sg' v w ∧ (rFl X z 2 r ∧ (24 < A.flatten.length + B.flatten.length ∨ 6 < A.length + B.length - 1) ∨ A.flatten.length + B.flatten.length ≤ 24 ∧ A.length + B.length - 1 ≤ 6 ∧ (rFl X z 3 r ∧ allF St ∨ ∃ f, lstF St f ∧ rKp X z f (joV A B (A.flatten.length / 2) v w) (joS A sg sg') r))
  have h1 := gI_1 (c := 0) h
  have hR1 := relR_1 (c := 0) hR
  have c1 : joN St d v0 e w0 → Tt (fun K k => q_X13_join K k 1 d v0 e w0 0 0 0 0 0 0 (usF z 1 0)) Q := by
    intro hno
    refine u_X13_join_1 ?_; unfold qm_X13_join_1
    exact w_mono (w_failX (k := 1) h1 fr_1) (fun r hr => Or.inl ⟨hr, hno⟩)
  refine e_X13_join ?_
  refine u_X13_join_0 ?_; unfold qm_X13_join_0
  refine w_wrF (w_hasX hR1 (fun h0 => w_ifT rfl (c1 (fun A sg B sg' v w ⟨⟨d', a1, a2, a3⟩, _⟩ => by rw [h0 d' a1 a2] at a3; cases a3))) (fun d9 A sg hd9 hx hs hv hne => w_ifF (by decide) (w_hasX hR1 (fun h0 => w_ifT rfl (c1 (fun A sg B sg' v w ⟨_, ⟨d', a1, a2, a3⟩, _⟩ => by rw [h0 d' a1 a2] at a3; cases a3))) (fun e9 B sg2 he9 hy hs2 hw hne2 => w_ifF (by decide) ?_))))
  have op1 := to_open pn1 hd9 hv
  rw [← hx] at op1
  refine w_cs0 op1 (fun z2 ⟨o1, f1⟩ => ?_)
  have h2 : gI X z2 := gI_net pn1 f1 (fun g hg => by omega) h1
  have hw2 : vRow z2 12 (32 * e9) B sg2 := ⟨rc_fr f1 (by omega) hw.1, hw.2⟩
  have op2 := to_open pn2 he9 hw2
  rw [← hy] at op2
  refine w_cs0 op2 (fun z3 ⟨o2, f2⟩ => ?_)
  have h3 : gI X z3 := gI_net pn2 f2 (fun g hg => by omega) h2
  have o1' := oNet_fr f2 (fun g hg => by omega) o1
  have l1 := o1.len
  have l2 := o2.len
  have k1 := o1.2.2.2
  have k2 := o2.2.2.2
  obtain ⟨a, ha, ha12⟩ := o1.2.2.1
  obtain ⟨b, hb, hb12⟩ := o2.2.2.1
  have hVa := okF_len ha
  have hVb := okF_len hb
  have f03 : fr rPs z z3 := fr_tr fr_1 (fr_tr (fr_mono (fun g hg => Or.inr (by unfold rSc; omega)) f1) (fr_mono (fun g hg => Or.inr (by unfold rSc; omega)) f2))
  have hR3 : relR z3 St := relR_fr f2 (by omega) (relR_fr f1 (by omega) hR1)
  have z31 : z3.1 1 = 0 := by
    rw [(f2 1 (by omega)).1, (f1 1 (by omega)).1]
    exact po_usF_at
  have c2 : joN St d v0 e w0 → Tt (fun K k => q_X13_join K k 2 d v0 e w0 0 0 0 0 0 0 z3) Q := by
    intro hno
    refine u_X13_join_2 ?_; unfold qm_X13_join_2
    exact w_mono (w_failX (k := 1) h3 f03) (fun r hr => Or.inl ⟨hr, hno⟩)
  have noV : (∀ v, v < A.flatten.length → v0 ≠ nI v) → joN St d v0 e w0 := fun hno A1 sg1 B1 sg1' v w hG => by
    obtain ⟨⟨d', a1, a2, a3⟩, -, b1, b2, -⟩ := hG
    have e1 := (pl_uni a1 hd9 a2 hx a3 hs).1
    rw [e1] at b1
    exact hno v b1 b2
  have noW : (∀ w, w < B.flatten.length → w0 ≠ nI w) → joN St d v0 e w0 := fun hno A1 sg1 B1 sg1' v w hG => by
    obtain ⟨-, ⟨d', a1, a2, a3⟩, -, -, b1, b2⟩ := hG
    have e1 := (pl_uni a1 he9 a2 hy a3 hs2).1
    rw [e1] at b1
    exact hno w b1 b2
  refine w_if (fun hv0 => c2 (noV (fun v hv9 ev => ?_))) (fun hv0 => w_rdF o1'.1.V (w_if (fun hv1 => c2 (noV (fun v hv9 ev => ?_))) (fun hv1 => w_if (fun hw0 => c2 (noW (fun v hv9 ev => ?_))) (fun hw0 => w_rdF o2.1.V (w_if (fun hw1 => w_rdF o1'.1.V (w_rdF o2.1.V ?_)) (fun hw1 => c2 (noW (fun v hv9 ev => ?_))))))))
  · rw [ev] at hv0
    exact absurd hv0 (nI_pos (by omega))
  · rw [ev] at hv1
    have h9 := (nI_ltI (show v < 2147483648 by omega) (show A.flatten.length < 2147483648 by omega)).mpr hv9
    exact absurd h9 (Int32.not_lt.mpr hv1)
  · rw [ev] at hw0
    exact absurd hw0 (nI_pos (by omega))
  rotate_left
  · rw [ev] at hw1
    exact hw1 ((nI_ltI (by omega) (by omega)).mpr hv9)
  obtain ⟨v, hv31, rfl⟩ := nI_of hv0
  obtain ⟨w, hw31, rfl⟩ := nI_of hw0
  have hvl : v < A.flatten.length := by
    rcases Nat.lt_or_ge v A.flatten.length with h9 | h9
    · exact h9
    · exact absurd (nI_le h9 hv31) hv1
  have hwl : w < B.flatten.length := (nI_ltI hw31 (by omega)).mp hw1
  have hG : joG St d (nI v) e (nI w) A sg B sg2 v w := ⟨⟨d9, hd9, hx, hs⟩, ⟨e9, he9, hy, hs2⟩, hvl, rfl, hwl, rfl⟩
  have fin : ∀ {r}, (rFl X z 2 r ∧ (24 < A.flatten.length + B.flatten.length ∨ 6 < A.length + B.length - 1) ∨ A.flatten.length + B.flatten.length ≤ 24 ∧ A.length + B.length - 1 ≤ 6 ∧ (rFl X z 3 r ∧ allF St ∨ ∃ f, lstF St f ∧ rKp X z f (joV A B (A.flatten.length / 2) v w) (joS A sg sg2) r)) → Q r := fun hr => Or.inr ⟨A, sg, B, sg2, v, w, hG, hr⟩
  have c3 : (24 < A.flatten.length + B.flatten.length ∨ 6 < A.length + B.length - 1) → Tt (fun K k => q_X13_join K k 3 d (nI v) e (nI w) 0 0 0 0 0 0 z3) Q := by
    intro hno
    refine u_X13_join_3 ?_; unfold qm_X13_join_3
    exact w_mono (w_failX (k := 2) h3 f03) (fun r hr => fin (Or.inl ⟨hr, hno⟩))
  rw [nI_add]
  obtain ⟨g1, g2, g3⟩ := rn_c_in A v hvl
  obtain ⟨p1, p2, p3⟩ := rn_c_in B w hwl
  have hne1 : 1 ≤ A.length + B.length := by omega
  refine w_lt (a := 24) (by omega) (by omega) (fun h9 => c3 (Or.inl h9)) (fun h24 => w_rdF (lk_C o1'.1) (w_rdF (lk_C o2.1) ?_))
  rw [nI_add, show nI (A.length + B.length) - 1 = nI (A.length + B.length - 1) from pk_sub (b := 1) hne1]
  refine w_le (b := 6) (by omega) (by omega) (fun h6 => w_freeX hR3 (fun hall => w_ifT rfl (w_mono (w_failX (k := 3) h3 f03) (fun r hr => fin (Or.inr ⟨by omega, h6, Or.inl ⟨hr, hall⟩⟩)))) (fun f hfr => w_ifF (rn_neg1 (by have := hfr.1; omega)) (w_rdF o1'.1.V (w_nzI (by decide) (w_cs0 (tn_clear pn3) (fun z4 ⟨b4, f4⟩ => ?_)))))) (fun h9 => c3 (Or.inr h9))
  have ea : A.flatten.length / 2 = a := by omega
  rw [show nI A.flatten.length / 2 = nI a from by rw [show nI A.flatten.length / 2 = nI (A.flatten.length / 2) from pk_div (d := 2) (by omega) (by omega) (by omega), ea]]
  rw [ea] at fin
  have hlen := A12_len (A := A) (B := B) (s := a)
  have evA : ∀ i, i < A.flatten.length → crs (A12 A B a) i = crs A i ∧ uns (A12 A B a) i = uns A i := fun i hi => by
    unfold crs uns
    rw [A12_l hi]
    exact ⟨rfl, rfl⟩
  have evB : ∀ i, i < B.flatten.length → crs (A12 A B a) (A.flatten.length + i) = crs B i + a ∧ uns (A12 A B a) (A.flatten.length + i) = uns B i := fun i hi => by
    unfold crs uns
    rw [A12_r hi]
    exact ⟨rfl, rfl⟩
  have nD := A12_n (A := A) (B := B) (s := a)
  have bA : ∀ m, m ≤ A.length → rn_b (A12 A B a) m = rn_b A m := fun m hm => A12_bl hm
  have bB : ∀ m, rn_b (A12 A B a) (A.length + m) = A.flatten.length + rn_b B m := fun m => A12_br m
  have bJ1 : rn_b (A12 A B a) (A.length + rn_c B w + 1) = A.flatten.length + rn_b B (rn_c B w + 1) := A12_br (rn_c B w + 1)
  have ok12 := A12_ok ha hb
  have wk12 := okF_wk (by omega) ok12
  obtain ⟨pm, pml⟩ := jo_perm (s := a) hvl hwl
  have eV : joV A B a v w = (joC (A12 A B a) (rn_c A v) v (A.flatten.length + w) (A.length + rn_c B w)).map (List.map (vAt (A12 A B a))) := rfl
  have dsg : ∀ p, p ∈ (A12 A B a).flatten → (p ∈ A.flatten ∨ ∃ q, q ∈ B.flatten ∧ p = (q.1 + a, q.2)) := fun p hp => by
    unfold A12 at hp
    rw [List.flatten_append] at hp
    rcases List.mem_append.mp hp with h9 | h9
    · exact Or.inl h9
    · rw [shN_fl] at h9
      obtain ⟨q, q1, q2⟩ := List.mem_map.mp h9
      exact Or.inr ⟨q, q1, q2.symm⟩
  generalize A12 A B a = D at hlen evA evB nD bA bB bJ1 ok12 wk12 pm eV dsg
  obtain ⟨c, hc⟩ : ∃ c, c = rn_c A v := ⟨_, rfl⟩
  obtain ⟨J, hJ⟩ : ∃ J, J = A.length + rn_c B w := ⟨_, rfl⟩
  have bJ := bB (rn_c B w)
  rw [← hJ] at bJ bJ1 eV
  rw [← hc] at g1 g2 g3 eV
  have m0 := rn_b_mono A c
  have hb1 := rn_b_le A (c + 1)
  have hb2 := rn_b_le B (rn_c B w + 1)
  have bc := bA c (by omega)
  have bc1 := bA (c + 1) (by omega)
  have bn := bA A.length (Nat.le_refl _)
  rw [rn_b_len] at bn
  let M : List Nat := ((seg (rn_b D c) (v + 1) ++ seg (A.flatten.length + w + 1) (rn_b D (J + 1))) ++ seg (rn_b D J) (A.flatten.length + w + 1)) ++ seg (v + 1) (rn_b D (c + 1))
  have hM : M.length = (rn_b A (c + 1) - rn_b A c) + (rn_b B (rn_c B w + 1) - rn_b B (rn_c B w)) := by
    show (((seg (rn_b D c) (v + 1) ++ seg (A.flatten.length + w + 1) (rn_b D (J + 1))) ++ seg (rn_b D J) (A.flatten.length + w + 1)) ++ seg (v + 1) (rn_b D (c + 1))).length = _
    rw [List.length_append, List.length_append, List.length_append, seg_len, seg_len, seg_len, seg_len]
    omega
  let I : ow_MS → Prop := fun y => fr (fun g => 3001 ≤ g ∧ g ≤ 3006) z3 y
  have oA : ∀ {y : ow_MS}, I y → oNet y 1000 A sg := fun hf => oNet_fr hf (fun g hg => by omega) o1'
  have oB : ∀ {y : ow_MS}, I y → oNet y 2000 B sg2 := fun hf => oNet_fr hf (fun g hg => by omega) o2
  have addI : ∀ {y y2 : ow_MS}, I y → fr (fun g => g = 3000 + 1 ∨ g = 3000 + 4 ∨ g = 3000 + 5) y y2 → I y2 := fun hI hf => fr_tr hI (fr_mono (fun g hg => by omega) hf)
  have endI : ∀ {y y2 : ow_MS}, I y → fr (fun g => g = 3000 + 2 ∨ g = 3000 + 3) y y2 → I y2 := fun hI hf => fr_tr hI (fr_mono (fun g hg => by omega) hf)
  -- the signs, and the end
  have l11 : ∀ (k x : Nat) (y : ow_MS), x + k = 20 → I y → bmX y 3000 D (joC D c v (A.flatten.length + w) J) [] → (∀ x', x' < x → y.2.1 3006 x' = if x' < a then z3.2.1 1006 x' else z3.2.1 2006 (x' - a)) → Tt (fun K i => q_X13_join K i 11 d (nI v) e (nI w) (nI a) (nI x) 0 0 0 0 y) Q := by
    intro k
    induction k with
    | zero =>
      intro x y hx9 hI hb9 hs9
      have hb9 : rn_At y 3000 (joV A B a v w) [] := by rw [eV]; exact hb9
      refine u_X13_join_11 ?_; unfold qm_X13_join_11
      refine w_leT (a := 20) (by omega) (by omega) (w_mono (w_keepX (z0 := z) (sg2 := joS A sg sg2) (gI_net pn3 hI (fun g hg => by omega) h3) (relR_fr hI (by omega) hR3) hfr (by rw [(hI 1 (by omega)).1]; exact z31) (fr_tr f03 (fr_mono (fun g hg => Or.inr (by unfold rSc; omega)) hI)) hb9 (fun p hp => ?_) (wkF_perm pm wk12) (by rw [pm.length_eq, hlen]; omega) (by omega)) (fun r hr => fin (Or.inr ⟨by omega, h6, Or.inr ⟨f, hfr, hr⟩⟩)))
      show y.2.1 3006 p.1 = if joS A sg sg2 p.1 = true then -1 else 1
      unfold joS
      rw [ea]
      rcases dsg p (pm.mem_iff.mp hp) with hpa | ⟨q, hq, rfl⟩
      · have hlt := ((ha.2 p).mp hpa).1
        rw [if_pos hlt, hs9 _ (by omega), if_pos hlt]
        exact o1'.2.1 p hpa
      · have hlt := ((hb.2 q).mp hq).1
        show y.2.1 3006 (q.1 + a) = if (if q.1 + a < a then sg (q.1 + a) else sg2 (q.1 + a - a)) = true then -1 else 1
        have e9 : (if q.1 + a < a then sg (q.1 + a) else sg2 (q.1 + a - a)) = sg2 q.1 := by rw [if_neg (by omega), Nat.add_sub_cancel]
        rw [e9, hs9 _ (by omega), if_neg (by omega), Nat.add_sub_cancel]
        exact o2.2.1 q hq
    | succ k ih =>
      intro x y hx9 hI hb9 hs9
      have c12 : ∀ t0 : Int32, t0 = (if x < a then z3.2.1 1006 x else z3.2.1 2006 (x - a)) → Tt (fun K i => q_X13_join K i 12 d (nI v) e (nI w) (nI a) (nI x) 0 0 t0 (nI x) y) Q := by
        intro t0 ht0
        refine u_X13_join_12 ?_; unfold qm_X13_join_12
        refine w_wrI (pl6 pn3) rfl (by omega) ?_
        rw [nI_1]
        refine ih (x + 1) _ (by omega) (fr_I2 hI (by omega)) (bmX_fr (P := fun g => g = 3006) (fr_I rfl) (fun g hg => by omega) hb9) (fun x' hx' => ?_)
        by_cases he : x' = x
        · rw [he, ← ht0]
          exact po_usI_at
        · exact rd_ne he (hs9 x' (by omega))
      refine u_X13_join_11 ?_; unfold qm_X13_join_11
      refine w_leF (a := 20) (by omega) (by omega) (w_le (by omega) (by omega) (fun h9 => ?_) (fun h9 => ?_))
      · rw [pk_sub h9]
        refine w_rdI (pl6 pn2) rfl (by omega) rfl (c12 _ ?_)
        rw [if_neg (by omega)]
        exact congrFun (hI 2006 (by omega)).2.1 _
      · refine w_rdI (pl6 pn1) rfl (by omega) rfl (c12 _ ?_)
        rw [if_pos h9]
        exact congrFun (hI 1006 (by omega)).2.1 _
  -- a component of the second net as it is
  have l9 : ∀ (m : Nat) (C : List (List Nat)), m < B.length → C.length < 39 → C.flatten.length + (rn_b B (m + 1) - rn_b B m) ≤ 39 → (∀ y2, I y2 → bmX y2 3000 D (C ++ [seg (rn_b D (A.length + m)) (rn_b D (A.length + m + 1))]) [] → Tt (fun K i => q_X13_join K i 8 d (nI v) e (nI w) (nI a) (nI (m + 1)) 0 0 0 0 y2) Q) → ∀ (k i : Nat) (y : ow_MS), i + k = rn_b B (m + 1) → rn_b B m ≤ i → I y → bmX y 3000 D C (seg (rn_b D (A.length + m)) (A.flatten.length + i)) → Tt (fun K i9 => q_X13_join K i9 9 d (nI v) e (nI w) (nI a) (nI m) (nI i) 0 0 0 y) Q := by
    intro m C hm hq hsz hout k
    have hbm := rn_b_le B (m + 1)
    have e1 := bB m
    have e2 : rn_b D (A.length + m + 1) = A.flatten.length + rn_b B (m + 1) := bB (m + 1)
    rw [e2] at hout
    induction k with
    | zero =>
      intro i y hi hlo hI hb9
      have hie : i = rn_b B (m + 1) := by omega
      rw [hie] at hb9 ⊢
      refine u_X13_join_9 ?_; unfold qm_X13_join_9
      rw [nI_1]
      refine w_rdI (pl3 pn2) rfl (by omega) (lk_b (oB hI).1 (by omega)) (w_leT (by omega) (Nat.le_refl _) (w_cs0 (bmX_end pn3 hb9 hq) (fun y2 ⟨g1, g2⟩ => ?_)))
      refine u_X13_join_10 ?_; unfold qm_X13_join_10
      rw [nI_1]
      exact hout y2 (endI hI g2) g1
    | succ k ihk =>
      intro i y hi hlo hI hb9
      have hil : i < B.flatten.length := by omega
      have ad := bmX_add (i := A.flatten.length + i) pn3 hb9 (by rw [seg_len, e1]; omega)
      rw [(evB i hil).1, (evB i hil).2] at ad
      refine u_X13_join_9 ?_; unfold qm_X13_join_9
      rw [nI_1]
      refine w_rdI (pl3 pn2) rfl (by omega) (lk_b (oB hI).1 (by omega)) (w_leF (by omega) (by omega) (w_rdI (pl4 pn2) rfl (by omega) (lk_cu (oB hI).1 hil).1 (w_rdI (pl5 pn2) rfl (by omega) (lk_cu (oB hI).1 hil).2 ?_)))
      rw [nI_add]
      refine w_cs0 ad (fun y2 ⟨g1, g2⟩ => ?_)
      rw [nI_1]
      refine ihk (i + 1) y2 (by omega) (by omega) (addI hI g2) ?_
      rw [← Nat.add_assoc, seg_s (by rw [e1]; omega)]
      exact g1
  -- the other components of the second net
  generalize hK : cps D 0 c ++ [M] ++ cps D (c + 1) A.length = K1
  have K1n : K1.length = A.length := by
    rw [← hK, List.length_append, List.length_append, cps_n, cps_n]
    show c - 0 + 1 + (A.length - (c + 1)) = _
    omega
  have s0c := cps_len (A := D) (Nat.zero_le c)
  rw [rn_b0, Nat.sub_zero] at s0c
  have K1l : K1.flatten.length = A.flatten.length + (rn_b B (rn_c B w + 1) - rn_b B (rn_c B w)) := by
    have sa := cps_len (A := D) (show c + 1 ≤ A.length by omega)
    rw [← hK, List.flatten_append, List.flatten_append, List.length_append, List.length_append, s0c, sa, List.flatten_cons, List.flatten_nil, List.append_nil, hM]
    omega
  have eJ : joC D c v (A.flatten.length + w) J = K1 ++ cps D A.length J ++ cps D (J + 1) D.length := by
    rw [← hK]
    show cps D 0 c ++ [M] ++ cps D (c + 1) J ++ cps D (J + 1) D.length = _
    rw [cps_app (A := D) (a := c + 1) (b := A.length) (d := J) (by omega) (by omega), ← List.append_assoc (cps D 0 c ++ [M])]
  have l8b : ∀ (k m : Nat) (y : ow_MS), m + k = B.length → rn_c B w < m → I y → bmX y 3000 D (K1 ++ cps D A.length J ++ cps D (J + 1) (A.length + m)) [] → Tt (fun K i => q_X13_join K i 8 d (nI v) e (nI w) (nI a) (nI m) 0 0 0 0 y) Q := by
    intro k
    induction k with
    | zero =>
      intro m y hm hcm hI hb9
      have hme : m = B.length := by omega
      rw [hme, ← nD, ← eJ] at hb9
      refine u_X13_join_8 ?_; unfold qm_X13_join_8
      exact w_rdF (lk_C (oB hI).1) (w_leT (by omega) (by omega) (l11 20 0 y (by omega) hI hb9 (fun x hx => by omega)))
    | succ k ih =>
      intro m y hm hcm hI hb9
      have hmB : m < B.length := by omega
      have m1 := rn_b_mono B m
      have m2 := rn_b_le B (m + 1)
      have m3 := rn_b_mono2 (A := B) (show rn_c B w + 1 ≤ m by omega)
      have sa := cps_len (A := D) (show A.length ≤ J by omega)
      have sb := cps_len (A := D) (show J + 1 ≤ A.length + m by omega)
      have e1 := bB m
      refine u_X13_join_8 ?_; unfold qm_X13_join_8
      refine w_rdF (lk_C (oB hI).1) (w_leF (by omega) (by omega) (w_rdI (pl8 pn2) rfl (by omega) (lk_c (oB hI).1 hwl) (w_ifF (fun e9 => by have := (nI_eq (by omega) (by omega)).mp e9; omega) (w_rdI (pl3 pn2) rfl (by omega) (lk_b (oB hI).1 (by omega)) (l9 m (K1 ++ cps D A.length J ++ cps D (J + 1) (A.length + m)) hmB ?_ ?_ (fun y2 hI2 hb8 => ih (m + 1) y2 (by omega) (by omega) hI2 ?_) (rn_b B (m + 1) - rn_b B m) (rn_b B m) y (by omega) (Nat.le_refl _) hI ?_)))))
      · rw [List.length_append, List.length_append, cps_n, cps_n, K1n]
        omega
      · rw [List.flatten_append, List.flatten_append, List.length_append, List.length_append, K1l, sa, sb]
        omega
      · rw [show A.length + (m + 1) = A.length + m + 1 by omega, cps_s (show J + 1 ≤ A.length + m by omega), ← List.append_assoc]
        exact hb8
      · rw [e1, seg_0]
        exact hb9
  have l8a : ∀ (k m : Nat) (y : ow_MS), m + k = rn_c B w → I y → bmX y 3000 D (K1 ++ cps D A.length (A.length + m)) [] → Tt (fun K i => q_X13_join K i 8 d (nI v) e (nI w) (nI a) (nI m) 0 0 0 0 y) Q := by
    intro k
    induction k with
    | zero =>
      intro m y hm hI hb9
      have hme : m = rn_c B w := by omega
      rw [hme, ← hJ] at hb9
      rw [hme]
      refine u_X13_join_8 ?_; unfold qm_X13_join_8
      refine w_rdF (lk_C (oB hI).1) (w_leF (by omega) (by omega) (w_rdI (pl8 pn2) rfl (by omega) (lk_c (oB hI).1 hwl) (w_ifT rfl ?_)))
      refine u_X13_join_10 ?_; unfold qm_X13_join_10
      rw [nI_1]
      refine l8b (B.length - (rn_c B w + 1)) (rn_c B w + 1) y (by omega) (by omega) hI ?_
      rw [show A.length + (rn_c B w + 1) = J + 1 by omega, cps_0, List.append_nil]
      exact hb9
    | succ k ih =>
      intro m y hm hI hb9
      have hmB : m < B.length := by omega
      have m1 := rn_b_mono B m
      have m3 := rn_b_mono2 (A := B) (show m + 1 ≤ rn_c B w by omega)
      have sa := cps_len (A := D) (show A.length ≤ A.length + m by omega)
      have e1 := bB m
      refine u_X13_join_8 ?_; unfold qm_X13_join_8
      refine w_rdF (lk_C (oB hI).1) (w_leF (by omega) (by omega) (w_rdI (pl8 pn2) rfl (by omega) (lk_c (oB hI).1 hwl) (w_ifF (fun e9 => by have := (nI_eq (by omega) (by omega)).mp e9; omega) (w_rdI (pl3 pn2) rfl (by omega) (lk_b (oB hI).1 (by omega)) (l9 m (K1 ++ cps D A.length (A.length + m)) hmB ?_ ?_ (fun y2 hI2 hb8 => ih (m + 1) y2 (by omega) hI2 ?_) (rn_b B (m + 1) - rn_b B m) (rn_b B m) y (by omega) (Nat.le_refl _) hI ?_)))))
      · rw [List.length_append, cps_n, K1n]
        omega
      · rw [List.flatten_append, List.length_append, K1l, sa]
        omega
      · rw [show A.length + (m + 1) = A.length + m + 1 by omega, cps_s (show A.length ≤ A.length + m by omega), ← List.append_assoc]
        exact hb8
      · rw [e1, seg_0]
        exact hb9
  -- a stretch of the first net without v
  have l5 : ∀ (m lo : Nat) (C : List (List Nat)) (Bo : List Nat), m < A.length → C.length < 39 → C.flatten.length + Bo.length + (rn_b A (m + 1) - lo) ≤ 39 → (v < lo ∨ rn_b A (m + 1) ≤ v) → (∀ y2, I y2 → bmX y2 3000 D (C ++ [Bo ++ seg lo (rn_b A (m + 1))]) [] → Tt (fun K i => q_X13_join K i 4 d (nI v) e (nI w) (nI a) (nI (m + 1)) 0 0 0 0 y2) Q) → ∀ (k i : Nat) (y : ow_MS), i + k = rn_b A (m + 1) → lo ≤ i → I y → bmX y 3000 D C (Bo ++ seg lo i) → Tt (fun K i9 => q_X13_join K i9 5 d (nI v) e (nI w) (nI a) (nI m) (nI i) 0 0 0 y) Q := by
    intro m lo C Bo hm hq hsz hvn hout k
    have hbm := rn_b_le A (m + 1)
    induction k with
    | zero =>
      intro i y hi hlo hI hb9
      have hie : i = rn_b A (m + 1) := by omega
      rw [hie] at hb9 ⊢
      refine u_X13_join_5 ?_; unfold qm_X13_join_5
      rw [nI_1]
      exact w_rdI (pl3 pn1) rfl (by omega) (lk_b (oA hI).1 (by omega)) (w_leT (by omega) (Nat.le_refl _) (w_cs0 (bmX_end pn3 hb9 hq) (fun y2 ⟨g1, g2⟩ => hout y2 (endI hI g2) g1)))
    | succ k ihk =>
      intro i y hi hlo hI hb9
      have hil : i < A.flatten.length := by omega
      have ad := bmX_add (i := i) pn3 hb9 (by rw [List.length_append, seg_len]; omega)
      rw [(evA i hil).1, (evA i hil).2] at ad
      refine u_X13_join_5 ?_; unfold qm_X13_join_5
      rw [nI_1]
      refine w_rdI (pl3 pn1) rfl (by omega) (lk_b (oA hI).1 (by omega)) (w_leF (by omega) (by omega) (w_rdI (pl4 pn1) rfl (by omega) (lk_cu (oA hI).1 hil).1 (w_rdI (pl5 pn1) rfl (by omega) (lk_cu (oA hI).1 hil).2 (w_cs0 ad (fun y2 ⟨g1, g2⟩ => w_ifF (fun e9 => by have := (nI_eq (by omega) (by omega)).mp e9; omega) ?_)))))
      refine u_X13_join_7 ?_; unfold qm_X13_join_7
      rw [nI_1]
      refine ihk (i + 1) y2 (by omega) (by omega) (addI hI g2) ?_
      rw [seg_s hlo, ← List.append_assoc]
      exact g1
  have l4b : ∀ (k m : Nat) (y : ow_MS), m + k = A.length → c < m → I y → bmX y 3000 D (cps D 0 c ++ [M] ++ cps D (c + 1) m) [] → Tt (fun K i => q_X13_join K i 4 d (nI v) e (nI w) (nI a) (nI m) 0 0 0 0 y) Q := by
    intro k
    induction k with
    | zero =>
      intro m y hm hcm hI hb9
      have hme : m = A.length := by omega
      rw [hme, hK] at hb9
      refine u_X13_join_4 ?_; unfold qm_X13_join_4
      refine w_rdF (lk_C (oA hI).1) (w_leT (by omega) (by omega) (l8a (rn_c B w) 0 y (by omega) hI ?_))
      rw [Nat.add_zero, cps_0, List.append_nil]
      exact hb9
    | succ k ih =>
      intro m y hm hcm hI hb9
      have m1 := rn_b_mono A m
      have m2 := rn_b_le A (m + 1)
      have m3 := rn_b_mono2 (A := A) (show c + 1 ≤ m by omega)
      have sa := cps_len (A := D) (show c + 1 ≤ m by omega)
      have e1 := bA m (by omega)
      have e2 := bA (m + 1) (by omega)
      refine u_X13_join_4 ?_; unfold qm_X13_join_4
      refine w_rdF (lk_C (oA hI).1) (w_leF (by omega) (by omega) (w_rdI (pl3 pn1) rfl (by omega) (lk_b (oA hI).1 (by omega)) (l5 m (rn_b A m) (cps D 0 c ++ [M] ++ cps D (c + 1) m) [] (by omega) ?_ ?_ (Or.inl (by omega)) (fun y2 hI2 hb8 => ih (m + 1) y2 (by omega) (by omega) hI2 ?_) (rn_b A (m + 1) - rn_b A m) (rn_b A m) y (by omega) (Nat.le_refl _) hI ?_)))
      · rw [List.length_append, List.length_append, cps_n, cps_n]
        show c - 0 + 1 + (m - (c + 1)) < 39
        omega
      · rw [List.flatten_append, List.flatten_append, List.length_append, List.length_append, s0c, sa, List.flatten_cons, List.flatten_nil, List.append_nil, hM]
        show _ + 0 + _ ≤ 39
        omega
      · rw [cps_s (show c + 1 ≤ m by omega), ← List.append_assoc, e1, e2]
        exact hb8
      · rw [seg_0]
        exact hb9
  -- the component with v
  have l6 : ∀ (k t : Nat) (y : ow_MS), t + 1 + k = rlen B (rn_c B w) → I y → bmX y 3000 D (cps D 0 c) (seg (rn_b D c) (v + 1) ++ (List.range t).map (fun s => A.flatten.length + rv B w (s + 1))) → Tt (fun K i9 => q_X13_join K i9 6 d (nI v) e (nI w) (nI a) (nI c) (nI v) (nI (rv B w t)) 0 0 y) Q := by
    have erl : rlen B (rn_c B w) = rn_b B (rn_c B w + 1) - rn_b B (rn_c B w) := rfl
    intro k
    induction k with
    | zero =>
      intro t y ht hI hb8
      have htl : t < rlen B (rn_c B w) := by omega
      have hnx := rv_nx hwl htl
      rw [if_pos (by omega)] at hnx
      have hrt := rv_lt hwl htl
      have ad := bmX_add (i := A.flatten.length + w) pn3 hb8 (by rw [s0c, List.length_append, seg_len, List.length_map, List.length_range]; omega)
      rw [(evB w hwl).1, (evB w hwl).2] at ad
      refine u_X13_join_6 ?_; unfold qm_X13_join_6
      refine w_rdI (pl9 pn2) rfl (by omega) (lk_n (oB hI).1 hrt) ?_
      rw [hnx]
      refine w_rdI (pl4 pn2) rfl (by omega) (lk_cu (oB hI).1 hwl).1 (w_rdI (pl5 pn2) rfl (by omega) (lk_cu (oB hI).1 hwl).2 ?_)
      rw [nI_add]
      refine w_cs0 ad (fun y2 ⟨g1, g2⟩ => w_ifT rfl ?_)
      have eL : (seg (rn_b D c) (v + 1) ++ (List.range t).map (fun s => A.flatten.length + rv B w (s + 1))) ++ [A.flatten.length + w] = (seg (rn_b D c) (v + 1) ++ seg (A.flatten.length + w + 1) (rn_b D (J + 1))) ++ seg (rn_b D J) (A.flatten.length + w + 1) := by
        rw [bJ1, bJ, List.append_assoc, List.append_assoc, ← ring_seg hwl, show rlen B (rn_c B w) = t + 1 by omega, List.range_succ, List.map_append]
        show _ = _ ++ (_ ++ [A.flatten.length + rv B w (t + 1)])
        rw [show t + 1 = rlen B (rn_c B w) by omega, rv_len hwl]
      rw [eL] at g1
      refine u_X13_join_7 ?_; unfold qm_X13_join_7
      rw [nI_1]
      refine l5 c (v + 1) (cps D 0 c) ((seg (rn_b D c) (v + 1) ++ seg (A.flatten.length + w + 1) (rn_b D (J + 1))) ++ seg (rn_b D J) (A.flatten.length + w + 1)) (by omega) (by rw [cps_n]; omega) ?_ (Or.inl (by omega)) (fun y3 hI3 hb3 => l4b (A.length - (c + 1)) (c + 1) y3 (by omega) (by omega) hI3 ?_) (rn_b A (c + 1) - (v + 1)) (v + 1) y2 (by omega) (Nat.le_refl _) (addI hI g2) ?_
      · rw [s0c, List.length_append, List.length_append, seg_len, seg_len, seg_len]
        omega
      · rw [cps_0, List.append_nil]
        show bmX y3 3000 D (cps D 0 c ++ [((seg (rn_b D c) (v + 1) ++ seg (A.flatten.length + w + 1) (rn_b D (J + 1))) ++ seg (rn_b D J) (A.flatten.length + w + 1)) ++ seg (v + 1) (rn_b D (c + 1))]) []
        rw [bc1]
        exact hb3
      · rw [seg_0, List.append_nil]
        exact g1
    | succ k ihr =>
      intro t y ht hI hb8
      have htl : t < rlen B (rn_c B w) := by omega
      have hnx := rv_nx hwl htl
      rw [if_neg (by omega)] at hnx
      have hrt := rv_lt hwl htl
      have hr1 := rv_lt hwl (show t + 1 < rlen B (rn_c B w) by omega)
      have hrn := rv_ne hwl (show t + 1 < rlen B (rn_c B w) by omega) (by omega)
      have ad := bmX_add (i := A.flatten.length + rv B w (t + 1)) pn3 hb8 (by rw [s0c, List.length_append, seg_len, List.length_map, List.length_range]; omega)
      rw [(evB _ hr1).1, (evB _ hr1).2] at ad
      refine u_X13_join_6 ?_; unfold qm_X13_join_6
      refine w_rdI (pl9 pn2) rfl (by omega) (lk_n (oB hI).1 hrt) ?_
      rw [hnx]
      refine w_rdI (pl4 pn2) rfl (by omega) (lk_cu (oB hI).1 hr1).1 (w_rdI (pl5 pn2) rfl (by omega) (lk_cu (oB hI).1 hr1).2 ?_)
      rw [nI_add]
      refine w_cs0 ad (fun y2 ⟨g1, g2⟩ => w_ifF (fun e9 => hrn ((nI_eq (by omega) (by omega)).mp e9)) (ihr (t + 1) y2 (by omega) (addI hI g2) ?_))
      rw [List.range_succ, List.map_append, ← List.append_assoc]
      exact g1
  have l5v : ∀ (k i : Nat) (y : ow_MS), i + k = v → rn_b A c ≤ i → I y → bmX y 3000 D (cps D 0 c) (seg (rn_b D c) i) → Tt (fun K i9 => q_X13_join K i9 5 d (nI v) e (nI w) (nI a) (nI c) (nI i) 0 0 0 y) Q := by
    intro k
    induction k with
    | zero =>
      intro i y hi hlo hI hb9
      have hie : i = v := by omega
      rw [hie] at hb9 ⊢
      have ad := bmX_add (i := v) pn3 hb9 (by rw [s0c, seg_len]; omega)
      rw [(evA v hvl).1, (evA v hvl).2] at ad
      have hrl := rlen_pos hwl
      refine u_X13_join_5 ?_; unfold qm_X13_join_5
      rw [nI_1]
      refine w_rdI (pl3 pn1) rfl (by omega) (lk_b (oA hI).1 (by omega)) (w_leF (by omega) (by omega) (w_rdI (pl4 pn1) rfl (by omega) (lk_cu (oA hI).1 hvl).1 (w_rdI (pl5 pn1) rfl (by omega) (lk_cu (oA hI).1 hvl).2 (w_cs0 ad (fun y2 ⟨g1, g2⟩ => w_ifT rfl ?_)))))
      have := l6 (rlen B (rn_c B w) - 1) 0 y2 (by omega) (addI hI g2) (by
        rw [seg_s (by rw [bc]; omega)]
        show bmX y2 3000 D (cps D 0 c) ((seg (rn_b D c) v ++ [v]) ++ [])
        rw [List.append_nil]
        exact g1)
      rw [rv_0 hwl] at this
      exact this
    | succ k ihk =>
      intro i y hi hlo hI hb9
      have hil : i < A.flatten.length := by omega
      have ad := bmX_add (i := i) pn3 hb9 (by rw [s0c, seg_len]; omega)
      rw [(evA i hil).1, (evA i hil).2] at ad
      refine u_X13_join_5 ?_; unfold qm_X13_join_5
      rw [nI_1]
      refine w_rdI (pl3 pn1) rfl (by omega) (lk_b (oA hI).1 (by omega)) (w_leF (by omega) (by omega) (w_rdI (pl4 pn1) rfl (by omega) (lk_cu (oA hI).1 hil).1 (w_rdI (pl5 pn1) rfl (by omega) (lk_cu (oA hI).1 hil).2 (w_cs0 ad (fun y2 ⟨g1, g2⟩ => w_ifF (fun e9 => by have := (nI_eq (by omega) (by omega)).mp e9; omega) ?_)))))
      refine u_X13_join_7 ?_; unfold qm_X13_join_7
      rw [nI_1]
      refine ihk (i + 1) y2 (by omega) (by omega) (addI hI g2) ?_
      rw [seg_s (by rw [bc]; exact hlo)]
      exact g1
  have l4a : ∀ (k m : Nat) (y : ow_MS), m + k = c → I y → bmX y 3000 D (cps D 0 m) [] → Tt (fun K i => q_X13_join K i 4 d (nI v) e (nI w) (nI a) (nI m) 0 0 0 0 y) Q := by
    intro k
    induction k with
    | zero =>
      intro m y hm hI hb9
      have hme : m = c := by omega
      rw [hme] at hb9 ⊢
      refine u_X13_join_4 ?_; unfold qm_X13_join_4
      refine w_rdF (lk_C (oA hI).1) (w_leF (by omega) (by omega) (w_rdI (pl3 pn1) rfl (by omega) (lk_b (oA hI).1 (by omega)) (l5v (v - rn_b A c) (rn_b A c) y (by omega) (Nat.le_refl _) hI ?_)))
      rw [bc, seg_0]
      exact hb9
    | succ k ih =>
      intro m y hm hI hb9
      have m1 := rn_b_mono A m
      have m3 := rn_b_mono2 (A := A) (show m + 1 ≤ c by omega)
      have sm := cps_len (A := D) (Nat.zero_le m)
      rw [rn_b0, Nat.sub_zero] at sm
      have e1 := bA m (by omega)
      have e2 := bA (m + 1) (by omega)
      refine u_X13_join_4 ?_; unfold qm_X13_join_4
      refine w_rdF (lk_C (oA hI).1) (w_leF (by omega) (by omega) (w_rdI (pl3 pn1) rfl (by omega) (lk_b (oA hI).1 (by omega)) (l5 m (rn_b A m) (cps D 0 m) [] (by omega) (by rw [cps_n]; omega) (by rw [sm]; show _ + 0 + _ ≤ 39; omega) (Or.inr (by omega)) (fun y2 hI2 hb8 => ih (m + 1) y2 (by omega) hI2 ?_) (rn_b A (m + 1) - rn_b A m) (rn_b A m) y (by omega) (Nat.le_refl _) hI ?_)))
      · rw [cps_s (Nat.zero_le m), e1, e2]
        exact hb8
      · rw [seg_0]
        exact hb9
  refine l4a c 0 z4 (by omega) (fr_mono (fun g hg => by omega) f4) ?_
  rw [cps_0]
  exact b4
end XJ
end
section
/-! 99zzzzzzzzzn.xjc -/
/-! exact calls: join, of the class -/
section XJC
variable {vl : Nat → Nat} {y : ow_MS} {St : plT} {x x' : Int32}
theorem xc_join {v0 w0 : Int32} (hN : gN y) (hC : relC y St) (hS : okS St) : Te (fun K => ce_X11_join vl K 0 x v0 x' w0 y) (fun r => r.1 = 1 ∧ gN r.2.2 ∧ fr uP y r.2.2 ∧ relC r.2.2 St ∧ joN St x v0 x' w0 ∨ ∃ A sg B sg' v w, joG St x v0 x' w0 A sg B sg' v w ∧ (r.1 = 4 ∧ gN r.2.2 ∧ fr uP y r.2.2 ∧ relC r.2.2 St ∧ (24 < A.flatten.length + B.flatten.length ∨ 6 < A.length + B.length - 1) ∨ A.flatten.length + B.flatten.length ≤ 24 ∧ A.length + B.length - 1 ≤ 6 ∧ (r.1 = 3 ∧ gN r.2.2 ∧ fr uP y r.2.2 ∧ relC r.2.2 St ∧ allF St ∨ r.1 = 0 ∧ ∃ f, lstF St f ∧ cKp y f (joV A B (A.flatten.length / 2) v w) (joS A sg sg') r.2))) := by
  refine e_X11_join ?_; unfold cm_X11_join_0
  refine w_tc0 (xc_need hN.1 hC hS) ?_ ?_
  · rintro y1 ⟨h1, rfl⟩
    rcases h1 with h1 | ⟨-, d, A, sg, c, hd, rfl, hSt, hs, hA, hne, hpl⟩
    · exact absurd (show (0 : Nat) = 1 from h1.1) (by decide)
    · have e3 : y1.2.1 1003 d = nI c := by
        have := hs.1
        rw [(okL_c (sg := sg) hA).1] at this
        exact this
      have hc12 := hA.2.2.2.1
      have lA := okF_len hA.1
      have noV : (∀ v, v < A.flatten.length → v0 ≠ nI v) → joN St (nI d) v0 x' w0 := fun hno A1 sg1 B1 sg1' v w hG => by
        obtain ⟨⟨d', a1, a2, a3⟩, -, b1, b2, -⟩ := hG
        have e1 := (pl_uni a1 hd a2 rfl a3 hSt).1
        rw [e1] at b1
        exact hno v b1 b2
      refine w_if (fun hv0 => w_some (Or.inl ⟨rfl, hN, fr_rf, hC, noV (fun v hv9 ev => ?_)⟩)) (fun v0' => w_crI (tH_3 ch_1000) rfl hd e3 ?_)
      · rw [ev] at hv0
        exact absurd hv0 (nI_pos (by omega))
      obtain ⟨i, i31, rfl⟩ := nI_of v0'
      rw [show (2 : Int32) * nI c = nI (2 * c) from pk_mul 2 _]
      refine w_lt i31 (by omega) (fun hic => ?_) (fun hic => w_some (Or.inl ⟨rfl, hN, fr_rf, hC, noV (fun v hv9 ev => ?_)⟩))
      rotate_left
      · have := nI_inj9 (a := i) (b := v) (by omega) (by omega) ev
        omega
      refine w_tc0 (xc_need hN.1 hC hS) ?_ ?_
      · rintro y2 ⟨h2, rfl⟩
        rcases h2 with h2 | ⟨-, e, B, sg', c', he, rfl, hSt', hs', hB, hne', hpl'⟩
        · exact absurd (show (0 : Nat) = 1 from h2.1) (by decide)
        · have e3' : y2.2.1 1003 e = nI c' := by
            have := hs'.1
            rw [(okL_c (sg := sg') hB).1] at this
            exact this
          have hc12' := hB.2.2.2.1
          have lB := okF_len hB.1
          have noW : (∀ w, w < B.flatten.length → w0 ≠ nI w) → joN St (nI d) (nI i) (nI e) w0 := fun hno A1 sg1 B1 sg1' v w hG => by
            obtain ⟨-, ⟨d', a1, a2, a3⟩, -, -, b1, b2⟩ := hG
            have e1 := (pl_uni a1 he a2 rfl a3 hSt').1
            rw [e1] at b1
            exact hno w b1 b2
          refine w_if (fun hw0 => w_some (Or.inl ⟨rfl, hN, fr_rf, hC, noW (fun v hv9 ev => ?_)⟩)) (fun w0' => w_crI (tH_3 ch_1000) rfl he e3' ?_)
          · rw [ev] at hw0
            exact absurd hw0 (nI_pos (by omega))
          obtain ⟨j, j31, rfl⟩ := nI_of w0'
          rw [show (2 : Int32) * nI c' = nI (2 * c') from pk_mul 2 _]
          refine w_lt j31 (by omega) (fun hjc => ?_) (fun hjc => w_some (Or.inl ⟨rfl, hN, fr_rf, hC, noW (fun v hv9 ev => ?_)⟩))
          rotate_left
          · have := nI_inj9 (a := j) (b := v) (by omega) (by omega) ev
            omega
          have hiv : i < A.flatten.length := by omega
          have hjv : j < B.flatten.length := by omega
          have hG : joG St (nI d) (nI i) (nI e) (nI j) A sg B sg' i j := ⟨⟨d, hd, rfl, hSt⟩, ⟨e, he, rfl, hSt'⟩, hiv, rfl, hjv, rfl⟩
          have ea : A.flatten.length / 2 = c := by omega
          refine w_tc0 (xc_loadBoth (j := 1) hN hC hd he hs hA hpl hs' hB hpl' hne (by omega)) ?_ ?_
          · rintro y3 ⟨hN3, f3, hC3, sl3, h3⟩
            rcases h3 with ⟨-, h12, h6, T, R, hT, hR, eT, eR⟩ | h3
            · have h12' : T.1 + R.1 ≤ 12 := by omega
              refine w_tc1 (xc_free hN3.1 hC3 hS) ?_ ?_
              · rintro u y4 ⟨h4, rfl⟩
                rcases h4 with h4 | ⟨-, q, rfl, hq⟩
                · exact absurd (show (0 : Nat) = 3 from h4.1) (by decide)
                · have nT := hT.1.2.2.1
                  have nR := hR.1.2.2.1
                  have a1' : lb (vAt A i) < 2 * T.1 := lbv_lt hT.1.2.1 hiv
                  have b1' : lb (vAt B j) < 2 * R.1 := lbv_lt hR.1.2.1 hjv
                  refine w_crI (nH_4 nH4) rfl (show i < 24 by omega) (hT.1.2.2.2.1 i _ (vAt_of hiv)) (w_rdF hT.1.1.1 (w_crI (nH_4 nH5) rfl (show j < 24 by omega) (hR.1.2.2.2.1 j _ (vAt_of hjv)) ?_))
                  refine w_cs0 (tc_append nH4 nH5 (by unfold nDj; omega) hT.1.1 hR.1.1 h12') ?_
                  rintro y5 ⟨g1, g2⟩
                  have g1 : cAt y5 4000 (ntA T R) := g1
                  obtain ⟨n1, n2, n3, n4, n5⟩ := ntA_ok nT nR h12'
                  have n1' : vn (T.1 + R.1) (ntA T R).2.2.1 := n1
                  rw [show (2 : Int32) * nI T.1 = nI (2 * T.1) from pk_mul 2 _, nI_add]
                  refine w_cs0 (tc_exchange nH4 g1 n2 (show lb (vAt A i) < 24 by omega) (show 2 * T.1 + lb (vAt B j) < 24 by omega)) ?_
                  rintro y6 ⟨g3, g4⟩
                  have hm := rg_merge (v := lb (vAt A i)) (w := 2 * T.1 + lb (vAt B j)) n1' h12' (by omega) (by omega) (fun k e9 => by
                    rw [n4 _ _ a1'] at e9
                    have := it_lt nT.1 a1' k
                    omega)
                  have r1 := iso_rg hT.1.2.1
                  have r2 := iso_rg hR.1.2.1
                  have n3' : np_rg (T.1 + R.1) (ntA T R).2.2.1 = np_rg T.1 T.2.2.1 + np_rg R.1 R.2.2.1 := n3
                  have hv : nv (ntS (ntA T R) (np_exchange (ntA T R).2.2.1 (lb (vAt A i)) (2 * T.1 + lb (vAt B j)))) := ⟨vn_exchange n1' (by omega) (by omega), h12', b24_exchange n2 (by omega) (by omega), by
                    show np_rg (T.1 + R.1) (np_exchange (ntA T R).2.2.1 (lb (vAt A i)) (2 * T.1 + lb (vAt B j))) + (T.2.1 + R.2.1) ≤ 6
                    omega⟩
                  have hV3 := iso_app (k := A.flatten.length / 2) hT.2.1 hR.2.1 n1 h12' (fun p hp => by rw [ea]; exact ((hA.1.2 p).mp hp).1) (fun p hp => by have := ((hB.1.2 p).mp hp).1; omega)
                  obtain ⟨c1, c2, c3⟩ := rn_c_in A i hiv
                  obtain ⟨j1, j2, j3⟩ := rn_c_in B j hjv
                  have bl1 := A12_bl (A := A) (B := B) (s := A.flatten.length / 2) (m := rn_c A i) (by omega)
                  have bl2 := A12_bl (A := A) (B := B) (s := A.flatten.length / 2) (m := rn_c A i + 1) (by omega)
                  have br1 := A12_br (A := A) (B := B) (s := A.flatten.length / 2) (rn_c B j)
                  have br2 : rn_b (A12 A B (A.flatten.length / 2)) (A.length + rn_c B j + 1) = A.flatten.length + rn_b B (rn_c B j + 1) := A12_br (rn_c B j + 1)
                  have nD := A12_n (A := A) (B := B) (s := A.flatten.length / 2)
                  have hV4 := iso_joC (D := A12 A B (A.flatten.length / 2)) (c := rn_c A i) (v := i) (w := A.flatten.length + j) (J := A.length + rn_c B j) hV3 (by omega) (by omega) (by omega) (by omega) (by omega) (by omega)
                  have lt1 : (vAt A i).1 < A.flatten.length / 2 := by
                    rw [ea]
                    exact ((hA.1.2 _).mp (List.mem_of_getElem? (vAt_of hiv))).1
                  have gl1 : gl (fun x => if x < A.flatten.length / 2 then x else T.1 + (x - A.flatten.length / 2)) (vAt (A12 A B (A.flatten.length / 2)) i) = lb (vAt A i) := by
                    rw [A12_l hiv]
                    show 2 * (if (vAt A i).1 < A.flatten.length / 2 then (vAt A i).1 else _) + (vAt A i).2 = _
                    rw [if_pos lt1]
                    rfl
                  have gl2 : gl (fun x => if x < A.flatten.length / 2 then x else T.1 + (x - A.flatten.length / 2)) (vAt (A12 A B (A.flatten.length / 2)) (A.flatten.length + j)) = 2 * T.1 + lb (vAt B j) := by
                    rw [A12_r hjv]
                    show 2 * (if (vAt B j).1 + A.flatten.length / 2 < A.flatten.length / 2 then (vAt B j).1 + A.flatten.length / 2 else T.1 + ((vAt B j).1 + A.flatten.length / 2 - A.flatten.length / 2)) + (vAt B j).2 = 2 * T.1 + (2 * (vAt B j).1 + (vAt B j).2)
                    rw [if_neg (by omega), Nat.add_sub_cancel]
                    omega
                  rw [gl1, gl2] at hV4
                  have hN5 := gN_net nH4 g2 (fun g hg => by unfold cP at hg; omega) ⟨_, g1, n2⟩ hN3
                  refine w_cs1 (tc_keep (gN_net nH4 g4 (fun g hg => by unfold cP at hg; omega) ⟨_, g3, hv.2.2.1⟩ hN5) hq.1 g3 hv) ?_
                  rintro r y7 ⟨q0, q1, q2, ⟨Cs, os, q3, q4⟩, q5, -⟩
                  exact w_some (Or.inr ⟨A, sg, B, sg', i, j, hG, Or.inr ⟨by omega, by omega, Or.inr ⟨rfl, q, hq, q0, q1, fr_tr f3 (fr_tr (fr_mono (fun g hg => by unfold cP at hg; unfold uP; omega) g2) (fr_tr (fr_mono (fun g hg => by unfold cP at hg; unfold uP; omega) g4) q2)), ⟨_, _, Cs, os, hv, pm1_A hT.2.2.1 hR.2.2.1, hV4, pl_join nT nR h12' hT.2.2.2 hR.2.2.2 a1' b1', q3, q4⟩, fun d' C' h1 h2 h3 => q5 d' C' h1 h2 (slC_fr g4 (fun q hq h9 => by unfold cW at hq; unfold cP at h9; omega) (slC_fr g2 (fun q hq h9 => by unfold cW at hq; unfold cP at h9; omega) (sl3 d' C' h3)))⟩⟩⟩)
              · rintro a u y4 ha ⟨h4, rfl⟩
                rcases h4 with h4 | h4
                · exact w_some (Or.inr ⟨A, sg, B, sg', i, j, hG, Or.inr ⟨by omega, by omega, Or.inl ⟨h4.1, hN3, f3, hC3, h4.2⟩⟩⟩)
                · exact absurd h4.1 ha
            · exact absurd (show (0 : Nat) = 4 from h3.1) (by decide)
          · rintro a y3 ha ⟨hN3, f3, hC3, sl3, h3⟩
            rcases h3 with h3 | h3
            · exact absurd h3.1 ha
            · exact w_some (Or.inr ⟨A, sg, B, sg', i, j, hG, Or.inl ⟨h3.1, hN3, f3, hC3, by omega⟩⟩)
      · rintro a y2 ha ⟨h2, rfl⟩
        rcases h2 with h2 | h2
        · exact w_some (Or.inl ⟨h2.1, hN, fr_rf, hC, fun A1 sg1 B1 sg1' v w ⟨_, ⟨d', a1, a2, a3⟩, _⟩ => by rw [h2.2 d' a1 a2] at a3; cases a3⟩)
        · exact absurd h2.1 ha
  · rintro a y1 ha ⟨h1, rfl⟩
    rcases h1 with h1 | h1
    · exact w_some (Or.inl ⟨h1.1, hN, fr_rf, hC, fun A1 sg1 B1 sg1' v w ⟨⟨d', a1, a2, a3⟩, _⟩ => by rw [h1.2 d' a1 a2] at a3; cases a3⟩)
    · exact absurd h1.1 ha
end XJC
end
section
/-! 99zzzzzzzzzo.xvis -/
/-! exact calls: visit, alike, of both -/
/-- a call that answers and changes nothing kept -/
def rOk (X : (Nat → Nat → Int32) → Prop) (z : ow_MS) (r : Int32 × ow_MS) : Prop := gI X r.2 ∧ r.2.1 1 = 0 ∧ fr rPs z r.2
def in9 (x : Int32) (n : Nat) : Prop := ∃ k, k < n ∧ x = nI k
theorem in9_iff {x : Int32} {n : Nat} (hn : n < 2 ^ 31) : in9 x n ↔ ¬ x < 0 ∧ x < nI n := by
  constructor
  · rintro ⟨k, hk, rfl⟩
    exact ⟨nI_pos (by omega), (nI_ltI (by omega) hn).mpr hk⟩
  · rintro ⟨h0, h1⟩
    obtain ⟨k, k31, rfl⟩ := nI_of h0
    exact ⟨k, (nI_ltI k31 hn).mp h1, rfl⟩
theorem in9_le {x : Int32} {n : Nat} (hn : n + 1 < 2 ^ 31) : in9 x (n + 1) ↔ ¬ x < 0 ∧ x ≤ nI n := by
  constructor
  · rintro ⟨k, hk, rfl⟩
    exact ⟨nI_pos (by omega), (nI_leI (by omega) (by omega)).mpr (by omega)⟩
  · rintro ⟨h0, h1⟩
    obtain ⟨k, k31, rfl⟩ := nI_of h0
    exact ⟨k, by have := (nI_leI k31 (by omega)).mp h1; omega, rfl⟩
def visR (A : rn_L) (sg : Nat → Bool) (v k : Nat) : Int32 := if k = 0 then nI (rn_c A v) else if k = 1 then nI (crs A v) else if k = 2 then nI (uns A v) else if sg (crs A v) then -1 else 1
section XV
variable {X : (Nat → Nat → Int32) → Prop} {z : ow_MS} {St : plT}
theorem xq_visit {d i what : Int32} (h : gI X z) (hR : relR z St) : Te (fun K => qe_X13_visit K d i what z) (fun r => rFl X z 1 r ∧ (∀ e, e < 40 → d = nI e → St e = none) ∨ ∃ e A sg, e < 40 ∧ d = nI e ∧ St e = some (A, sg) ∧ (rFl X z 1 r ∧ ¬ in9 i A.flatten.length ∨ ∃ v, v < A.flatten.length ∧ i = nI v ∧ (rFl X z 2 r ∧ ¬ in9 what 4 ∨ rOk X z r ∧ ∃ k, k < 4 ∧ what = nI k ∧ r.1 = visR A sg v k))) := by
  let Q : Int32 × ow_MS → Prop := fun r => rFl X z 1 r ∧ (∀ e, e < 40 → d = nI e → St e = none) ∨ ∃ e A sg, e < 40 ∧ d = nI e ∧ St e = some (A, sg) ∧ (rFl X z 1 r ∧ ¬ in9 i A.flatten.length ∨ ∃ v, v < A.flatten.length ∧ i = nI v ∧ (rFl X z 2 r ∧ ¬ in9 what 4 ∨ rOk X z r ∧ ∃ k, k < 4 ∧ what = nI k ∧ r.1 = visR A sg v k))
  have h1 := gI_1 (c := 0) h
  have hR1 := relR_1 (c := 0) hR
  refine e_X13_visit ?_
  refine u_X13_visit_0 ?_; unfold qm_X13_visit_0
  refine w_wrF (w_hasX hR1 (fun h0 => w_ifT rfl (w_mono (w_failX h1 fr_1) (fun r hr => Or.inl ⟨hr, h0⟩))) (fun e A sg he hx hs hv hne => w_ifF (by decide) ?_))
  subst hx
  refine w_cs0 (to_open pn1 he hv) (fun z2 ⟨o1, f1⟩ => ?_)
  have h2 : gI X z2 := gI_net pn1 f1 (fun g hg => by omega) h1
  have hl := o1.len
  have f02 : fr rPs z z2 := fr_tr fr_1 (fr_mono (fun g hg => Or.inr (by unfold rSc; omega)) f1)
  have z21 : z2.1 1 = 0 := by rw [(f1 1 (by omega)).1]; exact po_usF_at
  have fin : ∀ {r}, (rFl X z 1 r ∧ ¬ in9 i A.flatten.length ∨ ∃ v, v < A.flatten.length ∧ i = nI v ∧ (rFl X z 2 r ∧ ¬ in9 what 4 ∨ rOk X z r ∧ ∃ k, k < 4 ∧ what = nI k ∧ r.1 = visR A sg v k)) → Q r := fun hr => Or.inr ⟨e, A, sg, he, rfl, hs, hr⟩
  have c1 : ¬ in9 i A.flatten.length → Tt (fun K k => q_X13_visit K k 1 (nI e) i what z2) Q := by
    intro hno
    refine u_X13_visit_1 ?_; unfold qm_X13_visit_1
    exact w_mono (w_failX (k := 1) h2 f02) (fun r hr => fin (Or.inl ⟨hr, hno⟩))
  have hi9 := in9_iff (x := i) (n := A.flatten.length) (by omega)
  refine w_if (fun h9 => c1 (fun h8 => (hi9.mp h8).1 h9)) (fun h0 => w_rdF o1.1.V (w_if (fun h9 => ?_) (fun h9 => c1 (fun h8 => h9 (hi9.mp h8).2))))
  obtain ⟨v, hv31, rfl⟩ := nI_of h0
  have hvl : v < A.flatten.length := (nI_ltI hv31 (by omega)).mp h9
  obtain ⟨x1, x2, x3⟩ := o1.cx hvl
  have ok : ∀ {a : Int32} (k : Nat), k < 4 → what = nI k → a = visR A sg v k → Q (a, z2) := fun k k1 k2 k3 => fin (Or.inr ⟨v, hvl, rfl, Or.inr ⟨⟨h2, z21, f02⟩, k, k1, k2, k3⟩⟩)
  have key : ∀ k : Nat, k < 4 → what.toInt = (k : Int) → what = nI k := by
    intro k hk e9
    refine Int32.toInt_inj.mp ?_
    rw [e9, nI_toInt (by omega)]
  have no4 : what.toInt < 0 ∨ 3 < what.toInt → ¬ in9 what 4 := fun h8 ⟨k, k1, k2⟩ => by
    rw [k2, nI_toInt (by omega)] at h8
    omega
  refine w_if (fun h8 => w_mono (w_failX (k := 2) h2 f02) (fun r hr => fin (Or.inr ⟨v, hvl, rfl, Or.inl ⟨hr, no4 h8⟩⟩))) (fun hw => w_if (fun q => w_rdI (pl8 pn1) rfl (by omega) (lk_c o1.1 hvl) (w_some (ok 0 (by omega) q rfl))) (fun w0 => w_if (fun q => w_rdI (pl4 pn1) rfl (by omega) (lk_cu o1.1 hvl).1 (w_some (ok 1 (by omega) q rfl))) (fun w1 => w_if (fun q => w_rdI (pl5 pn1) rfl (by omega) (lk_cu o1.1 hvl).2 (w_some (ok 2 (by omega) q rfl))) (fun w2 => w_if (fun q => w_rdI (pl4 pn1) rfl (by omega) (lk_cu o1.1 hvl).1 (w_rdI (pl6 pn1) rfl (by omega) (o1.2.1 _ (vAt_mem hvl)) (w_some (ok 3 (by omega) q rfl)))) (fun w3 => ?_)))))
  exfalso
  have hge : 0 ≤ what.toInt := by omega
  have hle : what.toInt ≤ 3 := by omega
  obtain ⟨k, hk⟩ := Int.eq_ofNat_of_zero_le hge
  have hk4 : k < 4 := by omega
  have hwk := key k hk4 hk
  have : k = 0 ∨ k = 1 ∨ k = 2 ∨ k = 3 := by omega
  rcases this with e9 | e9 | e9 | e9 <;> subst e9
  · exact w0 hwk
  · exact w1 hwk
  · exact w2 hwk
  · exact w3 hwk
end XV
section XVC
variable {vl : Nat → Nat} {y : ow_MS} {St : plT} {x x' : Int32}
theorem iso_sg1 {A : rn_L} {sg : Nat → Bool} {f : Nat → Nat} {T : ow_NT} (h : isoV A sg f T) (hp : pm1 T) {p : vT} (hpA : p ∈ A.flatten) : T.2.2.2 (f p.1) = if sg p.1 then -1 else 1 := by
  have hs := h.1.2.2.2.2.2.2.1 p hpA
  rcases hp _ (h.1.2.2.2.1 p hpA) with e | e
  · rw [e] at hs ⊢
    rw [if_neg (fun h9 => absurd (hs.mpr h9) (by decide))]
  · rw [e] at hs ⊢
    rw [if_pos (hs.mp (by decide))]
theorem xc_visit {x3 : Int32} (hN : gN y) (hC : relC y St) (hS : okS St) : Te (fun K => ce_X11_visit vl K 0 x x' x3 y) (fun r => gN r.2.2 ∧ fr uP y r.2.2 ∧ relC r.2.2 St ∧ (r.1 = 1 ∧ (∀ e, e < 40 → x = nI e → St e = none) ∨ ∃ e A sg, e < 40 ∧ x = nI e ∧ St e = some (A, sg) ∧ (r.1 = 1 ∧ ¬ in9 x' A.flatten.length ∨ ∃ v, v < A.flatten.length ∧ x' = nI v ∧ (r.1 = 2 ∧ ¬ in9 x3 4 ∨ r.1 = 0 ∧ ∃ k, k < 4 ∧ x3 = nI k ∧ r.2.1 = visR A sg v k)))) := by
  refine e_X11_visit ?_; unfold cm_X11_visit_0
  refine w_tc0 (xc_need hN.1 hC hS) ?_ ?_
  · rintro y1 ⟨h1, rfl⟩
    rcases h1 with h1 | ⟨-, d, A, sg, c, hd, rfl, hSt, hs, hA, hne, hpl⟩
    · exact absurd (show (0 : Nat) = 1 from h1.1) (by decide)
    · have hc12 := hA.2.2.2.1
      have hl := okF_len hA.1
      have e3 : y1.2.1 1003 d = nI c := by
        have := hs.1
        rw [(okL_c (sg := sg) hA).1] at this
        exact this
      have hi9 := in9_iff (x := x') (n := A.flatten.length) (by omega)
      have h39 := in9_le (x := x3) (n := 3) (by omega)
      refine w_if (fun e => w_some ⟨hN, fr_rf, hC, Or.inr ⟨d, A, sg, hd, rfl, hSt, Or.inl ⟨rfl, fun h8 => (hi9.mp h8).1 e⟩⟩⟩) (fun e0 => ?_)
      obtain ⟨v, v31, rfl⟩ := nI_of e0
      refine w_crI (tH_3 ch_1000) rfl hd e3 ?_
      rw [show (2 : Int32) * nI c = nI (2 * c) from pk_mul 2 _]
      refine w_lt v31 (by omega) (fun hvc => ?_) (fun h9 => w_some ⟨hN, fr_rf, hC, Or.inr ⟨d, A, sg, hd, rfl, hSt, Or.inl ⟨rfl, fun ⟨k, k1, k2⟩ => ?_⟩⟩⟩)
      rotate_left
      · have := nI_inj9 (a := v) (b := k) (by omega) (by omega) k2
        omega
      have hvl : v < A.flatten.length := by omega
      refine w_if (fun e => w_some ⟨hN, fr_rf, hC, Or.inr ⟨d, A, sg, hd, rfl, hSt, Or.inr ⟨v, hvl, rfl, Or.inl ⟨rfl, fun h8 => (h39.mp h8).1 e⟩⟩⟩⟩) (fun f0 => w_if (fun f3 => ?_) (fun e => w_some ⟨hN, fr_rf, hC, Or.inr ⟨d, A, sg, hd, rfl, hSt, Or.inr ⟨v, hvl, rfl, Or.inl ⟨rfl, fun h8 => e (h39.mp h8).2⟩⟩⟩⟩))
      refine w_cs0 (xc_ld hN hd hs hA hpl) ?_
      rintro y3 ⟨hN3, g3, T, hT, hT1, hV, hpm, hTp⟩
      have g3u : fr uP y1 y3 := fr_mono (fun g hg => by unfold cL at hg; unfold uP; omega) g3
      have hC3 : relC y3 St := relC_fr g3 (fun q hq h9 => by unfold cW at hq; unfold cL at h9; omega) hC
      have hlt := lbv_lt hT.2.1 hvl
      have hhf := lbv_hf hT.2.1 hvl
      have hL24 : lb (vAt A v) < 24 := by
        have : lb (vAt A v) < 2 * T.1 := hlt
        omega
      have hx6 := five f0 (Int32.le_trans f3 (by decide))
      refine w_crI (nH_4 nH4) rfl (by omega) (hT.2.2.2.1 v _ (vAt_of hvl)) ?_
      rw [shr1v ⟨lb (vAt A v), hL24⟩, an1_c ⟨lb (vAt A v), hL24⟩]
      have e1 : lb (vAt A v) / 2 = crs A v := hhf.1
      have e2 : lb (vAt A v) % 2 = uns A v := hhf.2
      dsimp only
      rw [e1, e2]
      have hcr : crs A v < 12 := by omega
      have hsg : T.2.2.2 (crs A v) = if sg (crs A v) then -1 else 1 := iso_sg1 hV hpm (vAt_mem hvl)
      have fin : ∀ (r : Int32) (k : Nat), k < 4 → x3 = nI k → r = visR A sg v k → Tt (fun _ _ => some ((0 : Nat), r, y3)) (fun r => gN r.2.2 ∧ fr uP y1 r.2.2 ∧ relC r.2.2 St ∧ (r.1 = 1 ∧ (∀ e, e < 40 → nI d = nI e → St e = none) ∨ ∃ e A sg, e < 40 ∧ nI d = nI e ∧ St e = some (A, sg) ∧ (r.1 = 1 ∧ ¬ in9 (nI v) A.flatten.length ∨ ∃ w, w < A.flatten.length ∧ nI v = nI w ∧ (r.1 = 2 ∧ ¬ in9 x3 4 ∨ r.1 = 0 ∧ ∃ k, k < 4 ∧ x3 = nI k ∧ r.2.1 = visR A sg w k)))) := fun r k k1 k2 k3 => w_some ⟨hN3, g3u, hC3, Or.inr ⟨d, A, sg, hd, rfl, hSt, Or.inr ⟨v, hvl, rfl, Or.inr ⟨rfl, k, k1, k2, k3⟩⟩⟩⟩
      refine w_if (fun e => ?_) (fun e => ?_)
      · have hx3 : x3 = 3 := by
          rcases hx6 with rfl | rfl | rfl | rfl | rfl | rfl
          · exact absurd e (by decide)
          · exact absurd e (by decide)
          · exact absurd e (by decide)
          · rfl
          · exact absurd f3 (by decide)
          · exact absurd f3 (by decide)
        subst hx3
        exact w_crI (nH_3 nH4) rfl hcr (hT.1.2.2.2.2 _) (fin _ 3 (by omega) rfl hsg)
      · refine w_if (fun q => ?_) (fun n0 => w_if (fun q => ?_) (fun n1 => w_if (fun q => ?_) (fun n2 => ?_)))
        · subst q
          exact w_crI (nH_5 nH4) rfl hL24 (hT.2.2.2.2.1 v hvl) (fin _ 0 (by omega) rfl rfl)
        · subst q
          exact fin _ 1 (by omega) rfl rfl
        · subst q
          exact fin _ 2 (by omega) rfl rfl
        · exfalso
          rcases hx6 with h | h | h | h | h | h
          · exact n0 h
          · exact n1 h
          · exact n2 h
          · rw [h] at e
            exact e (by decide)
          · rw [h] at f3
            exact absurd f3 (by decide)
          · rw [h] at f3
            exact absurd f3 (by decide)
  · rintro a y1 ha ⟨h1, rfl⟩
    rcases h1 with h1 | h1
    · exact w_some ⟨hN, fr_rf, hC, Or.inl h1⟩
    · exact absurd h1.1 ha
end XVC
end
section
/-! 99zzzzzzzzzp.xlnk -/
/-! exact calls: linking, of both -/
def sL (G : vT → Int32) (L : List vT) : Int32 := L.foldl (fun s p => s + G p) 0
theorem sL_s {G : vT → Int32} {L : List vT} {p : vT} : sL G (L ++ [p]) = sL G L + G p := by
  unfold sL
  rw [List.foldl_append]
  rfl
theorem sL_pm {G : vT → Int32} {L L' : List vT} (h : L.Perm L') : sL G L = sL G L' := by
  unfold sL
  refine h.foldl_eq' (fun x _ y _ z => ?_) 0
  rw [Int32.add_assoc, Int32.add_comm (G x), ← Int32.add_assoc]
def pairs (c : Nat) : List vT := (List.range c).flatMap (fun x => [(x, 0), (x, 1)])
theorem pairs_s (c : Nat) : pairs (c + 1) = pairs c ++ [(c, 0), (c, 1)] := by
  unfold pairs
  rw [List.range_succ, List.flatMap_append]
  rfl
theorem pairs_mem {c : Nat} {p : vT} : p ∈ pairs c ↔ p.1 < c ∧ p.2 < 2 := by
  unfold pairs
  rw [List.mem_flatMap]
  constructor
  · rintro ⟨x, hx, hp⟩
    have hx := List.mem_range.mp hx
    rcases List.mem_cons.mp hp with rfl | hp
    · exact ⟨hx, by show 0 < 2; omega⟩
    · rw [List.mem_singleton.mp hp]
      exact ⟨hx, by show 1 < 2; omega⟩
  · rintro ⟨h1, h2⟩
    refine ⟨p.1, List.mem_range.mpr h1, ?_⟩
    rcases (show p.2 = 0 ∨ p.2 = 1 by omega) with e | e
    · exact List.mem_cons.mpr (Or.inl (Prod.ext rfl e))
    · exact List.mem_cons.mpr (Or.inr (List.mem_singleton.mpr (Prod.ext rfl e)))
theorem pairs_nd : ∀ c, (pairs c).Nodup
  | 0 => List.nodup_nil
  | c + 1 => by
    rw [pairs_s]
    refine List.nodup_append.mpr ⟨pairs_nd c, ?_, fun p hp q hq e => ?_⟩
    · refine List.nodup_cons.mpr ⟨fun h => ?_, List.nodup_cons.mpr ⟨List.not_mem_nil, List.nodup_nil⟩⟩
      have := List.mem_singleton.mp h
      exact absurd (Prod.mk.inj this).2 (by decide)
    · have h1 := (pairs_mem.mp hp).1
      have h2 : q.1 = c := by
        rcases List.mem_cons.mp hq with rfl | hq
        · rfl
        · rw [List.mem_singleton.mp hq]
      rw [e, h2] at h1
      omega
theorem nd_perm {L L' : List vT} (h1 : L.Nodup) (h2 : L'.Nodup) (h : ∀ p, p ∈ L ↔ p ∈ L') : L.Perm L' := by
  refine List.perm_iff_count.mpr (fun p => ?_)
  have a1 := List.nodup_iff_count.mp h1 p
  have a2 := List.nodup_iff_count.mp h2 p
  by_cases e : p ∈ L
  · have b1 := List.count_pos_iff.mpr e
    have b2 := List.count_pos_iff.mpr ((h p).mp e)
    omega
  · rw [List.count_eq_zero.mpr e, List.count_eq_zero.mpr (fun h9 => e ((h p).mpr h9))]
theorem okF_pairs {F : List vT} {c : Nat} (h : okF F c) : F.Perm (pairs c) := nd_perm h.1 (pairs_nd c) (fun p => by rw [h.2, pairs_mem])
theorem vAt_mtf {A : rn_L} (hF : wkF A.flatten) {v : Nat} (hv : v < A.flatten.length) : vAt A (mtf A v) = ((vAt A v).1, 1 - (vAt A v).2) := by
  obtain ⟨v0, v1, a1, b1, a2, b2, m0, m1, all⟩ := vis_two hF hv
  rcases all v hv rfl with e | e
  · rw [e, m0, b2, a2]
    rfl
  · rw [e, m1, a2, b2]
    rfl
/-- what a visit adds to the linking number of i and j -/
def lkG (A : rn_L) (sg : Nat → Bool) (i j : Nat) (p : vT) : Int32 := if cidx A p = i ∧ cidx A (p.1, 1 - p.2) = j then (if sg p.1 then -1 else 1) else 0
def lkR (A : rn_L) (sg : Nat → Bool) (i j : Nat) : Int32 := sL (lkG A sg i j) A.flatten / 2
section XL
variable {X : (Nat → Nat → Int32) → Prop} {z : ow_MS} {St : plT}
theorem xq_linking {d a b : Int32} (h : gI X z) (hR : relR z St) : Te (fun K => qe_X13_linking K d a b z) (fun r => rFl X z 1 r ∧ (∀ e, e < 40 → d = nI e → St e = none) ∨ ∃ e A sg, e < 40 ∧ d = nI e ∧ St e = some (A, sg) ∧ (rFl X z 1 r ∧ ¬ (in9 a A.length ∧ in9 b A.length) ∨ ∃ i j, i < A.length ∧ j < A.length ∧ a = nI i ∧ b = nI j ∧ (rFl X z 2 r ∧ i = j ∨ rOk X z r ∧ i ≠ j ∧ r.1 = lkR A sg i j))) := by
  let Q : Int32 × ow_MS → Prop := fun r => rFl X z 1 r ∧ (∀ e, e < 40 → d = nI e → St e = none) ∨ ∃ e A sg, e < 40 ∧ d = nI e ∧ St e = some (A, sg) ∧ (rFl X z 1 r ∧ ¬ (in9 a A.length ∧ in9 b A.length) ∨ ∃ i j, i < A.length ∧ j < A.length ∧ a = nI i ∧ b = nI j ∧ (rFl X z 2 r ∧ i = j ∨ rOk X z r ∧ i ≠ j ∧ r.1 = lkR A sg i j))
  have h1 := gI_1 (c := 0) h
  have hR1 := relR_1 (c := 0) hR
  refine e_X13_linking ?_
  refine u_X13_linking_0 ?_; unfold qm_X13_linking_0
  refine w_wrF (w_hasX hR1 (fun h0 => w_ifT rfl (w_mono (w_failX h1 fr_1) (fun r hr => Or.inl ⟨hr, h0⟩))) (fun e A sg he hx hs hv hne => w_ifF (by decide) ?_))
  subst hx
  refine w_cs0 (to_open pn1 he hv) (fun z2 ⟨o1, f1⟩ => ?_)
  have h2 : gI X z2 := gI_net pn1 f1 (fun g hg => by omega) h1
  have hl := o1.len
  have hC := o1.2.2.2
  have hd := wkF_ok o1.wk
  have f02 : fr rPs z z2 := fr_tr fr_1 (fr_mono (fun g hg => Or.inr (by unfold rSc; omega)) f1)
  have z21 : z2.1 1 = 0 := by rw [(f1 1 (by omega)).1]; exact po_usF_at
  have fin : ∀ {r}, (rFl X z 1 r ∧ ¬ (in9 a A.length ∧ in9 b A.length) ∨ ∃ i j, i < A.length ∧ j < A.length ∧ a = nI i ∧ b = nI j ∧ (rFl X z 2 r ∧ i = j ∨ rOk X z r ∧ i ≠ j ∧ r.1 = lkR A sg i j)) → Q r := fun hr => Or.inr ⟨e, A, sg, he, rfl, hs, hr⟩
  have c1 : ¬ (in9 a A.length ∧ in9 b A.length) → Tt (fun K k => q_X13_linking K k 1 (nI e) a b 0 0 z2) Q := by
    intro hno
    refine u_X13_linking_1 ?_; unfold qm_X13_linking_1
    exact w_mono (w_failX (k := 1) h2 f02) (fun r hr => fin (Or.inl ⟨hr, hno⟩))
  have ha9 := in9_iff (x := a) (n := A.length) (by omega)
  have hb9 := in9_iff (x := b) (n := A.length) (by omega)
  have c2 : ∀ i j, i < A.length → j < A.length → a = nI i → b = nI j → i ≠ j → ∀ (k v : Nat), v + k = A.flatten.length → Tt (fun K i9 => q_X13_linking K i9 2 (nI e) a b (sL (lkG A sg i j) (A.flatten.take v)) (nI v) z2) Q := by
    intro i j hi hj ea eb hij k
    induction k with
    | zero =>
      intro v hv9
      have hve : v = A.flatten.length := by omega
      rw [hve, List.take_length]
      refine u_X13_linking_2 ?_; unfold qm_X13_linking_2
      exact w_rdF o1.1.V (w_leT (by omega) (by omega) (w_nzI (by decide) (w_some (fin (Or.inr ⟨i, j, hi, hj, ea, eb, Or.inr ⟨⟨h2, z21, f02⟩, hij, rfl⟩⟩)))))
    | succ k ih =>
      intro v hv9
      have hvl : v < A.flatten.length := by omega
      have hml := mtf_lt hd hvl
      obtain ⟨x1, x2, x3⟩ := o1.cx hvl
      have i1 := rc_idx o1.wk.1 hvl
      have i2 := rc_idx o1.wk.1 hml
      rw [vAt_mtf o1.wk hvl] at i2
      have r1 := (rc_mem hvl).1
      have r2 := (rc_mem hml).1
      have c3 : ∀ y : Int32, y = sL (lkG A sg i j) (A.flatten.take (v + 1)) → Tt (fun K i9 => q_X13_linking K i9 3 (nI e) a b y (nI v) z2) Q := by
        intro y hy
        refine u_X13_linking_3 ?_; unfold qm_X13_linking_3
        rw [nI_1, hy]
        exact ih (v + 1) (by omega)
      have es : sL (lkG A sg i j) (A.flatten.take (v + 1)) = sL (lkG A sg i j) (A.flatten.take v) + lkG A sg i j (vAt A v) := by
        rw [take_s (vAt_of hvl), sL_s]
      have gv : lkG A sg i j (vAt A v) = if rn_c A v = i ∧ rn_c A (mtf A v) = j then (if sg (crs A v) then -1 else 1) else 0 := by
        unfold lkG
        rw [i1, i2]
        rfl
      have no : ¬ (rn_c A v = i ∧ rn_c A (mtf A v) = j) → sL (lkG A sg i j) (A.flatten.take v) = sL (lkG A sg i j) (A.flatten.take (v + 1)) := fun hn => by
        rw [es, gv, if_neg hn, Int32.add_zero]
      refine u_X13_linking_2 ?_; unfold qm_X13_linking_2
      refine w_rdF o1.1.V (w_leF (by omega) hvl (w_rdI (pl8 pn1) rfl (by omega) (lk_c o1.1 hvl) (w_if (fun q1 => w_rdI (pl7 pn1) rfl (by omega) (lk_m hd o1.1 hvl) (w_rdI (pl8 pn1) rfl (by omega) (lk_c o1.1 hml) (w_if (fun q2 => w_rdI (pl4 pn1) rfl (by omega) (lk_cu o1.1 hvl).1 (w_rdI (pl6 pn1) rfl (by omega) (o1.2.1 _ (vAt_mem hvl)) (c3 _ ?_))) (fun q2 => c3 _ (no (fun h9 => q2 ?_)))))) (fun q1 => c3 _ (no (fun h9 => q1 ?_))))))
      · rw [ea] at q1
        rw [eb] at q2
        have q1 := nI_inj9 (by omega) (by omega) q1
        have q2 := nI_inj9 (by omega) (by omega) q2
        rw [es, gv]
        exact congrArg (fun t => sL (lkG A sg i j) (A.flatten.take v) + t) (if_pos ⟨q1, q2⟩).symm
      · rw [h9.2, eb]
      · rw [h9.1, ea]
  refine w_if (fun h9 => c1 (fun h8 => (ha9.mp h8.1).1 h9)) (fun a0 => w_rdF (lk_C o1.1) (w_if (fun h9 => c1 (fun h8 => absurd (ha9.mp h8.1).2 (Int32.not_lt.mpr h9))) (fun a1 => w_if (fun h9 => c1 (fun h8 => (hb9.mp h8.2).1 h9)) (fun b0 => w_rdF (lk_C o1.1) (w_if (fun b1 => ?_) (fun h9 => c1 (fun h8 => h9 (hb9.mp h8.2).2)))))))
  obtain ⟨i, hi, ea⟩ := ha9.mpr ⟨a0, Int32.not_le.mp a1⟩
  obtain ⟨j, hj, eb⟩ := hb9.mpr ⟨b0, b1⟩
  refine w_if (fun h9 => w_mono (w_failX (k := 2) h2 f02) (fun r hr => fin (Or.inr ⟨i, j, hi, hj, ea, eb, Or.inl ⟨hr, ?_⟩⟩))) (fun h9 => c2 i j hi hj ea eb (fun e9 => h9 (by rw [ea, eb, e9])) _ 0 (Nat.zero_add _))
  rw [ea, eb] at h9
  exact nI_inj9 (by omega) (by omega) h9
end XL
theorem lkC_eq {A : rn_L} {sg : Nat → Bool} {F G : Nat → Int32} {c i j : Nat} (hA : okF A.flatten c) (h39 : A.length ≤ 39) (hi : i < A.length) (hj : j < A.length) (hij : i ≠ j) (hF : ∀ v, v < A.flatten.length → F (lb (vAt A v)) = nI (rn_c A v)) (hG : ∀ x, x < c → G x = if sg x then -1 else 1) : lkC F G (nI i) (nI j) c / 2 = lkR A sg i j := by
  have hFp : ∀ p, p ∈ A.flatten → F (lb p) = nI (cidx A p) ∧ cidx A p < A.length := fun p hp => by
    obtain ⟨v, v1, rfl⟩ := mem_vAt hp
    have := rc_idx hA.1 v1
    rw [this]
    exact ⟨hF v v1, (rc_mem v1).1⟩
  have key : ∀ n, n ≤ c → lkC F G (nI i) (nI j) n = sL (lkG A sg i j) (pairs n) := by
    intro n
    induction n with
    | zero => exact fun _ => rfl
    | succ n ih =>
      intro hn
      obtain ⟨a1, a2⟩ := hFp (n, 0) ((hA.2 _).mpr ⟨by show n < c; omega, by show 0 < 2; omega⟩)
      obtain ⟨b1, b2⟩ := hFp (n, 1) ((hA.2 _).mpr ⟨by show n < c; omega, by show 1 < 2; omega⟩)
      have a1 : F (2 * n) = nI (cidx A (n, 0)) := a1
      have b1 : F (2 * n + 1) = nI (cidx A (n, 1)) := b1
      have es : sL (lkG A sg i j) (pairs (n + 1)) = sL (lkG A sg i j) (pairs n) + lkG A sg i j (n, 0) + lkG A sg i j (n, 1) := by
        rw [pairs_s, show pairs n ++ [(n, 0), (n, 1)] = (pairs n ++ [(n, 0)]) ++ [(n, 1)] by simp, sL_s, sL_s]
      have g0 : lkG A sg i j (n, 0) = if cidx A (n, 0) = i ∧ cidx A (n, 1) = j then (if sg n then -1 else 1) else 0 := rfl
      have g1 : lkG A sg i j (n, 1) = if cidx A (n, 1) = i ∧ cidx A (n, 0) = j then (if sg n then -1 else 1) else 0 := rfl
      rw [es, g0, g1, ← ih (by omega)]
      show (if (F (2 * n) = nI i ∧ F (2 * n + 1) = nI j) ∨ (F (2 * n) = nI j ∧ F (2 * n + 1) = nI i) then lkC F G (nI i) (nI j) n + G n else lkC F G (nI i) (nI j) n) = _
      rw [a1, b1, hG n (by omega)]
      have q : ∀ {s t : Nat}, s < A.length → t < A.length → (nI s = nI t ↔ s = t) := fun hs ht => ⟨fun e => nI_inj9 (by omega) (by omega) e, fun e => by rw [e]⟩
      simp only [q a2 hi, q b2 hj, q a2 hj, q b2 hi]
      generalize (if sg n = true then (-1 : Int32) else 1) = s
      by_cases e1 : cidx A (n, 0) = i ∧ cidx A (n, 1) = j
      · rw [if_pos (Or.inl e1), if_pos e1, if_neg (fun h9 => hij (e1.1.symm.trans h9.2)), Int32.add_zero]
      · by_cases e2 : cidx A (n, 1) = i ∧ cidx A (n, 0) = j
        · rw [if_pos (Or.inr ⟨e2.2, e2.1⟩), if_neg e1, if_pos e2, Int32.add_zero]
        · rw [if_neg (fun h9 => h9.elim e1 (fun h8 => e2 ⟨h8.2, h8.1⟩)), if_neg e1, if_neg e2, Int32.add_zero, Int32.add_zero]
  unfold lkR
  rw [key c (Nat.le_refl _), sL_pm (okF_pairs hA)]
section XLC
variable {vl : Nat → Nat} {y : ow_MS} {St : plT} {x a b : Int32}
theorem xc_linking (hN : gN y) (hC : relC y St) (hS : okS St) : Te (fun K => ce_X11_linking vl K 0 x a b y) (fun r => gN r.2.2 ∧ fr uP y r.2.2 ∧ relC r.2.2 St ∧ (r.1 = 1 ∧ (∀ e, e < 40 → x = nI e → St e = none) ∨ ∃ e A sg, e < 40 ∧ x = nI e ∧ St e = some (A, sg) ∧ (r.1 = 1 ∧ ¬ (in9 a A.length ∧ in9 b A.length) ∨ ∃ i j, i < A.length ∧ j < A.length ∧ a = nI i ∧ b = nI j ∧ (r.1 = 2 ∧ i = j ∨ r.1 = 0 ∧ i ≠ j ∧ r.2.1 = lkR A sg i j)))) := by
  let Q0 : ow_MS → Nat × Int32 × ow_MS → Prop := fun y r => gN r.2.2 ∧ fr uP y r.2.2 ∧ relC r.2.2 St ∧ (r.1 = 1 ∧ (∀ e, e < 40 → x = nI e → St e = none) ∨ ∃ e A sg, e < 40 ∧ x = nI e ∧ St e = some (A, sg) ∧ (r.1 = 1 ∧ ¬ (in9 a A.length ∧ in9 b A.length) ∨ ∃ i j, i < A.length ∧ j < A.length ∧ a = nI i ∧ b = nI j ∧ (r.1 = 2 ∧ i = j ∨ r.1 = 0 ∧ i ≠ j ∧ r.2.1 = lkR A sg i j)))
  refine e_X11_linking ?_
  refine u_X11_linking_0 ?_; unfold cm_X11_linking_0
  refine w_tc0 (xc_need hN.1 hC hS) ?_ ?_
  · rintro y1 ⟨h1, rfl⟩
    rcases h1 with h1 | ⟨-, d, A, sg, c, hd, ex, hSt, hs, hA, hne, hpl⟩
    · exact absurd (show (0 : Nat) = 1 from h1.1) (by decide)
    · rw [ex]
      refine w_cs0 (xc_ld hN hd hs hA hpl) ?_
      rw [← ex]
      rintro y3 ⟨hN3, f3, T, hT, hT1, hV, hpm, hTp⟩
      have hC3 : relC y3 St := relC_fr f3 (fun q hq h9 => by unfold cW at hq; unfold cL at h9; omega) hC
      have hG : ∀ x, x < c → T.2.2.2 x = if sg x then -1 else 1 := fun x hx => iso_sg1 (p := (x, 0)) hV hpm ((hA.1.2 _).mpr ⟨hx, by show 0 < 2; omega⟩)
      have f3u : fr uP y1 y3 := fr_mono (fun g hg => by unfold cL at hg; unfold uP; omega) f3
      have hv := hT.2.2.1
      have h6 := hA.2.2.2.2
      have h12 := hv.2.1
      refine w_tc0 (tc_needComponent hT.2.2.2.2.2 (by omega)) ?_ ?_
      · rintro y4 ⟨h4, rfl⟩
        rcases h4 with ⟨-, i, hi, ea⟩ | h4
        · refine w_tc0 (tc_needComponent hT.2.2.2.2.2 (by omega)) ?_ ?_
          · rintro y5 ⟨h5, rfl⟩
            rcases h5 with ⟨-, j, hj, eb⟩ | h5
            · refine w_if (fun e => w_some ⟨hN3, f3u, hC3, Or.inr ⟨d, A, sg, hd, ex, hSt, Or.inr ⟨i, j, hi, hj, ea, eb, Or.inl ⟨rfl, ?_⟩⟩⟩⟩) (fun e => ?_)
              · rw [ea, eb] at e
                exact nI_inj9 (by omega) (by omega) e
              · have hij : i ≠ j := fun h9 => e (by rw [ea, eb, h9])
                have c1 : ∀ (k n : Nat), n + k = T.1 → Tt (fun K t => c_X11_linking vl K t 1 x a b (lkC (y5.2.1 4005) T.2.2.2 a b n) (nI n) 0 0 0 y5) (Q0 y1) := by
                  intro k
                  induction k with
                  | zero =>
                    intro n hn
                    have en : n = T.1 := by omega
                    subst en
                    refine u_X11_linking_1 ?_; unfold cm_X11_linking_1
                    exact w_rdF hT.1.1 (w_leT (by omega) (by omega) (w_nzI (by decide) (w_some ⟨hN3, f3u, hC3, Or.inr ⟨d, A, sg, hd, ex, hSt, Or.inr ⟨i, j, hi, hj, ea, eb, Or.inr ⟨rfl, hij, by rw [ea, eb, hT1]; exact lkC_eq hA.1 (by omega) hi hj hij hT.2.2.2.2.1 hG⟩⟩⟩⟩)))
                  | succ k ih =>
                    intro n hn
                    have c4 : ∀ (s v9 v10 : Int32), s = lkC (y5.2.1 4005) T.2.2.2 a b (n + 1) → Tt (fun K t => c_X11_linking vl K t 4 x a b s (nI n) v9 v10 0 y5) (Q0 y1) := by
                      intro s v9 v10 es
                      rw [es]
                      refine u_X11_linking_4 ?_; unfold cm_X11_linking_4
                      rw [nI_1]
                      exact ih (n + 1) (by omega)
                    have c3 : ∀ (v9 v10 : Int32), ((y5.2.1 4005 (2 * n) = a ∧ y5.2.1 4005 (2 * n + 1) = b) ∨ (y5.2.1 4005 (2 * n) = b ∧ y5.2.1 4005 (2 * n + 1) = a)) → Tt (fun K t => c_X11_linking vl K t 3 x a b (lkC (y5.2.1 4005) T.2.2.2 a b n) (nI n) v9 v10 0 y5) (Q0 y1) := by
                      intro v9 v10 hc
                      refine u_X11_linking_3 ?_; unfold cm_X11_linking_3
                      refine w_crI (nH_3 nH4) rfl (show n < 12 by omega) (hT.1.2.2.2.2 n) (c4 _ _ _ ?_)
                      show _ = if _ then _ else _
                      rw [if_pos hc]
                    have c2 : ¬ (y5.2.1 4005 (2 * n) = a ∧ y5.2.1 4005 (2 * n + 1) = b) → Tt (fun K t => c_X11_linking vl K t 2 x a b (lkC (y5.2.1 4005) T.2.2.2 a b n) (nI n) (y5.2.1 4005 (2 * n)) (y5.2.1 4005 (2 * n + 1)) 0 y5) (Q0 y1) := by
                      intro hc
                      have no : ¬ (y5.2.1 4005 (2 * n) = b ∧ y5.2.1 4005 (2 * n + 1) = a) → lkC (y5.2.1 4005) T.2.2.2 a b n = lkC (y5.2.1 4005) T.2.2.2 a b (n + 1) := by
                        intro hc2
                        show _ = if _ then _ else _
                        rw [if_neg (fun h9 => h9.elim hc hc2)]
                      refine u_X11_linking_2 ?_; unfold cm_X11_linking_2
                      refine w_if (fun q1 => w_if (fun q2 => c3 _ _ (Or.inr ⟨q1, q2⟩)) (fun q2 => c4 _ _ _ (no (fun h9 => q2 h9.2)))) (fun q1 => c4 _ _ _ (no (fun h9 => q1 h9.1)))
                    refine u_X11_linking_1 ?_; unfold cm_X11_linking_1
                    rw [show (2 : Int32) * nI n = nI (2 * n) from pk_mul 2 _, nI_1]
                    refine w_rdF hT.1.1 (w_leF (by omega) (by omega) (w_crI (nH_5 nH4) rfl (show 2 * n < 24 by omega) rfl (w_crI (nH_5 nH4) rfl (show 2 * n + 1 < 24 by omega) rfl ?_)))
                    refine w_if (fun q1 => w_if (fun q2 => c3 _ _ (Or.inl ⟨q1, q2⟩)) (fun q2 => c2 (fun h9 => q2 h9.2))) (fun q1 => c2 (fun h9 => q1 h9.1))
                exact c1 T.1 0 (by omega)
            · exact absurd (show (0 : Nat) = 1 from h5.1) (by decide)
          · rintro q y5 hq ⟨h5, rfl⟩
            rcases h5 with h5 | h5
            · exact absurd h5.1 hq
            · have e : q = 1 := h5.1
              rw [e]
              exact w_some ⟨hN3, f3u, hC3, Or.inr ⟨d, A, sg, hd, ex, hSt, Or.inl ⟨rfl, fun ⟨_, k, k1, k2⟩ => h5.2 k k1 k2⟩⟩⟩
        · exact absurd (show (0 : Nat) = 1 from h4.1) (by decide)
      · rintro q y4 hq ⟨h4, rfl⟩
        rcases h4 with h4 | h4
        · exact absurd h4.1 hq
        · have e : q = 1 := h4.1
          rw [e]
          exact w_some ⟨hN3, f3u, hC3, Or.inr ⟨d, A, sg, hd, ex, hSt, Or.inl ⟨rfl, fun ⟨⟨k, k1, k2⟩, _⟩ => h4.2 k k1 k2⟩⟩⟩
  · rintro q y1 hq ⟨h1, rfl⟩
    rcases h1 with h1 | h1
    · exact w_some ⟨hN, fr_rf, hC, Or.inl h1⟩
    · exact absurd h1.1 hq
end XLC
end
