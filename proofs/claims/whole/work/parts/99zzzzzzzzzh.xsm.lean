/-! exact calls of the reference: smoothIn -/
def seg (a b : Nat) : List Nat := (List.range (b - a)).map (fun i => a + i)
def cps (A : rn_L) (a b : Nat) : List (List Nat) := (List.range (b - a)).map (fun k => seg (rn_b A (a + k)) (rn_b A (a + k + 1)))
theorem seg_s {a i : Nat} (h : a ≤ i) : seg a (i + 1) = seg a i ++ [i] := by
  unfold seg
  rw [show i + 1 - a = (i - a) + 1 by omega, List.range_succ, List.map_append]
  show _ ++ [a + (i - a)] = _
  rw [show a + (i - a) = i by omega]
theorem seg_0 (a : Nat) : seg a a = [] := by
  unfold seg
  rw [Nat.sub_self]
  rfl
theorem seg_len (a b : Nat) : (seg a b).length = b - a := by
  unfold seg
  rw [List.length_map, List.length_range]
theorem cps_0 (A : rn_L) (a : Nat) : cps A a a = [] := by
  unfold cps
  rw [Nat.sub_self]
  rfl
theorem cps_s {A : rn_L} {a m : Nat} (h : a ≤ m) : cps A a (m + 1) = cps A a m ++ [seg (rn_b A m) (rn_b A (m + 1))] := by
  unfold cps
  rw [show m + 1 - a = (m - a) + 1 by omega, List.range_succ, List.map_append]
  show _ ++ [seg (rn_b A (a + (m - a))) (rn_b A (a + (m - a) + 1))] = _
  rw [show a + (m - a) = m by omega]
theorem cps_n (A : rn_L) (a b : Nat) : (cps A a b).length = b - a := by
  unfold cps
  rw [List.length_map, List.length_range]
theorem cps_len {A : rn_L} {a : Nat} : ∀ {m : Nat}, a ≤ m → (cps A a m).flatten.length = rn_b A m - rn_b A a := by
  intro m h
  obtain ⟨d, rfl⟩ : ∃ d, m = a + d := ⟨m - a, by omega⟩
  induction d with
  | zero =>
    rw [Nat.add_zero, cps_0, Nat.sub_self]
    rfl
  | succ d ih =>
    have m1 := rn_b_mono2 (A := A) (show a ≤ a + d by omega)
    have m2 := rn_b_mono A (a + d)
    rw [show a + (d + 1) = (a + d) + 1 by omega, cps_s (by omega), List.flatten_append, List.length_append, ih (by omega), List.flatten_cons, List.flatten_nil, List.append_nil, seg_len]
    omega
/-- a net built out of the visits of A by their numbers: closed components C, the open one B -/
def bmX (y : ow_MS) (n : Nat) (A : rn_L) (C : List (List Nat)) (B : List Nat) : Prop := rn_At y n (C.map (List.map (vAt A))) (B.map (vAt A))
theorem map_fl2 {A : rn_L} : ∀ C : List (List Nat), ((C.map (List.map (vAt A))).flatten).length = C.flatten.length
  | [] => rfl
  | L :: C => by
    rw [List.map_cons, List.flatten_cons, List.length_append, map_fl2 C, List.flatten_cons, List.length_append, List.length_map]
section XS
variable {y : ow_MS} {n : Nat} {A : rn_L} {C : List (List Nat)} {B : List Nat}
theorem bmX_add {i : Nat} (hn : mw_net n) (hb : bmX y n A C B) (hl : C.flatten.length + B.length < 40) : Te (fun K => qe_X12_add K n (nI (crs A i)) (nI (uns A i)) y) (fun y2 => bmX y2 n A C (B ++ [i]) ∧ fr (fun g => g = n + 1 ∨ g = n + 4 ∨ g = n + 5) y y2) := by
  refine w_monoE (tn_add hn hb (by rw [List.length_append, map_fl2, List.length_map]; exact hl)) (fun y2 h => ⟨?_, h.2⟩)
  unfold bmX
  rw [List.map_append]
  exact h.1
theorem bmX_end (hn : mw_net n) (hb : bmX y n A C B) (hl : C.length < 39) : Te (fun K => qe_X12_end K n y) (fun y2 => bmX y2 n A (C ++ [B]) [] ∧ fr (fun g => g = n + 2 ∨ g = n + 3) y y2) := by
  refine w_monoE (tn_end hn hb (by rw [List.length_map]; exact hl)) (fun y2 h => ⟨?_, h.2⟩)
  unfold bmX
  rw [List.map_append]
  exact h.1
theorem bmX_fr {P : Nat → Prop} {y2 : ow_MS} (hf : fr P y y2) (hP : ∀ g, P g → g < n + 1 ∨ n + 5 < g) (hb : bmX y n A C B) : bmX y2 n A C B := fr_At hf hP hb
end XS
/-- what smoothing leaves: both visits in one component, or in two -/
def smC (A : rn_L) (c v w J : Nat) : List (List Nat) := if w < rn_b A (c + 1) then cps A 0 c ++ [seg (rn_b A c) v ++ seg (w + 1) (rn_b A (c + 1))] ++ cps A (c + 1) A.length ++ [seg (v + 1) w] else cps A 0 c ++ [((seg (rn_b A c) v ++ seg (w + 1) (rn_b A (J + 1))) ++ seg (rn_b A J) w) ++ seg (v + 1) (rn_b A (c + 1))] ++ cps A (c + 1) J ++ cps A (J + 1) A.length
theorem xr_smoothIn {o n c v w : Nat} {z : ow_MS} {A : rn_L} (ho : mw_net o) (hn : mw_net n) (hon : n ≠ o) (hl : A.flatten.length ≤ 24) (hC : A.length ≤ 37) (hA : rn_At z o A []) (hc : c < A.length) (hv1 : rn_b A c ≤ v) (hv2 : v < rn_b A (c + 1)) (hvw : v < w) (hw : w < A.flatten.length) : Te (fun K => qe_X13_smoothIn K o (nI c) (nI v) (nI w) n z) (fun z1 => bmX z1 n A (smC A c v w (rn_c A w)) [] ∧ (∀ x, x < 40 → z1.2.1 (n + 6) x = z.2.1 (o + 6) x) ∧ fr (fun g => n + 1 ≤ g ∧ g ≤ n + 6) z z1) := by
  have hmn := net_mod hn
  have hmo := net_mod ho
  let I : ow_MS → Prop := fun y => fr (fun g => n + 1 ≤ g ∧ g ≤ n + 6) z y ∧ ∀ x, x < 40 → y.2.1 (n + 6) x = z.2.1 (o + 6) x
  let Q : ow_MS → Prop := fun z1 => bmX z1 n A (smC A c v w (rn_c A w)) [] ∧ (∀ x, x < 40 → z1.2.1 (n + 6) x = z.2.1 (o + 6) x) ∧ fr (fun g => n + 1 ≤ g ∧ g ≤ n + 6) z z1
  have atI : ∀ {y : ow_MS}, I y → rn_At y o A [] := fun hI => fr_At hI.1 (fun g hg => by omega) hA
  have cuI : ∀ {y : ow_MS} {i : Nat}, I y → i < A.flatten.length → y.2.1 (o + 4) i = nI (crs A i) ∧ y.2.1 (o + 5) i = nI (uns A i) := fun hI hi => at_cu (atI hI) hi
  have bI : ∀ {y : ow_MS} {k : Nat}, I y → k ≤ A.length → y.2.1 (o + 3) k = nI (rn_b A k) := fun hI hk => (atI hI).2.2.1 _ hk
  have addI : ∀ {y y2 : ow_MS}, I y → fr (fun g => g = n + 1 ∨ g = n + 4 ∨ g = n + 5) y y2 → I y2 := fun hI hf => ⟨fr_tr hI.1 (fr_mono (fun g hg => by omega) hf), fun x hx => by rw [(hf (n + 6) (by omega)).2.1]; exact hI.2 x hx⟩
  have endI : ∀ {y y2 : ow_MS}, I y → fr (fun g => g = n + 2 ∨ g = n + 3) y y2 → I y2 := fun hI hf => ⟨fr_tr hI.1 (fr_mono (fun g hg => by omega) hf), fun x hx => by rw [(hf (n + 6) (by omega)).2.1]; exact hI.2 x hx⟩
  have hbl := rn_b_le A (c + 1)
  have hbl2 := fun k => rn_b_le A k
  have hbl3 := hbl2 c
  obtain ⟨hJ1, hJ2, hJ3⟩ := rn_c_in A w hw
  obtain ⟨J, hJ⟩ : ∃ J, J = rn_c A w := ⟨_, rfl⟩
  rw [← hJ] at hJ1 hJ2 hJ3
  have hbJ := hbl2 (J + 1)
  have mono := fun {a b : Nat} (h9 : a ≤ b) => rn_b_mono2 (A := A) h9
  -- a component as it is
  have l11 : ∀ (x5 : Int32) (m : Nat) (C : List (List Nat)), m < A.length → C.length < 39 → C.flatten.length + (rn_b A (m + 1) - rn_b A m) ≤ 39 → (∀ y2, I y2 → bmX y2 n A (C ++ [seg (rn_b A m) (rn_b A (m + 1))]) [] → Tt (fun K i9 => q_X13_smoothIn K i9 12 (nI c) (nI v) (nI w) x5 (nI m) 0 0 o n 0 y2) Q) → ∀ (k i : Nat) (y : ow_MS), i + k = rn_b A (m + 1) → rn_b A m ≤ i → I y → bmX y n A C (seg (rn_b A m) i) → Tt (fun K i9 => q_X13_smoothIn K i9 11 (nI c) (nI v) (nI w) x5 (nI m) (nI i) 0 o n 0 y) Q := by
    intro x5 m C hm hq hsz hout k
    have hbm := hbl2 (m + 1)
    induction k with
    | zero =>
      intro i y hi hlo hI hb
      have hie : i = rn_b A (m + 1) := by omega
      rw [hie] at hb ⊢
      refine u_X13_smoothIn_11 ?_; unfold qm_X13_smoothIn_11
      rw [nI_1]
      exact w_rdI (pl3 ho) rfl (by omega) (bI hI (by omega)) (w_leT (by omega) (Nat.le_refl _) (w_cs0 (bmX_end hn hb hq) (fun y2 ⟨g1, g2⟩ => hout y2 (endI hI g2) g1)))
    | succ k ih =>
      intro i y hi hlo hI hb
      have hil : i < A.flatten.length := by omega
      refine u_X13_smoothIn_11 ?_; unfold qm_X13_smoothIn_11
      rw [nI_1]
      refine w_rdI (pl3 ho) rfl (by omega) (bI hI (by omega)) (w_leF (by omega) (by omega) (w_rdI (pl4 ho) rfl (by omega) (cuI hI hil).1 (w_rdI (pl5 ho) rfl (by omega) (cuI hI hil).2 (w_cs0 (bmX_add hn hb (by rw [seg_len]; omega)) (fun y2 ⟨g1, g2⟩ => ?_)))))
      rw [nI_1]
      refine ih (i + 1) y2 (by omega) (by omega) (addI hI g2) ?_
      rw [seg_s hlo]
      exact g1
  have c10 : ∀ (x5 : Int32) (m : Nat) (C : List (List Nat)) (y : ow_MS), m < A.length → C.length < 39 → C.flatten.length + (rn_b A (m + 1) - rn_b A m) ≤ 39 → (∀ y2, I y2 → bmX y2 n A (C ++ [seg (rn_b A m) (rn_b A (m + 1))]) [] → Tt (fun K i9 => q_X13_smoothIn K i9 12 (nI c) (nI v) (nI w) x5 (nI m) 0 0 o n 0 y2) Q) → I y → bmX y n A C [] → Tt (fun K i9 => q_X13_smoothIn K i9 10 (nI c) (nI v) (nI w) x5 (nI m) 0 0 o n 0 y) Q := by
    intro x5 m C y hm hq hsz hout hI hb
    have hmm := rn_b_mono A m
    refine u_X13_smoothIn_10 ?_; unfold qm_X13_smoothIn_10
    refine w_rdI (pl3 ho) rfl (by omega) (bI hI (by omega)) (l11 x5 m C hm hq hsz hout (rn_b A (m + 1) - rn_b A m) (rn_b A m) y (by omega) (Nat.le_refl _) hI ?_)
    rw [seg_0]
    exact hb
  have s0c := cps_len (A := A) (Nat.zero_le c)
  rw [rn_b0, Nat.sub_zero] at s0c
  by_cases hone : w < rn_b A (c + 1)
  · -- both visits in one component
    have eS : smC A c v w (rn_c A w) = cps A 0 c ++ [seg (rn_b A c) v ++ seg (w + 1) (rn_b A (c + 1))] ++ cps A (c + 1) A.length ++ [seg (v + 1) w] := if_pos hone
    have l13 : ∀ (k i : Nat) (y : ow_MS), i + k = w → v + 1 ≤ i → I y → bmX y n A (cps A 0 c ++ [seg (rn_b A c) v ++ seg (w + 1) (rn_b A (c + 1))] ++ cps A (c + 1) A.length) (seg (v + 1) i) → Tt (fun K i9 => q_X13_smoothIn K i9 13 (nI c) (nI v) (nI w) 1 (nI i) 0 0 o n 0 y) Q := by
      intro k
      have sa := cps_len (A := A) (show c + 1 ≤ A.length by omega)
      have hbn := rn_b_len A
      have hsz : (cps A 0 c ++ [seg (rn_b A c) v ++ seg (w + 1) (rn_b A (c + 1))] ++ cps A (c + 1) A.length).flatten.length ≤ 24 := by
        rw [List.flatten_append, List.flatten_append, List.length_append, List.length_append, s0c, sa, List.flatten_cons, List.flatten_nil, List.append_nil, List.length_append, seg_len, seg_len]
        omega
      have hcn : (cps A 0 c ++ [seg (rn_b A c) v ++ seg (w + 1) (rn_b A (c + 1))] ++ cps A (c + 1) A.length).length < 39 := by
        rw [List.length_append, List.length_append, cps_n, cps_n]
        show c - 0 + 1 + (A.length - (c + 1)) < 39
        omega
      have hsz2 : ∀ i, i < w → v + 1 ≤ i → (cps A 0 c ++ [seg (rn_b A c) v ++ seg (w + 1) (rn_b A (c + 1))] ++ cps A (c + 1) A.length).flatten.length + (seg (v + 1) i).length < 40 := fun i h1 h2 => by
        rw [List.flatten_append, List.flatten_append, List.length_append, List.length_append, s0c, sa, List.flatten_cons, List.flatten_nil, List.append_nil, List.length_append, seg_len, seg_len, seg_len]
        omega
      induction k with
      | zero =>
        intro i y hi hlo hI hb
        have hie : i = w := by omega
        rw [hie] at hb ⊢
        refine u_X13_smoothIn_13 ?_; unfold qm_X13_smoothIn_13
        refine w_leT (by omega) (Nat.le_refl _) (w_cs0 (bmX_end hn hb hcn) (fun y3 ⟨g1, g2⟩ => w_some ⟨?_, (endI hI g2).2, (endI hI g2).1⟩))
        rw [eS]
        exact g1
      | succ k ih =>
        intro i y hi hlo hI hb
        have hil : i < A.flatten.length := by omega
        refine u_X13_smoothIn_13 ?_; unfold qm_X13_smoothIn_13
        refine (w_leF (by omega) (by omega) (w_rdI (pl4 ho) rfl (by omega) (cuI hI hil).1 (w_rdI (pl5 ho) rfl (by omega) (cuI hI hil).2 (w_cs0 (bmX_add hn hb (hsz2 i (by omega) hlo)) (fun y2 ⟨g1, g2⟩ => ?_)))))
        rw [nI_1]
        refine ih (i + 1) y2 (by omega) (by omega) (addI hI g2) ?_
        rw [seg_s hlo]
        exact g1
    have aft : ∀ (k m : Nat) (y : ow_MS), m + k = A.length → c < m → I y → bmX y n A (cps A 0 c ++ [seg (rn_b A c) v ++ seg (w + 1) (rn_b A (c + 1))] ++ cps A (c + 1) m) [] → Tt (fun K i9 => q_X13_smoothIn K i9 2 (nI c) (nI v) (nI w) 1 (nI m) 0 0 o n 0 y) Q := by
      intro k
      induction k with
      | zero =>
        intro m y hm hcm hI hb
        have hme : m = A.length := by omega
        rw [hme] at hb
        refine u_X13_smoothIn_2 ?_; unfold qm_X13_smoothIn_2
        rw [nI_1 v]
        refine w_rdF (atI hI).2.1 (w_leT (by omega) (by omega) (w_ifF (by decide) (l13 (w - (v + 1)) (v + 1) y (by omega) (Nat.le_refl _) hI ?_)))
        rw [seg_0]
        exact hb
      | succ k ih =>
        intro m y hm hcm hI hb
        have m1 := mono (a := c + 1) (b := m) (by omega)
        have m2 := rn_b_mono A m
        have m3 := hbl2 (m + 1)
        have sa := cps_len (A := A) (show c + 1 ≤ m by omega)
        refine u_X13_smoothIn_2 ?_; unfold qm_X13_smoothIn_2
        rw [nI_1 v]
        refine w_rdF (atI hI).2.1 (w_leF (by omega) (by omega) (w_ifF (fun e => by have := (nI_eq (by omega) (by omega)).mp e; omega) (w_ifF (by decide) (c10 1 m _ y (by omega) ?_ ?_ (fun y2 hI2 hb2 => ?_) hI hb))))
        · rw [List.length_append, List.length_append, cps_n, cps_n]
          show c - 0 + 1 + (m - (c + 1)) < 39
          omega
        · rw [List.flatten_append, List.flatten_append, List.length_append, List.length_append, s0c, sa, List.flatten_cons, List.flatten_nil, List.append_nil, List.length_append, seg_len, seg_len]
          omega
        · refine u_X13_smoothIn_12 ?_; unfold qm_X13_smoothIn_12
          rw [nI_1]
          refine ih (m + 1) y2 (by omega) (by omega) hI2 ?_
          rw [cps_s (by omega), ← List.append_assoc]
          exact hb2
    have l4 : ∀ (k i : Nat) (y : ow_MS), i + k = rn_b A (c + 1) → w + 1 ≤ i → I y → bmX y n A (cps A 0 c) (seg (rn_b A c) v ++ seg (w + 1) i) → (∀ y2, I y2 → bmX y2 n A (cps A 0 c) (seg (rn_b A c) v ++ seg (w + 1) (rn_b A (c + 1))) → Tt (fun K i9 => q_X13_smoothIn K i9 9 (nI c) (nI v) (nI w) 1 (nI c) (nI (rn_b A (c + 1))) 0 o n 0 y2) Q) → Tt (fun K i9 => q_X13_smoothIn K i9 4 (nI c) (nI v) (nI w) 1 (nI c) (nI i) 0 o n 0 y) Q := by
      intro k
      induction k with
      | zero =>
        intro i y hi hlo hI hb hout
        have hie : i = rn_b A (c + 1) := by omega
        rw [hie] at hb ⊢
        refine u_X13_smoothIn_4 ?_; unfold qm_X13_smoothIn_4
        exact w_rdI (pl3 ho) (nI_1 _) (by omega) (bI hI (by omega)) (w_leT (by omega) (Nat.le_refl _) (hout y hI hb))
      | succ k ih =>
        intro i y hi hlo hI hb hout
        have hil : i < A.flatten.length := by omega
        refine u_X13_smoothIn_4 ?_; unfold qm_X13_smoothIn_4
        refine w_rdI (pl3 ho) (nI_1 _) (by omega) (bI hI (by omega)) (w_leF (by omega) (by omega) (w_rdI (pl4 ho) rfl (by omega) (cuI hI hil).1 (w_rdI (pl5 ho) rfl (by omega) (cuI hI hil).2 (w_cs0 (bmX_add hn hb (by rw [s0c, List.length_append, seg_len, seg_len]; omega)) (fun y2 ⟨g1, g2⟩ => ?_)))))
        rw [nI_1]
        refine ih (i + 1) y2 (by omega) (by omega) (addI hI g2) ?_ hout
        rw [seg_s hlo, ← List.append_assoc]
        exact g1
    have l3 : ∀ (k i : Nat) (y : ow_MS), i + k = v → rn_b A c ≤ i → I y → bmX y n A (cps A 0 c) (seg (rn_b A c) i) → (∀ y2, I y2 → bmX y2 n A (cps A 0 c) (seg (rn_b A c) v) → Tt (fun K i9 => q_X13_smoothIn K i9 4 (nI c) (nI v) (nI w) 1 (nI c) (nI (w + 1)) 0 o n 0 y2) Q) → Tt (fun K i9 => q_X13_smoothIn K i9 3 (nI c) (nI v) (nI w) 1 (nI c) (nI i) 0 o n 0 y) Q := by
      intro k
      induction k with
      | zero =>
        intro i y hi hlo hI hb hout
        have hie : i = v := by omega
        rw [hie] at hb ⊢
        refine u_X13_smoothIn_3 ?_; unfold qm_X13_smoothIn_3
        rw [nI_1 w]
        exact w_leT (by omega) (Nat.le_refl _) (w_ifF (by decide) (hout y hI hb))
      | succ k ih =>
        intro i y hi hlo hI hb hout
        have hil : i < A.flatten.length := by omega
        refine u_X13_smoothIn_3 ?_; unfold qm_X13_smoothIn_3
        rw [nI_1 w]
        refine (w_leF (by omega) (by omega) (w_rdI (pl4 ho) rfl (by omega) (cuI hI hil).1 (w_rdI (pl5 ho) rfl (by omega) (cuI hI hil).2 (w_cs0 (bmX_add hn hb (by rw [s0c, seg_len]; omega)) (fun y2 ⟨g1, g2⟩ => ?_)))))
        rw [nI_1]
        refine ih (i + 1) y2 (by omega) (by omega) (addI hI g2) ?_ hout
        rw [seg_s hlo]
        exact g1
    have bef : ∀ (k m : Nat) (y : ow_MS), m + k = c → I y → bmX y n A (cps A 0 m) [] → Tt (fun K i9 => q_X13_smoothIn K i9 2 (nI c) (nI v) (nI w) 1 (nI m) 0 0 o n 0 y) Q := by
      intro k
      induction k with
      | zero =>
        intro m y hm hI hb
        have hme : m = c := by omega
        rw [hme] at hb ⊢
        refine u_X13_smoothIn_2 ?_; unfold qm_X13_smoothIn_2
        refine w_rdF (atI hI).2.1 (w_leF (by omega) (by omega) (w_ifT rfl (w_rdI (pl3 ho) rfl (by omega) (bI hI (by omega)) (l3 (v - rn_b A c) (rn_b A c) y (by omega) (Nat.le_refl _) hI (by rw [seg_0]; exact hb) (fun y2 hI2 hb2 => l4 (rn_b A (c + 1) - (w + 1)) (w + 1) y2 (by omega) (Nat.le_refl _) hI2 (by rw [seg_0, List.append_nil]; exact hb2) (fun y3 hI3 hb3 => ?_))))))
        refine u_X13_smoothIn_9 ?_; unfold qm_X13_smoothIn_9
        refine w_cs0 (bmX_end hn hb3 (by rw [cps_n]; omega)) (fun y4 ⟨g1, g2⟩ => ?_)
        refine u_X13_smoothIn_12 ?_; unfold qm_X13_smoothIn_12
        rw [nI_1]
        refine aft (A.length - (c + 1)) (c + 1) y4 (by omega) (by omega) (endI hI3 g2) ?_
        rw [cps_0, List.append_nil]
        exact g1
      | succ k ih =>
        intro m y hm hI hb
        have m1 := mono (a := m + 1) (b := c) (by omega)
        have m2 := rn_b_mono A m
        have sm := cps_len (A := A) (Nat.zero_le m)
        rw [rn_b0, Nat.sub_zero] at sm
        refine u_X13_smoothIn_2 ?_; unfold qm_X13_smoothIn_2
        rw [nI_1 v]
        refine w_rdF (atI hI).2.1 (w_leF (by omega) (by omega) (w_ifF (fun e => by have := (nI_eq (by omega) (by omega)).mp e; omega) (w_ifF (by decide) (c10 1 m _ y (by omega) (by rw [cps_n]; omega) (by rw [sm]; omega) (fun y2 hI2 hb2 => ?_) hI hb))))
        refine u_X13_smoothIn_12 ?_; unfold qm_X13_smoothIn_12
        rw [nI_1]
        refine ih (m + 1) y2 (by omega) hI2 ?_
        rw [cps_s (by omega)]
        exact hb2
    refine e_X13_smoothIn ?_
    refine u_X13_smoothIn_0 ?_; unfold qm_X13_smoothIn_0
    refine w_cs0 (tn_clear hn) (fun z3 ⟨b3, f3⟩ => w_cs0 (tn_signs hn ho hon) (fun z4 ⟨f4, s4⟩ => ?_))
    have hI4 : I z4 := ⟨fr_tr (fr_mono (fun g hg => by omega) f3) (fr_mono (fun g hg => by omega) f4), fun x hx => by rw [s4 x hx, (f3 (o + 6) (by omega)).2.1]⟩
    refine w_rdI (pl3 ho) (nI_1 _) (by omega) (bI hI4 (by omega)) (w_leF (by omega) hone ?_)
    refine u_X13_smoothIn_1 ?_; unfold qm_X13_smoothIn_1
    refine bef c 0 z4 (by omega) hI4 ?_
    rw [cps_0]
    exact bmX_fr (C := []) (B := []) f4 (fun g hg => by omega) b3
  · -- two components become one
    have eS : smC A c v w (rn_c A w) = cps A 0 c ++ [((seg (rn_b A c) v ++ seg (w + 1) (rn_b A (J + 1))) ++ seg (rn_b A J) w) ++ seg (v + 1) (rn_b A (c + 1))] ++ cps A (c + 1) J ++ cps A (J + 1) A.length := by
      rw [hJ]
      exact if_neg hone
    have hcJ : c < J := by
      rcases Nat.lt_or_ge c J with h9 | h9
      · exact h9
      · have := mono (a := J + 1) (b := c + 1) (by omega)
        omega
    have mJ := mono (a := c + 1) (b := J) (by omega)
    have mJ2 := rn_b_mono A J
    generalize hK : cps A 0 c ++ [((seg (rn_b A c) v ++ seg (w + 1) (rn_b A (J + 1))) ++ seg (rn_b A J) w) ++ seg (v + 1) (rn_b A (c + 1))] = K0 at eS
    have K0n : K0.length = c + 1 := by
      rw [← hK, List.length_append, cps_n]
      rfl
    have K0l : K0.flatten.length + 2 = rn_b A (c + 1) + (rn_b A (J + 1) - rn_b A J) := by
      rw [← hK, List.flatten_append, List.length_append, s0c, List.flatten_cons, List.flatten_nil, List.append_nil, List.length_append, List.length_append, List.length_append, seg_len, seg_len, seg_len, seg_len]
      omega
    have aft2 : ∀ (k m : Nat) (y : ow_MS), m + k = A.length → J < m → I y → bmX y n A (K0 ++ cps A (c + 1) J ++ cps A (J + 1) m) [] → Tt (fun K i9 => q_X13_smoothIn K i9 2 (nI c) (nI v) (nI w) 0 (nI m) 0 0 o n 0 y) Q := by
      intro k
      induction k with
      | zero =>
        intro m y hm hcm hI hb
        have hme : m = A.length := by omega
        rw [hme] at hb
        refine u_X13_smoothIn_2 ?_; unfold qm_X13_smoothIn_2
        refine w_rdF (atI hI).2.1 (w_leT (by omega) (by omega) (w_ifT rfl (w_some ⟨?_, hI.2, hI.1⟩)))
        rw [eS]
        exact hb
      | succ k ih =>
        intro m y hm hcm hI hb
        have m1 := mono (a := J + 1) (b := m) (by omega)
        have m2 := rn_b_mono A m
        have m3 := hbl2 (m + 1)
        have sa := cps_len (A := A) (show c + 1 ≤ J by omega)
        have sb := cps_len (A := A) (show J + 1 ≤ m by omega)
        refine u_X13_smoothIn_2 ?_; unfold qm_X13_smoothIn_2
        refine w_rdF (atI hI).2.1 (w_leF (by omega) (by omega) (w_ifF (fun e => by have := (nI_eq (by omega) (by omega)).mp e; omega) (w_ifT rfl (w_rdI (pl3 ho) rfl (by omega) (bI hI (by omega)) (w_ltT (by omega) (by omega) (c10 0 m _ y (by omega) ?_ ?_ (fun y2 hI2 hb2 => ?_) hI hb))))))
        · rw [List.length_append, List.length_append, cps_n, cps_n, K0n]
          omega
        · rw [List.flatten_append, List.flatten_append, List.length_append, List.length_append, sa, sb]
          omega
        · refine u_X13_smoothIn_12 ?_; unfold qm_X13_smoothIn_12
          rw [nI_1]
          refine ih (m + 1) y2 (by omega) (by omega) hI2 ?_
          rw [cps_s (by omega), ← List.append_assoc]
          exact hb2
    have aft1 : ∀ (k m : Nat) (y : ow_MS), m + k = J → c < m → I y → bmX y n A (K0 ++ cps A (c + 1) m) [] → Tt (fun K i9 => q_X13_smoothIn K i9 2 (nI c) (nI v) (nI w) 0 (nI m) 0 0 o n 0 y) Q := by
      intro k
      induction k with
      | zero =>
        intro m y hm hcm hI hb
        have hme : m = J := by omega
        rw [hme] at hb ⊢
        refine u_X13_smoothIn_2 ?_; unfold qm_X13_smoothIn_2
        refine w_rdF (atI hI).2.1 (w_leF (by omega) (by omega) (w_ifF (fun e => by have := (nI_eq (by omega) (by omega)).mp e; omega) (w_ifT rfl (w_rdI (pl3 ho) rfl (by omega) (bI hI (by omega)) (w_ltF (by omega) (by omega) (w_rdI (pl3 ho) (nI_1 _) (by omega) (bI hI (by omega)) (w_ltT (by omega) (by omega) ?_)))))))
        refine u_X13_smoothIn_12 ?_; unfold qm_X13_smoothIn_12
        rw [nI_1]
        refine aft2 (A.length - (J + 1)) (J + 1) y (by omega) (by omega) hI ?_
        rw [cps_0, List.append_nil]
        exact hb
      | succ k ih =>
        intro m y hm hcm hI hb
        have m1 := mono (a := c + 1) (b := m) (by omega)
        have m2 := rn_b_mono A m
        have m3 := hbl2 (m + 1)
        have m4 := mono (a := m + 1) (b := J) (by omega)
        have sa := cps_len (A := A) (show c + 1 ≤ m by omega)
        refine u_X13_smoothIn_2 ?_; unfold qm_X13_smoothIn_2
        refine w_rdF (atI hI).2.1 (w_leF (by omega) (by omega) (w_ifF (fun e => by have := (nI_eq (by omega) (by omega)).mp e; omega) (w_ifT rfl (w_rdI (pl3 ho) rfl (by omega) (bI hI (by omega)) (w_ltF (by omega) (by omega) (w_rdI (pl3 ho) (nI_1 _) (by omega) (bI hI (by omega)) (w_ltF (by omega) (by omega) (c10 0 m _ y (by omega) ?_ ?_ (fun y2 hI2 hb2 => ?_) hI hb))))))))
        · rw [List.length_append, cps_n, K0n]
          omega
        · rw [List.flatten_append, List.length_append, sa]
          omega
        · refine u_X13_smoothIn_12 ?_; unfold qm_X13_smoothIn_12
          rw [nI_1]
          refine ih (m + 1) y2 (by omega) (by omega) hI2 ?_
          rw [cps_s (by omega), ← List.append_assoc]
          exact hb2
    have l8 : ∀ (k i : Nat) (y : ow_MS), i + k = rn_b A (c + 1) → v + 1 ≤ i → I y → bmX y n A (cps A 0 c) (((seg (rn_b A c) v ++ seg (w + 1) (rn_b A (J + 1))) ++ seg (rn_b A J) w) ++ seg (v + 1) i) → (∀ y2, I y2 → bmX y2 n A (cps A 0 c) (((seg (rn_b A c) v ++ seg (w + 1) (rn_b A (J + 1))) ++ seg (rn_b A J) w) ++ seg (v + 1) (rn_b A (c + 1))) → Tt (fun K i9 => q_X13_smoothIn K i9 9 (nI c) (nI v) (nI w) 0 (nI c) (nI J) 0 o n 0 y2) Q) → Tt (fun K i9 => q_X13_smoothIn K i9 8 (nI c) (nI v) (nI w) 0 (nI c) (nI J) (nI i) o n 0 y) Q := by
      intro k
      induction k with
      | zero =>
        intro i y hi hlo hI hb hout
        have hie : i = rn_b A (c + 1) := by omega
        rw [hie] at hb ⊢
        refine u_X13_smoothIn_8 ?_; unfold qm_X13_smoothIn_8
        exact w_rdI (pl3 ho) (nI_1 _) (by omega) (bI hI (by omega)) (w_leT (by omega) (Nat.le_refl _) (hout y hI hb))
      | succ k ih =>
        intro i y hi hlo hI hb hout
        have hil : i < A.flatten.length := by omega
        refine u_X13_smoothIn_8 ?_; unfold qm_X13_smoothIn_8
        refine w_rdI (pl3 ho) (nI_1 _) (by omega) (bI hI (by omega)) (w_leF (by omega) (by omega) (w_rdI (pl4 ho) rfl (by omega) (cuI hI hil).1 (w_rdI (pl5 ho) rfl (by omega) (cuI hI hil).2 (w_cs0 (bmX_add hn hb (by rw [s0c, List.length_append, List.length_append, List.length_append, seg_len, seg_len, seg_len, seg_len]; omega)) (fun y2 ⟨g1, g2⟩ => ?_)))))
        rw [nI_1]
        refine ih (i + 1) y2 (by omega) (by omega) (addI hI g2) ?_ hout
        rw [seg_s hlo, ← List.append_assoc]
        exact g1
    have l7 : ∀ (k i : Nat) (y : ow_MS), i + k = w → rn_b A J ≤ i → I y → bmX y n A (cps A 0 c) ((seg (rn_b A c) v ++ seg (w + 1) (rn_b A (J + 1))) ++ seg (rn_b A J) i) → (∀ y2, I y2 → bmX y2 n A (cps A 0 c) ((seg (rn_b A c) v ++ seg (w + 1) (rn_b A (J + 1))) ++ seg (rn_b A J) w) → Tt (fun K i9 => q_X13_smoothIn K i9 8 (nI c) (nI v) (nI w) 0 (nI c) (nI J) (nI (v + 1)) o n 0 y2) Q) → Tt (fun K i9 => q_X13_smoothIn K i9 7 (nI c) (nI v) (nI w) 0 (nI c) (nI J) (nI i) o n 0 y) Q := by
      intro k
      induction k with
      | zero =>
        intro i y hi hlo hI hb hout
        have hie : i = w := by omega
        rw [hie] at hb ⊢
        refine u_X13_smoothIn_7 ?_; unfold qm_X13_smoothIn_7
        rw [nI_1 v]
        exact (w_leT (by omega) (Nat.le_refl _) (hout y hI hb))
      | succ k ih =>
        intro i y hi hlo hI hb hout
        have hil : i < A.flatten.length := by omega
        refine u_X13_smoothIn_7 ?_; unfold qm_X13_smoothIn_7
        rw [nI_1 v]
        refine (w_leF (by omega) (by omega) (w_rdI (pl4 ho) rfl (by omega) (cuI hI hil).1 (w_rdI (pl5 ho) rfl (by omega) (cuI hI hil).2 (w_cs0 (bmX_add hn hb (by rw [s0c, List.length_append, List.length_append, seg_len, seg_len, seg_len]; omega)) (fun y2 ⟨g1, g2⟩ => ?_)))))
        rw [nI_1]
        refine ih (i + 1) y2 (by omega) (by omega) (addI hI g2) ?_ hout
        rw [seg_s hlo, ← List.append_assoc]
        exact g1
    have l6 : ∀ (k i : Nat) (y : ow_MS), i + k = rn_b A (J + 1) → w + 1 ≤ i → I y → bmX y n A (cps A 0 c) (seg (rn_b A c) v ++ seg (w + 1) i) → (∀ y2, I y2 → bmX y2 n A (cps A 0 c) (seg (rn_b A c) v ++ seg (w + 1) (rn_b A (J + 1))) → Tt (fun K i9 => q_X13_smoothIn K i9 7 (nI c) (nI v) (nI w) 0 (nI c) (nI J) (nI (rn_b A J)) o n 0 y2) Q) → Tt (fun K i9 => q_X13_smoothIn K i9 6 (nI c) (nI v) (nI w) 0 (nI c) (nI J) (nI i) o n 0 y) Q := by
      intro k
      induction k with
      | zero =>
        intro i y hi hlo hI hb hout
        have hie : i = rn_b A (J + 1) := by omega
        rw [hie] at hb ⊢
        refine u_X13_smoothIn_6 ?_; unfold qm_X13_smoothIn_6
        exact w_rdI (pl3 ho) (nI_1 _) (by omega) (bI hI (by omega)) (w_leT (by omega) (Nat.le_refl _) (w_rdI (pl3 ho) rfl (by omega) (bI hI (by omega)) (hout y hI hb)))
      | succ k ih =>
        intro i y hi hlo hI hb hout
        have hil : i < A.flatten.length := by omega
        refine u_X13_smoothIn_6 ?_; unfold qm_X13_smoothIn_6
        refine w_rdI (pl3 ho) (nI_1 _) (by omega) (bI hI (by omega)) (w_leF (by omega) (by omega) (w_rdI (pl4 ho) rfl (by omega) (cuI hI hil).1 (w_rdI (pl5 ho) rfl (by omega) (cuI hI hil).2 (w_cs0 (bmX_add hn hb (by rw [s0c, List.length_append, seg_len, seg_len]; omega)) (fun y2 ⟨g1, g2⟩ => ?_)))))
        rw [nI_1]
        refine ih (i + 1) y2 (by omega) (by omega) (addI hI g2) ?_ hout
        rw [seg_s hlo, ← List.append_assoc]
        exact g1
    have l3 : ∀ (k i : Nat) (y : ow_MS), i + k = v → rn_b A c ≤ i → I y → bmX y n A (cps A 0 c) (seg (rn_b A c) i) → (∀ y2, I y2 → bmX y2 n A (cps A 0 c) (seg (rn_b A c) v) → Tt (fun K i9 => q_X13_smoothIn K i9 5 (nI c) (nI v) (nI w) 0 (nI c) 0 0 o n 0 y2) Q) → Tt (fun K i9 => q_X13_smoothIn K i9 3 (nI c) (nI v) (nI w) 0 (nI c) (nI i) 0 o n 0 y) Q := by
      intro k
      induction k with
      | zero =>
        intro i y hi hlo hI hb hout
        have hie : i = v := by omega
        rw [hie] at hb ⊢
        refine u_X13_smoothIn_3 ?_; unfold qm_X13_smoothIn_3
        exact w_leT (by omega) (Nat.le_refl _) (w_ifT rfl (hout y hI hb))
      | succ k ih =>
        intro i y hi hlo hI hb hout
        have hil : i < A.flatten.length := by omega
        refine u_X13_smoothIn_3 ?_; unfold qm_X13_smoothIn_3
        refine (w_leF (by omega) (by omega) (w_rdI (pl4 ho) rfl (by omega) (cuI hI hil).1 (w_rdI (pl5 ho) rfl (by omega) (cuI hI hil).2 (w_cs0 (bmX_add hn hb (by rw [s0c, seg_len]; omega)) (fun y2 ⟨g1, g2⟩ => ?_)))))
        rw [nI_1]
        refine ih (i + 1) y2 (by omega) (by omega) (addI hI g2) ?_ hout
        rw [seg_s hlo]
        exact g1
    have mid : ∀ y, I y → bmX y n A (cps A 0 c) (seg (rn_b A c) v) → Tt (fun K i9 => q_X13_smoothIn K i9 6 (nI c) (nI v) (nI w) 0 (nI c) (nI J) (nI (w + 1)) o n 0 y) Q := by
      intro y hI hb
      refine l6 (rn_b A (J + 1) - (w + 1)) (w + 1) y (by omega) (Nat.le_refl _) hI (by rw [seg_0, List.append_nil]; exact hb) (fun y2 hI2 hb2 => l7 (w - rn_b A J) (rn_b A J) y2 (by omega) (Nat.le_refl _) hI2 (by rw [seg_0, List.append_nil]; exact hb2) (fun y3 hI3 hb3 => l8 (rn_b A (c + 1) - (v + 1)) (v + 1) y3 (by omega) (Nat.le_refl _) hI3 (by rw [seg_0, List.append_nil]; exact hb3) (fun y4 hI4 hb4 => ?_)))
      refine u_X13_smoothIn_9 ?_; unfold qm_X13_smoothIn_9
      refine w_cs0 (bmX_end hn hb4 (by rw [cps_n]; omega)) (fun y5 ⟨g1, g2⟩ => ?_)
      refine u_X13_smoothIn_12 ?_; unfold qm_X13_smoothIn_12
      rw [nI_1]
      refine aft1 (J - (c + 1)) (c + 1) y5 (by omega) (by omega) (endI hI4 g2) ?_
      rw [cps_0, List.append_nil, ← hK]
      exact g1
    have l5 : ∀ (k m : Nat) (y : ow_MS), m + k = J → I y → bmX y n A (cps A 0 c) (seg (rn_b A c) v) → Tt (fun K i9 => q_X13_smoothIn K i9 5 (nI c) (nI v) (nI w) 0 (nI c) (nI m) 0 o n 0 y) Q := by
      intro k
      induction k with
      | zero =>
        intro m y hm hI hb
        have hme : m = J := by omega
        rw [hme]
        refine u_X13_smoothIn_5 ?_; unfold qm_X13_smoothIn_5
        rw [nI_1 w]
        exact w_rdI (pl3 ho) (nI_1 _) (by omega) (bI hI (by omega)) (w_ltT (by omega) hJ3 (mid y hI hb))
      | succ k ih =>
        intro m y hm hI hb
        have m1 := mono (a := m + 1) (b := J) (by omega)
        refine u_X13_smoothIn_5 ?_; unfold qm_X13_smoothIn_5
        refine w_rdI (pl3 ho) (nI_1 _) (by omega) (bI hI (by omega)) (w_ltF (by omega) (by omega) ?_)
        rw [nI_1]
        exact ih (m + 1) y (by omega) hI hb
    have bef : ∀ (k m : Nat) (y : ow_MS), m + k = c → I y → bmX y n A (cps A 0 m) [] → Tt (fun K i9 => q_X13_smoothIn K i9 2 (nI c) (nI v) (nI w) 0 (nI m) 0 0 o n 0 y) Q := by
      intro k
      induction k with
      | zero =>
        intro m y hm hI hb
        have hme : m = c := by omega
        rw [hme] at hb ⊢
        refine u_X13_smoothIn_2 ?_; unfold qm_X13_smoothIn_2
        exact w_rdF (atI hI).2.1 (w_leF (by omega) (by omega) (w_ifT rfl (w_rdI (pl3 ho) rfl (by omega) (bI hI (by omega)) (l3 (v - rn_b A c) (rn_b A c) y (by omega) (Nat.le_refl _) hI (by rw [seg_0]; exact hb) (fun y2 hI2 hb2 => l5 J 0 y2 (by omega) hI2 hb2)))))
      | succ k ih =>
        intro m y hm hI hb
        have m1 := mono (a := m + 1) (b := c) (by omega)
        have m2 := rn_b_mono A m
        have m5 := mono (a := m + 1) (b := J) (by omega)
        have sm := cps_len (A := A) (Nat.zero_le m)
        rw [rn_b0, Nat.sub_zero] at sm
        refine u_X13_smoothIn_2 ?_; unfold qm_X13_smoothIn_2
        refine w_rdF (atI hI).2.1 (w_leF (by omega) (by omega) (w_ifF (fun e => by have := (nI_eq (by omega) (by omega)).mp e; omega) (w_ifT rfl (w_rdI (pl3 ho) rfl (by omega) (bI hI (by omega)) (w_ltF (by omega) (by omega) (w_rdI (pl3 ho) (nI_1 _) (by omega) (bI hI (by omega)) (w_ltF (by omega) (by omega) (c10 0 m _ y (by omega) (by rw [cps_n]; omega) (by rw [sm]; omega) (fun y2 hI2 hb2 => ?_) hI hb))))))))
        refine u_X13_smoothIn_12 ?_; unfold qm_X13_smoothIn_12
        rw [nI_1]
        refine ih (m + 1) y2 (by omega) hI2 ?_
        rw [cps_s (by omega)]
        exact hb2
    refine e_X13_smoothIn ?_
    refine u_X13_smoothIn_0 ?_; unfold qm_X13_smoothIn_0
    refine w_cs0 (tn_clear hn) (fun z3 ⟨b3, f3⟩ => w_cs0 (tn_signs hn ho hon) (fun z4 ⟨f4, s4⟩ => ?_))
    have hI4 : I z4 := ⟨fr_tr (fr_mono (fun g hg => by omega) f3) (fr_mono (fun g hg => by omega) f4), fun x hx => by rw [s4 x hx, (f3 (o + 6) (by omega)).2.1]⟩
    refine w_rdI (pl3 ho) (nI_1 _) (by omega) (bI hI4 (by omega)) (w_leT (by omega) (by omega) ?_)
    refine u_X13_smoothIn_1 ?_; unfold qm_X13_smoothIn_1
    refine bef c 0 z4 (by omega) hI4 ?_
    rw [cps_0]
    exact bmX_fr (C := []) (B := []) f4 (fun g hg => by omega) b3
