-- CHAIN: two visits that follow each other taken out of a list
/-- as relL9, and for each pair the gap before it with the gap behind it -/
def relX9 (A : rn_L) (sg : Nat → Bool) (nm : Nat → Nat) (n : Nat) (ps : List (vT × vT)) (s : Nat → Bool) : Nat → Nat → Prop := lst9 (fun a b => jp9 A sg nm n s a b ∨ ∃ z, z ∈ ps ∧ a = gV9 (prA9 A z.1) ∧ b = gV9 z.2)
def gX9 (A : rn_L) (ps : List (vT × vT)) (g : Nat) : Prop := (∃ p, p ∈ A.flatten ∧ (∀ z, z ∈ ps → p ≠ z.1) ∧ g = gV9 p) ∨ ∃ i, i < A.length ∧ A[i]? = some [] ∧ g = 1000 + i
/-- pairs of visits that follow each other -/
def prO (A : rn_L) (ps : List (vT × vT)) : Prop := ∀ z, z ∈ ps → ∃ L, L ∈ A ∧ z.1 ∈ L ∧ sc L z.1 = z.2 ∧ z.1 ≠ z.2
def bdA (A : rn_L) : Prop := A.flatten.Nodup ∧ (∀ p, p ∈ A.flatten → p.1 < 400 ∧ p.2 < 2) ∧ A.length ≤ 900
noncomputable def fmv9 (A : rn_L) (r' : vT) (g : Nat) : Nat := if dcb (1000 ≤ g ∧ A[g - 1000]? ≠ some []) = true then gV9 r' else g
section XCHU
variable {A : rn_L} {sg : Nat → Bool} {nm : Nat → Nat} {n : Nat} {ps : List (vT × vT)} {s : Nat → Bool} {L : List vT} {r r' p q : vT}
theorem rm_bd (h : bdA A) : bdA (rmv (rmv A r) r') := ⟨rmv_nd (rmv_nd h.1), fun p hp => h.2.1 p (rmv_mem.mp (rmv_mem.mp hp).1).1, by
  unfold rmv
  rw [List.length_map, List.length_map]
  exact h.2.2⟩
theorem rm_in : p ∈ (rmv (rmv A r) r').flatten ↔ p ∈ A.flatten ∧ p ≠ r ∧ p ≠ r' := by
  rw [rmv_mem, rmv_mem]
  exact ⟨fun h => ⟨h.1.1, h.1.2, h.2⟩, fun h => ⟨⟨h.1, h.2.1⟩, h.2.2⟩⟩
/-- who comes before, when r and r' are out -/
theorem prA_rm (hn : A.flatten.Nodup) (hL : L ∈ A) (hr : r ∈ L) (e : sc L r = r') (hne : r ≠ r') (hp : p ∈ A.flatten) (h1 : p ≠ r) (h2 : p ≠ r') : prA9 A p ≠ r ∧ (prA9 A p = r' → prA9 A r ≠ r ∧ prA9 A r ≠ r') ∧ prA9 (rmv (rmv A r) r') p = if prA9 A p = r' then prA9 A r else prA9 A p := by
  obtain ⟨M, hM, p1⟩ := List.mem_flatten.mp hp
  obtain ⟨q1, q2⟩ := prA_of hn hM p1
  have nM := L_nd hn hM
  have hr' : r' ∈ L := by rw [← e]; exact sc_in hr (L_nd hn hL)
  have a1 : prA9 A p ≠ r := fun h9 => by
    rw [h9] at q1 q2
    have : M = L := same_L hn hL hM hr q1
    rw [this, e] at q2
    exact h2 q2.symm
  have a2 : prA9 A p = r' → prA9 A r ≠ r ∧ prA9 A r ≠ r' := fun h9 => by
    rw [h9] at q1 q2
    have eM : M = L := same_L hn hL hM hr' q1
    rw [eM] at q2
    obtain ⟨w1, w2⟩ := prA_of hn hL hr
    refine ⟨fun h8 => ?_, fun h8 => ?_⟩
    · rw [h8, e] at w2
      exact hne w2.symm
    · rw [h8] at w2
      exact h1 (q2.symm.trans w2)
  refine ⟨a1, a2, ?_⟩
  have nN : (rmv A r).flatten.Nodup := rmv_nd hn
  have nP : (rmv (rmv A r) r').flatten.Nodup := rmv_nd nN
  have hM2 : ((M.filter (fun q => decide (q ≠ r))).filter (fun q => decide (q ≠ r'))) ∈ rmv (rmv A r) r' := List.mem_map.mpr ⟨_, List.mem_map.mpr ⟨M, hM, rfl⟩, rfl⟩
  have n1 : (M.filter (fun q => decide (q ≠ r))).Nodup := List.Pairwise.filter _ nM
  have inF : ∀ t, t ∈ M → t ≠ r → t ∈ M.filter (fun q => decide (q ≠ r)) := fun t t1 t2 => List.mem_filter.mpr ⟨t1, decide_eq_true t2⟩
  have inF2 : ∀ t, t ∈ M → t ≠ r → t ≠ r' → t ∈ (M.filter (fun q => decide (q ≠ r))).filter (fun q => decide (q ≠ r')) := fun t t1 t2 t3 => List.mem_filter.mpr ⟨inF t t1 t2, decide_eq_true t3⟩
  -- a step in the list with both out
  have stp : ∀ t, t ∈ M → t ≠ r → t ≠ r' → sc ((M.filter (fun q => decide (q ≠ r))).filter (fun q => decide (q ≠ r'))) t = if (if sc M t = r then sc M r else sc M t) = r' then (if sc M r' = r then sc M r else sc M r') else (if sc M t = r then sc M r else sc M t) := fun t t1 t2 t3 => by
    rw [sc_fil n1 (inF t t1 t2) t3, sc_fil nM t1 t2]
    by_cases c : (if sc M t = r then sc M r else sc M t) = r'
    · rw [if_pos c, if_pos c]
      have r'M : r' ∈ M := by
        rw [← c]
        split
        · rename_i h9
          have : r ∈ M := by rw [← h9]; exact sc_in t1 nM
          exact sc_in this nM
        · exact sc_in t1 nM
      exact sc_fil nM r'M (fun h9 => hne h9.symm)
    · rw [if_neg c, if_neg c]
  by_cases c : prA9 A p = r'
  · rw [if_pos c]
    obtain ⟨b1, b2⟩ := a2 c
    rw [c] at q1 q2
    have eM : M = L := same_L hn hL hM hr' q1
    obtain ⟨w1, w2⟩ := prA_of hn hL hr
    rw [← eM] at w1 w2 e
    refine prA_eq nP hM2 (inF2 _ w1 b1 b2) ?_
    rw [stp _ w1 b1 b2, w2, if_pos rfl, e, if_pos rfl, q2, if_neg h1]
  · rw [if_neg c]
    refine prA_eq nP hM2 (inF2 _ q1 a1 c) ?_
    rw [stp _ q1 a1 c, q2, if_neg h1, if_neg h2]
theorem gV_lt (h : bdA A) (hp : p ∈ A.flatten) : gV9 p < 1000 := by
  have := h.2.1 p hp
  unfold gV9
  omega
theorem fm_v (h : bdA A) (hp : p ∈ A.flatten) : fmv9 A r' (gV9 p) = gV9 p := if_neg (fun h9 => by
  have := (dcb_t.mp h9).1
  have := gV_lt h hp
  omega)
theorem rmv_ix {i : Nat} : (rmv (rmv A r) r')[i]? = (A[i]?).map (fun M => (M.filter (fun q => decide (q ≠ r))).filter (fun q => decide (q ≠ r'))) := by
  unfold rmv
  rw [List.getElem?_map, List.getElem?_map, Option.map_map]
  rfl
theorem nd_ix {i j : Nat} (hn : A.flatten.Nodup) (h1 : A[i]? = some L) (h2 : A[j]? = some L) (hr : r ∈ L) : i = j := by
  have key : ∀ (A : rn_L) (i j : Nat), A.flatten.Nodup → A[i]? = some L → A[j]? = some L → i < j → False := fun A => by
    induction A with
    | nil =>
      intro i j _ h1
      cases h1
    | cons M A ih =>
      intro i j hn h1 h2 hl
      have hn2 : (M ++ A.flatten).Nodup := hn
      cases j with
      | zero => omega
      | succ j =>
        have h2 : A[j]? = some L := h2
        cases i with
        | zero =>
          have h1 : some M = some L := h1
          have e : M = L := Option.some.inj h1
          have d := (List.nodup_append.mp hn2).2.2
          exact d r (by rw [e]; exact hr) r (List.mem_flatten.mpr ⟨L, List.mem_of_getElem? h2, hr⟩) rfl
        | succ i => exact ih i j (List.nodup_append.mp hn2).2.1 h1 h2 (by omega)
  rcases Nat.lt_trichotomy i j with c | c | c
  · exact absurd (key A i j hn h1 h2 c) id
  · exact c
  · exact absurd (key A j i hn h2 h1 c) id
/-- one pair out -/
theorem rmP (hb : bdA A) (hL : L ∈ A) (hr : r ∈ L) (e : sc L r = r') (hne : r ≠ r') (hps : prO A ps) (hpd : ∀ z, z ∈ ps → (z.1 ≠ r ∧ z.1 ≠ r') ∧ z.2 ≠ r ∧ z.2 ≠ r') (hnm : ∀ y u, y < n → u < 2 → (nm y, u) ∈ A.flatten ∧ (nm y, u) ≠ r ∧ (nm y, u) ≠ r') : phi9 n (gX9 A ((r, r') :: ps)) (gX9 (rmv (rmv A r) r') ps) (fun y => gV9 (nm y, 0)) (fun y => gV9 (prA9 A (nm y, 0))) (fun y => gV9 (prA9 A (nm y, 0))) (fun y => gV9 (nm y, 0)) (fun y => gV9 (prA9 (rmv (rmv A r) r') (nm y, 0))) (fun y => gV9 (prA9 (rmv (rmv A r) r') (nm y, 0))) (relX9 A sg nm n ((r, r') :: ps)) (relX9 (rmv (rmv A r) r') sg nm n ps) (fmv9 A r') := by
  have hn := hb.1
  have u2 : ∀ p, p ∈ A.flatten → p.2 < 2 := fun p hp => (hb.2.1 p hp).2
  have hr' : r' ∈ L := by rw [← e]; exact sc_in hr (L_nd hn hL)
  have rA : r ∈ A.flatten := List.mem_flatten.mpr ⟨L, hL, hr⟩
  have rA' : r' ∈ A.flatten := List.mem_flatten.mpr ⟨L, hL, hr'⟩
  have qA := prA_in hn rA
  obtain ⟨w1, w2⟩ := prA_of hn hL hr
  have qr : prA9 A r ≠ r := fun h9 => by
    rw [h9, e] at w2
    exact hne w2.symm
  obtain ⟨i0, hi0, ei0⟩ := List.mem_iff_getElem.mp hL
  have ei : A[i0]? = some L := by rw [List.getElem?_eq_getElem hi0, ei0]
  have zA : ∀ z, z ∈ ps → z.1 ∈ A.flatten ∧ z.2 ∈ A.flatten := fun z hz => by
    obtain ⟨M, m1, m2, m3, -⟩ := hps z hz
    exact ⟨List.mem_flatten.mpr ⟨M, m1, m2⟩, List.mem_flatten.mpr ⟨M, m1, by rw [← m3]; exact sc_in m2 (L_nd hn m1)⟩⟩
  -- if r and r' are all
  have all : prA9 A r = r' → (L.filter (fun q => decide (q ≠ r))).filter (fun q => decide (q ≠ r')) = [] := fun h9 => by
    rw [h9] at w2
    have n1 : (L.filter (fun q => decide (q ≠ r))).Nodup := List.Pairwise.filter _ (L_nd hn hL)
    have m1 : r' ∈ L.filter (fun q => decide (q ≠ r)) := List.mem_filter.mpr ⟨hr', decide_eq_true (fun h8 => hne h8.symm)⟩
    have s1 : sc (L.filter (fun q => decide (q ≠ r))) r' = r' := by
      rw [sc_fil (L_nd hn hL) hr' (fun h8 => hne h8.symm), w2, if_pos rfl, e]
    rw [sc_self n1 m1 s1]
    exact List.filter_cons_of_neg (by rw [decide_eq_false (fun h8 => h8 rfl)]; decide)
  have cir : ∀ i, (rmv (rmv A r) r')[i]? = some [] → A[i]? ≠ some [] → i < A.length := fun i h1 h2 => by
    rw [rmv_ix] at h1
    cases h3 : A[i]? with
    | none =>
      rw [h3] at h1
      cases h1
    | some M => exact (List.getElem?_eq_some_iff.mp h3).1
  refine ⟨fun g hg => ?_, fun s _ => ?_⟩
  · rcases hg with ⟨p, p1, p2, p3⟩ | ⟨i, i1, i2, i3⟩
    · obtain ⟨a1, a2, a3⟩ := rm_in.mp p1
      rw [p3, fm_v hb a1]
      exact Or.inl ⟨p, a1, fun z hz => (List.mem_cons.mp hz).elim (fun h9 => by rw [h9]; exact a2) (p2 z), rfl⟩
    · by_cases c : A[i]? = some []
      · have q : fmv9 A r' g = g := if_neg (fun h9 => (dcb_t.mp h9).2 (by rw [i3, show 1000 + i - 1000 = i by omega]; exact c))
        rw [q]
        refine Or.inr ⟨i, (List.getElem?_eq_some_iff.mp c).1, c, i3⟩
      · have q : fmv9 A r' g = gV9 r' := if_pos (dcb_t.mpr ⟨by omega, by rw [i3, show 1000 + i - 1000 = i by omega]; exact c⟩)
        rw [q]
        exact Or.inl ⟨r', rA', fun z hz => (List.mem_cons.mp hz).elim (fun h9 => by rw [h9]; exact fun h8 => hne h8.symm) (fun h9 h8 => (hpd z h9).1.2 h8.symm), rfl⟩
  · have hX := lst_e (fun a b => jp9 A sg nm n s a b ∨ ∃ z, z ∈ (r, r') :: ps ∧ a = gV9 (prA9 A z.1) ∧ b = gV9 z.2)
    have hX1 := lst_e (fun a b => jp9 (rmv (rmv A r) r') sg nm n s a b ∨ ∃ z, z ∈ ps ∧ a = gV9 (prA9 (rmv (rmv A r) r') z.1) ∧ b = gV9 z.2)
    have par : relX9 A sg nm n ((r, r') :: ps) s (gV9 (prA9 A r)) (gV9 r') := lst_i (Or.inr ⟨(r, r'), List.mem_cons_self, rfl, rfl⟩)
    -- the gap before p, old and new
    have L1 : ∀ p, p ∈ A.flatten → p ≠ r → p ≠ r' → relX9 A sg nm n ((r, r') :: ps) s (gV9 (prA9 (rmv (rmv A r) r') p)) (gV9 (prA9 A p)) := fun p p1 p2 p3 => by
      obtain ⟨a1, a2, a3⟩ := prA_rm hn hL hr e hne p1 p2 p3
      rw [a3]
      by_cases c : prA9 A p = r'
      · rw [if_pos c, c]
        exact par
      · rw [if_neg c]
        exact hX.1 _
    have fp : ∀ p, p ∈ (rmv (rmv A r) r').flatten → fmv9 A r' (gV9 p) = gV9 p := fun p hp => fm_v hb (rm_in.mp hp).1
    have nm1 : ∀ y u, y < n → u < 2 → (nm y, u) ∈ (rmv (rmv A r) r').flatten := fun y u hy hu => rm_in.mpr (hnm y u hy hu)
    have n1 := (rm_bd (r := r) (r' := r') hb).1
    -- there and back
    have fwd : ∀ g h, relX9 (rmv (rmv A r) r') sg nm n ps s g h → relX9 A sg nm n ((r, r') :: ps) s (fmv9 A r' g) (fmv9 A r' h) := fun g h h1 => by
      refine h1 _ (eqv_pb hX (fmv9 A r')) (fun a b hab => ?_)
      show relX9 A sg nm n ((r, r') :: ps) s (fmv9 A r' a) (fmv9 A r' b)
      rcases hab with ⟨y, y1, y2⟩ | ⟨z, z1, z2, z3⟩
      · have m0 := nm1 y 0 y1 (by omega)
        have m1 := nm1 y 1 y1 (by omega)
        obtain ⟨o0, o1, o2⟩ := hnm y 0 y1 (by omega)
        obtain ⟨v0, v1, v2⟩ := hnm y 1 y1 (by omega)
        have l0 := L1 _ o0 o1 o2
        have l1 := L1 _ v0 v1 v2
        have jj : ∀ a b, jc9 A sg (nm y) (s y) a b → relX9 A sg nm n ((r, r') :: ps) s a b := fun a b h9 => lst_i (Or.inl ⟨y, y1, h9⟩)
        rcases y2 with ⟨c, ⟨e1, e2⟩ | ⟨e1, e2⟩⟩ | ⟨c, ⟨e1, e2⟩ | ⟨e1, e2⟩⟩
        · rw [e1, e2, fp _ (prA_in n1 m0), fp _ m1]
          exact hX.2.2 _ _ _ l0 (jj _ _ (Or.inl ⟨c, Or.inl ⟨rfl, rfl⟩⟩))
        · rw [e1, e2, fp _ (prA_in n1 m1), fp _ m0]
          exact hX.2.2 _ _ _ (jj _ _ (Or.inl ⟨c, Or.inr ⟨rfl, rfl⟩⟩)) (hX.2.1 _ _ l1)
        · rw [e1, e2, fp _ (prA_in n1 m0), fp _ (prA_in n1 m1)]
          exact hX.2.2 _ _ _ l0 (hX.2.2 _ _ _ (jj _ _ (Or.inr ⟨c, Or.inl ⟨rfl, rfl⟩⟩)) (hX.2.1 _ _ l1))
        · rw [e1, e2, fp _ m0, fp _ m1]
          exact jj _ _ (Or.inr ⟨c, Or.inr ⟨rfl, rfl⟩⟩)
      · obtain ⟨⟨d1, d2⟩, d3, d4⟩ := hpd z z1
        obtain ⟨t1, t2⟩ := zA z z1
        have m1 : z.1 ∈ (rmv (rmv A r) r').flatten := rm_in.mpr ⟨t1, d1, d2⟩
        have m2 : z.2 ∈ (rmv (rmv A r) r').flatten := rm_in.mpr ⟨t2, d3, d4⟩
        rw [z2, z3, fp _ (prA_in n1 m1), fp _ m2]
        exact hX.2.2 _ _ _ (L1 _ t1 d1 d2) (lst_i (Or.inr ⟨z, List.mem_cons_of_mem _ z1, rfl, rfl⟩))
    -- back
    have ex : ∃ ψ : Nat → Nat, (∀ p, p ∈ A.flatten → p ≠ r → p ≠ r' → ψ (gV9 p) = gV9 p) ∧ (ψ (gV9 r') = if prA9 A r = r' then 1000 + i0 else gV9 (prA9 A r)) ∧ ∀ g, 1000 ≤ g → ψ g = g := by
      refine ⟨fun g => if g = gV9 r' then (if prA9 A r = r' then 1000 + i0 else gV9 (prA9 A r)) else g, fun p p1 p2 p3 => if_neg (fun h9 => p3 (gA_inj (u2 p p1) (u2 r' rA') h9)), if_pos rfl, fun g hg => if_neg (fun h9 => ?_)⟩
      have := gV_lt hb rA'
      omega
    obtain ⟨ψ, ψ1, ψ2, ψ3⟩ := ex
    have ψp : ∀ p, p ∈ A.flatten → p ≠ r → p ≠ r' → ψ (gV9 (prA9 A p)) = gV9 (prA9 (rmv (rmv A r) r') p) := fun p p1 p2 p3 => by
      obtain ⟨a1, a2, a3⟩ := prA_rm hn hL hr e hne p1 p2 p3
      rw [a3]
      by_cases c : prA9 A p = r'
      · rw [if_pos c, c, ψ2, if_neg (a2 c).2]
      · rw [if_neg c]
        exact ψ1 _ (prA_in hn p1) a1 c
    have bwd : ∀ g h, relX9 A sg nm n ((r, r') :: ps) s g h → relX9 (rmv (rmv A r) r') sg nm n ps s (ψ g) (ψ h) := fun g h h1 => by
      refine h1 _ (eqv_pb hX1 ψ) (fun a b hab => ?_)
      show relX9 (rmv (rmv A r) r') sg nm n ps s (ψ a) (ψ b)
      rcases hab with ⟨y, y1, y2⟩ | ⟨z, z1, z2, z3⟩
      · obtain ⟨o0, o1, o2⟩ := hnm y 0 y1 (by omega)
        obtain ⟨v0, v1, v2⟩ := hnm y 1 y1 (by omega)
        have p0 := ψp _ o0 o1 o2
        have p1 := ψp _ v0 v1 v2
        have s0 := ψ1 _ o0 o1 o2
        have s1 := ψ1 _ v0 v1 v2
        rcases y2 with ⟨c, ⟨e1, e2⟩ | ⟨e1, e2⟩⟩ | ⟨c, ⟨e1, e2⟩ | ⟨e1, e2⟩⟩
        · rw [e1, e2, p0, s1]
          exact lst_i (Or.inl ⟨y, y1, Or.inl ⟨c, Or.inl ⟨rfl, rfl⟩⟩⟩)
        · rw [e1, e2, s0, p1]
          exact lst_i (Or.inl ⟨y, y1, Or.inl ⟨c, Or.inr ⟨rfl, rfl⟩⟩⟩)
        · rw [e1, e2, p0, p1]
          exact lst_i (Or.inl ⟨y, y1, Or.inr ⟨c, Or.inl ⟨rfl, rfl⟩⟩⟩)
        · rw [e1, e2, s0, s1]
          exact lst_i (Or.inl ⟨y, y1, Or.inr ⟨c, Or.inr ⟨rfl, rfl⟩⟩⟩)
      · rcases List.mem_cons.mp z1 with ez | ez
        · rw [z2, z3, ez]
          show relX9 (rmv (rmv A r) r') sg nm n ps s (ψ (gV9 (prA9 A r))) (ψ (gV9 r'))
          by_cases c : prA9 A r = r'
          · rw [c]
            exact hX1.1 _
          · rw [ψ2, if_neg c, ψ1 _ qA qr c]
            exact hX1.1 _
        · obtain ⟨⟨d1, d2⟩, d3, d4⟩ := hpd z ez
          obtain ⟨t1, t2⟩ := zA z ez
          rw [z2, z3, ψp _ t1 d1 d2, ψ1 _ t2 d3 d4]
          exact lst_i (Or.inr ⟨z, ez, rfl, rfl⟩)
    have inv : ∀ g, gX9 (rmv (rmv A r) r') ps g → ψ (fmv9 A r' g) = g := fun g hg => by
      rcases hg with ⟨p, p1, p2, p3⟩ | ⟨i, i1, i2, i3⟩
      · obtain ⟨a1, a2, a3⟩ := rm_in.mp p1
        rw [p3, fp p p1, ψ1 p a1 a2 a3]
      · by_cases c : A[i]? = some []
        · have q : fmv9 A r' g = g := if_neg (fun h9 => (dcb_t.mp h9).2 (by rw [i3, show 1000 + i - 1000 = i by omega]; exact c))
          rw [q, ψ3 g (by omega)]
        · have q : fmv9 A r' g = gV9 r' := if_pos (dcb_t.mpr ⟨by omega, by rw [i3, show 1000 + i - 1000 = i by omega]; exact c⟩)
          -- the component is L
          have i2' := i2
          rw [rmv_ix] at i2
          cases h3 : A[i]? with
          | none =>
            rw [h3] at i2
            cases i2
          | some M =>
            rw [h3] at i2 c
            have i4 : (M.filter (fun q => decide (q ≠ r))).filter (fun q => decide (q ≠ r')) = [] := Option.some.inj i2
            have hM : M ∈ A := List.mem_of_getElem? h3
            cases M with
            | nil => exact absurd rfl c
            | cons t M =>
              have ht : t = r ∨ t = r' := by
                by_cases c1 : t = r
                · exact Or.inl c1
                · by_cases c2 : t = r'
                  · exact Or.inr c2
                  · have : t ∈ ((t :: M).filter (fun q => decide (q ≠ r))).filter (fun q => decide (q ≠ r')) := List.mem_filter.mpr ⟨List.mem_filter.mpr ⟨List.mem_cons_self, decide_eq_true c1⟩, decide_eq_true c2⟩
                    rw [i4] at this
                    exact absurd this List.not_mem_nil
              have eM : t :: M = L := by
                rcases ht with h9 | h9
                · exact same_L hn hL hM hr (by rw [← h9]; exact List.mem_cons_self)
                · exact same_L hn hL hM hr' (by rw [← h9]; exact List.mem_cons_self)
              have ii : i = i0 := by
                rw [eM] at h3
                -- the component stands at one place
                refine nd_ix hn h3 ei hr
              have c9 : prA9 A r = r' := by
                rw [eM] at i4
                by_cases c1 : prA9 A r = r'
                · exact c1
                · have : prA9 A r ∈ (L.filter (fun q => decide (q ≠ r))).filter (fun q => decide (q ≠ r')) := List.mem_filter.mpr ⟨List.mem_filter.mpr ⟨w1, decide_eq_true qr⟩, decide_eq_true c1⟩
                  rw [i4] at this
                  exact absurd this List.not_mem_nil
              rw [q, ψ2, if_pos c9, i3, ii]
    refine ⟨fun g h hg hh => ⟨fwd g h, fun h9 => ?_⟩, fun g hg => ?_, fun x hx => ?_⟩
    · have := bwd _ _ h9
      rw [inv g hg, inv h hh] at this
      exact this
    · rcases hg with ⟨p, p1, p2, p3⟩ | ⟨i, i1, i2, i3⟩
      · have pr : p ≠ r := p2 (r, r') List.mem_cons_self
        by_cases c : p = r'
        · by_cases c2 : prA9 A r = r'
          · have i2 : (rmv (rmv A r) r')[i0]? = some [] := by
              rw [rmv_ix, ei]
              exact congrArg some (all c2)
            refine ⟨1000 + i0, Or.inr ⟨i0, (List.getElem?_eq_some_iff.mp i2).1, i2, rfl⟩, ?_⟩
            have q : fmv9 A r' (1000 + i0) = gV9 r' := if_pos (dcb_t.mpr ⟨by omega, by
              rw [show 1000 + i0 - 1000 = i0 by omega, ei]
              intro h9
              rw [Option.some.inj h9] at hr
              exact absurd hr List.not_mem_nil⟩)
            rw [q, p3, c]
            exact hX.1 _
          · have m : prA9 A r ∈ (rmv (rmv A r) r').flatten := rm_in.mpr ⟨qA, qr, c2⟩
            refine ⟨gV9 (prA9 A r), Or.inl ⟨_, m, fun z hz h9 => ?_, rfl⟩, ?_⟩
            · obtain ⟨M, m1, m2, m3, -⟩ := hps z hz
              rw [← h9] at m2 m3
              have : M = L := same_L hn hL m1 w1 m2
              rw [this, w2] at m3
              exact (hpd z hz).2.1 m3.symm
            · rw [fp _ m, p3, c]
              exact hX.2.1 _ _ par
        · have m : p ∈ (rmv (rmv A r) r').flatten := rm_in.mpr ⟨p1, pr, c⟩
          refine ⟨gV9 p, Or.inl ⟨p, m, fun z hz => p2 z (List.mem_cons_of_mem _ hz), rfl⟩, ?_⟩
          rw [fp p m, p3]
          exact hX.1 _
      · have i4 : (rmv (rmv A r) r')[i]? = some [] := by
          rw [rmv_ix, i2]
          rfl
        refine ⟨g, Or.inr ⟨i, (List.getElem?_eq_some_iff.mp i4).1, i4, i3⟩, ?_⟩
        have q : fmv9 A r' g = g := if_neg (fun h9 => (dcb_t.mp h9).2 (by rw [i3, show 1000 + i - 1000 = i by omega]; exact i2))
        rw [q]
        exact hX.1 _
    · obtain ⟨o0, o1, o2⟩ := hnm x 0 hx (by omega)
      have m0 := nm1 x 0 hx (by omega)
      have l0 := hX.2.1 _ _ (L1 _ o0 o1 o2)
      rw [fp _ m0, fp _ (prA_in n1 m0)]
      exact ⟨hX.1 _, l0, l0⟩
/-- maps of gaps one behind the other -/
theorem ph_cmp {n : Nat} {G G' G'' : Nat → Prop} {P1 P2 P3 P1' P2' P3' P1'' P2'' P3'' : Nat → Nat} {rel rel' rel'' : (Nat → Bool) → Nat → Nat → Prop} {φ φ' : Nat → Nat} (hE : ∀ s, eqv9 (rel s)) (h1 : phi9 n G G' P1 P2 P3 P1' P2' P3' rel rel' φ) (h2 : phi9 n G' G'' P1' P2' P3' P1'' P2'' P3'' rel' rel'' φ') (hP : ∀ x, x < n → G' (P1' x) ∧ G' (P2' x) ∧ G' (P3' x)) (hP' : ∀ x, x < n → G'' (P1'' x) ∧ G'' (P2'' x) ∧ G'' (P3'' x)) : phi9 n G G'' P1 P2 P3 P1'' P2'' P3'' rel rel'' (fun g => φ (φ' g)) := by
  refine ⟨fun g hg => h1.1 _ (h2.1 g hg), fun s hs => ?_⟩
  obtain ⟨a1, a2, a3⟩ := h1.2 s hs
  obtain ⟨b1, b2, b3⟩ := h2.2 s hs
  refine ⟨fun g h hg hh => (b1 g h hg hh).trans (a1 _ _ (h2.1 g hg) (h2.1 h hh)), fun g hg => ?_, fun x hx => ?_⟩
  · obtain ⟨g', g1, g2⟩ := a2 g hg
    obtain ⟨g'', k1, k2⟩ := b2 g' g1
    exact ⟨g'', k1, (hE s).2.2 _ _ _ g2 ((a1 _ _ g1 (h2.1 _ k1)).mp k2)⟩
  · obtain ⟨p1, p2, p3⟩ := a3 x hx
    obtain ⟨q1, q2, q3⟩ := b3 x hx
    obtain ⟨g1, g2, g3⟩ := hP x hx
    obtain ⟨k1, k2, k3⟩ := hP' x hx
    exact ⟨(hE s).2.2 _ _ _ p1 ((a1 _ _ g1 (h2.1 _ k1)).mp q1), (hE s).2.2 _ _ _ p2 ((a1 _ _ g2 (h2.1 _ k2)).mp q2), (hE s).2.2 _ _ _ p3 ((a1 _ _ g3 (h2.1 _ k3)).mp q3)⟩
end XCHU
