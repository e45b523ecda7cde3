/-! visits put into gaps: what is in the list then; a net for every list -/
def gpsC (A : rn_L) (c : Nat) : List Nat := (if rn_b A c = rn_b A (c + 1) then [A.flatten.length + c] else []) ++ List.range' (rn_b A c) (rn_b A (c + 1) - rn_b A c)
def gpsA (A : rn_L) (k : Nat) : List Nat := (List.range k).flatMap (gpsC A)
section XGP
variable {A : rn_L} {f : Nat → List vT}
theorem gps_1 {c i : Nat} : i ∈ gpsC A c ↔ (i = A.flatten.length + c ∧ rn_b A c = rn_b A (c + 1)) ∨ rn_b A c ≤ i ∧ i < rn_b A (c + 1) := by
  have m1 := rn_b_mono A c
  unfold gpsC
  rw [List.mem_append, List.mem_range'_1]
  constructor
  · rintro (h | h)
    · by_cases e : rn_b A c = rn_b A (c + 1)
      · rw [if_pos e] at h
        exact Or.inl ⟨List.mem_singleton.mp h, e⟩
      · rw [if_neg e] at h
        cases h
    · exact Or.inr (by omega)
  · rintro (⟨h1, h2⟩ | h)
    · rw [if_pos h2]
      exact Or.inl (List.mem_singleton.mpr h1)
    · exact Or.inr (by omega)
theorem rnb_mono2 {a b : Nat} (h : a ≤ b) : rn_b A a ≤ rn_b A b := by
  obtain ⟨d, rfl⟩ : ∃ d, b = a + d := ⟨b - a, by omega⟩
  clear h
  induction d with
  | zero => exact Nat.le_refl _
  | succ d ih => exact Nat.le_trans ih (rn_b_mono A (a + d))
theorem gps_mem {i : Nat} : i ∈ gpsA A A.length ↔ isG A i := by
  unfold gpsA isG
  rw [List.mem_flatMap]
  constructor
  · rintro ⟨c, hc, hi⟩
    have hc := List.mem_range.mp hc
    rcases gps_1.mp hi with ⟨h1, h2⟩ | ⟨h1, h2⟩
    · refine Or.inr ⟨by omega, by omega, ?_⟩
      rw [show i - A.flatten.length = c by omega]
      exact h2
    · have := rn_b_le A (c + 1)
      exact Or.inl (by omega)
  · rintro (h | ⟨h1, h2, h3⟩)
    · obtain ⟨q1, q2, q3⟩ := rn_c_in A i h
      exact ⟨rn_c A i, List.mem_range.mpr q1, gps_1.mpr (Or.inr ⟨by omega, by omega⟩)⟩
    · exact ⟨i - A.flatten.length, List.mem_range.mpr h2, gps_1.mpr (Or.inl ⟨by omega, h3⟩)⟩
theorem gps_nd : ∀ k, k ≤ A.length → (gpsA A k).Nodup
  | 0, _ => List.nodup_nil
  | k + 1, hk => by
    unfold gpsA
    rw [List.range_succ, List.flatMap_append, List.flatMap_cons, List.flatMap_nil, List.append_nil]
    refine List.nodup_append.mpr ⟨gps_nd k (by omega), ?_, fun a ha b hb e => ?_⟩
    · unfold gpsC
      refine List.nodup_append.mpr ⟨?_, List.nodup_range', fun a ha b hb e => ?_⟩
      · split
        · exact List.nodup_cons.mpr ⟨List.not_mem_nil, List.nodup_nil⟩
        · exact List.nodup_nil
      · have := rn_b_le A (k + 1)
        have := rn_b_mono A k
        rw [List.mem_range'_1] at hb
        by_cases e9 : rn_b A k = rn_b A (k + 1)
        · rw [if_pos e9] at ha
          have := List.mem_singleton.mp ha
          omega
        · rw [if_neg e9] at ha
          cases ha
    · obtain ⟨c, hc, ha⟩ := List.mem_flatMap.mp ha
      have hc := List.mem_range.mp hc
      have m := rnb_mono2 (A := A) (show c + 1 ≤ k by omega)
      have b1 := rn_b_le A (k + 1)
      have b2 := rn_b_le A (c + 1)
      rcases gps_1.mp ha with h1 | h1 <;> rcases gps_1.mp hb with h2 | h2 <;> omega
theorem fm_pc (Vs : List Nat) : (Vs.flatMap (fun v => vAt A v :: f v)).Perm (Vs.map (vAt A) ++ Vs.flatMap f) := by
  induction Vs with
  | nil => exact List.Perm.nil
  | cons v Vs ih =>
    rw [List.perm_iff_count] at ih ⊢
    intro a
    have := ih a
    simp only [List.flatMap_cons, List.map_cons, List.cons_append, List.count_append, List.count_cons] at this ⊢
    omega
theorem bld_pm : ∀ k, k ≤ A.length → ((List.range k).map (bldC A f)).flatten.Perm ((List.range (rn_b A k)).map (vAt A) ++ (gpsA A k).flatMap f)
  | 0, _ => by
    rw [rn_b0]
    exact List.Perm.nil
  | k + 1, hk => by
    have ih := bld_pm k (by omega)
    have h1 := fm_pc (A := A) (f := f) (List.range' (rn_b A k) (rn_b A (k + 1) - rn_b A k))
    have m1 := rn_b_mono A k
    have er : List.range (rn_b A (k + 1)) = List.range (rn_b A k) ++ List.range' (rn_b A k) (rn_b A (k + 1) - rn_b A k) := by
      rw [List.range_eq_range', List.range_eq_range']
      have := List.range'_append_1 (s := 0) (m := rn_b A k) (n := rn_b A (k + 1) - rn_b A k)
      rw [Nat.zero_add] at this
      rw [this]
      congr 1
      omega
    have eg : gpsA A (k + 1) = gpsA A k ++ gpsC A k := by
      unfold gpsA
      rw [List.range_succ, List.flatMap_append, List.flatMap_cons, List.flatMap_nil, List.append_nil]
    have ec : (gpsC A k).flatMap f = (if rn_b A k = rn_b A (k + 1) then f (A.flatten.length + k) else []) ++ (List.range' (rn_b A k) (rn_b A (k + 1) - rn_b A k)).flatMap f := by
      unfold gpsC
      rw [List.flatMap_append]
      congr 1
      split
      · rw [List.flatMap_cons, List.flatMap_nil, List.append_nil]
      · rfl
    rw [List.range_succ, List.map_append, List.flatten_append, er, eg, List.map_append, List.flatMap_append, ec]
    show (((List.range k).map (bldC A f)).flatten ++ (bldC A f k ++ [])).Perm _
    have eb : bldC A f k = (if rn_b A k = rn_b A (k + 1) then f (A.flatten.length + k) else []) ++ (List.range' (rn_b A k) (rn_b A (k + 1) - rn_b A k)).flatMap (fun v => vAt A v :: f v) := rfl
    rw [List.append_nil, eb]
    rw [List.perm_iff_count] at ih h1 ⊢
    intro a
    have i1 := ih a
    have i2 := h1 a
    simp only [List.count_append] at i1 i2 ⊢
    omega
theorem fm_one {g : Nat} {P : List vT} : ∀ {Gs : List Nat}, Gs.Nodup → Gs.flatMap (fun gp => if gp = g then P else []) = if g ∈ Gs then P else []
  | [], _ => rfl
  | a :: Gs, h => by
    obtain ⟨h1, h2⟩ := List.nodup_cons.mp h
    rw [List.flatMap_cons, fm_one h2]
    by_cases e : a = g
    · rw [if_pos e, if_neg (by rw [← e]; exact h1), if_pos (by rw [e]; exact List.mem_cons_self), List.append_nil]
    · rw [if_neg e, List.nil_append]
      by_cases e2 : g ∈ Gs
      · rw [if_pos e2, if_pos (List.mem_cons_of_mem _ e2)]
      · rw [if_neg e2, if_neg (fun h9 => (List.mem_cons.mp h9).elim (fun h8 => e h8.symm) e2)]
theorem fm_ap {Gs : List Nat} {a b : Nat → List vT} : (Gs.flatMap (fun g => a g ++ b g)).Perm (Gs.flatMap a ++ Gs.flatMap b) := by
  induction Gs with
  | nil => exact List.Perm.nil
  | cons g Gs ih =>
    rw [List.perm_iff_count] at ih ⊢
    intro x
    have := ih x
    simp only [List.flatMap_cons, List.count_append] at this ⊢
    omega
theorem vAt_all (A : rn_L) : (List.range A.flatten.length).map (vAt A) = A.flatten := by
  refine List.ext_getElem (by rw [List.length_map, List.length_range]) (fun i h1 h2 => ?_)
  rw [List.getElem_map, List.getElem_range]
  exact vAt_eq (List.getElem?_eq_getElem h2)
/-- what is in the list when visits have come into the gaps g and h -/
theorem bld_perm {g h : Nat} {P0 P1 : List vT} (hg : isG A g) : (bldA A (insG g h P0 P1)).flatten.Perm (A.flatten ++ (P0 ++ if h ∈ gpsA A A.length then P1 else [])) := by
  have h1 := bld_pm (A := A) (f := insG g h P0 P1) A.length (Nat.le_refl _)
  rw [rn_b_len, vAt_all] at h1
  refine h1.trans (List.Perm.append_left _ ?_)
  refine (fm_ap (a := fun gp => if gp = g then P0 else []) (b := fun gp => if gp = h then P1 else [])).trans ?_
  rw [fm_one (gps_nd _ (Nat.le_refl _)), fm_one (gps_nd _ (Nat.le_refl _)), if_pos (gps_mem.mpr hg)]
theorem okF_pm {F F' : List vT} {c : Nat} (h : F.Perm F') (ho : okF F' c) : okF F c := ⟨h.nodup_iff.mpr ho.1, fun p => by rw [h.mem_iff]; exact ho.2 p⟩
theorem bldA_cg {f f' : Nat → List vT} (h : ∀ gp, gp < A.flatten.length + A.length → f gp = f' gp) : bldA A f = bldA A f' := by
  unfold bldA
  refine List.map_congr_left (fun c hc => ?_)
  have hc := List.mem_range.mp hc
  have b1 := rn_b_le A (c + 1)
  have m1 := rn_b_mono A c
  unfold bldC
  rw [h _ (by omega)]
  congr 1
  rw [List.flatMap_eq_foldl, List.flatMap_eq_foldl]
  have key : ∀ (Vs : List Nat), (∀ v, v ∈ Vs → v < A.flatten.length) → Vs.flatMap (fun v => vAt A v :: f v) = Vs.flatMap (fun v => vAt A v :: f' v) := by
    intro Vs
    induction Vs with
    | nil => intro _; rfl
    | cons v Vs ih =>
      intro hv
      rw [List.flatMap_cons, List.flatMap_cons, h v (by have := hv v List.mem_cons_self; omega), ih (fun w hw => hv w (List.mem_cons_of_mem _ hw))]
  rw [← List.flatMap_eq_foldl, ← List.flatMap_eq_foldl]
  exact key _ (fun v hv => by
    rw [List.mem_range'_1] at hv
    omega)
end XGP
/-- the component of a visit -/
def cmpO (A : rn_L) (p : vT) : List vT := (A.find? (fun L => decide (p ∈ L))).getD []
theorem cmpO_of {A : rn_L} {L : List vT} {p : vT} (hn : A.flatten.Nodup) (hL : L ∈ A) (hp : p ∈ L) : cmpO A p = L := by
  unfold cmpO
  cases e : A.find? (fun L => decide (p ∈ L)) with
  | none =>
    have := List.find?_eq_none.mp e L hL
    rw [decide_eq_true hp] at this
    exact absurd rfl this
  | some M =>
    have h1 := List.find?_some e
    have h2 := List.mem_of_find?_eq_some e
    have h3 : p ∈ M := of_decide_eq_true h1
    show M = L
    rw [List.nodup_iff_pairwise_ne, List.pairwise_flatten] at hn
    apply Classical.byContradiction
    intro hne
    obtain ⟨i, hi, ei⟩ := List.getElem_of_mem h2
    obtain ⟨j, hj, ej⟩ := List.getElem_of_mem hL
    have pw := List.pairwise_iff_getElem.mp hn.2
    rcases Nat.lt_trichotomy i j with q | q | q
    · exact pw i j hi hj q p (by rw [ei]; exact h3) p (by rw [ej]; exact hp) rfl
    · subst q
      exact hne (ei.symm.trans ej)
    · exact pw j i hj hi q p (by rw [ej]; exact hp) p (by rw [ei]; exact h3) rfl
/-- a net that shows a list -/
def netO (A : rn_L) (sg : Nat → Bool) (c : Nat) : ow_NT := (c, cirs A, (fun v => lb (sc (cmpO A (kp v)) (kp v)), fun v => lb (sc (cmpO A (kp v)).reverse (kp v))), fun x => if sg x = true then -1 else 1)
theorem netO_ok {A : rn_L} {sg : Nat → Bool} {c : Nat} (ho : okF A.flatten c) (hc : c ≤ 12) : isoN A sg (fun x => x) (netO A sg c) ∧ vn c (netO A sg c).2.2.1 ∧ pm1 (netO A sg c) := by
  have inL : ∀ v, v < 2 * c → ∃ L, L ∈ A ∧ kp v ∈ L ∧ cmpO A (kp v) = L := fun v hv => by
    have : kp v ∈ A.flatten := (ho.2 _).mpr ⟨by show v / 2 < c; omega, by show v % 2 < 2; omega⟩
    obtain ⟨L, h1, h2⟩ := List.mem_flatten.mp this
    exact ⟨L, h1, h2, cmpO_of ho.1 h1 h2⟩
  have low : ∀ L p, L ∈ A → p ∈ L → p.1 < c ∧ p.2 < 2 := fun L p h1 h2 => (ho.2 p).mp (List.mem_flatten.mpr ⟨L, h1, h2⟩)
  have hl2 : ∀ L p, L ∈ A → p ∈ L → lb p < 2 * c := fun L p h1 h2 => by
    have := low L p h1 h2
    unfold lb
    omega
  refine ⟨isoS_iff.mp ⟨okF_wk (by omega) ho, okF_len ho, hc, fun p hp => ((ho.2 p).mp hp).1, fun p q _ _ e => e, fun L hL p hp => ?_, fun p hp => ?_, rfl⟩, fun v hv => ?_, fun x hx => ?_⟩
  · show lb (sc (cmpO A (kp (lb p))) (kp (lb p))) = lb (sc L p)
    rw [kp_lb2 (low L p hL hp).2, cmpO_of ho.1 hL hp]
  · show (if sg p.1 = true then (-1 : Int32) else 1) < 0 ↔ sg p.1 = true
    cases sg p.1 <;> decide
  · obtain ⟨L, h1, h2, h3⟩ := inL v hv
    have nL := L_nd ho.1 h1
    have s1 := sc_in h2 nL
    have nR : L.reverse.Nodup := (List.reverse_perm L).nodup_iff.mpr nL
    have s2 : sc L.reverse (kp v) ∈ L := List.mem_reverse.mp (sc_in (List.mem_reverse.mpr h2) nR)
    show lb (sc (cmpO A (kp v)) (kp v)) < 2 * c ∧ lb (sc (cmpO A (kp v)).reverse (kp v)) < 2 * c ∧ lb (sc (cmpO A (kp (lb (sc (cmpO A (kp v)) (kp v))))).reverse (kp (lb (sc (cmpO A (kp v)) (kp v))))) = v ∧ lb (sc (cmpO A (kp (lb (sc (cmpO A (kp v)).reverse (kp v))))) (kp (lb (sc (cmpO A (kp v)).reverse (kp v))))) = v
    rw [h3, kp_lb2 (low L _ h1 s1).2, kp_lb2 (low L _ h1 s2).2, cmpO_of ho.1 h1 s1, cmpO_of ho.1 h1 s2, sc_rev nL h2, sc_rv nL h2, kp_lb]
    exact ⟨hl2 L _ h1 s1, hl2 L _ h1 s2, rfl, rfl⟩
  · show (if sg x = true then (-1 : Int32) else 1) = 1 ∨ (if sg x = true then (-1 : Int32) else 1) = -1
    cases sg x
    · exact Or.inl rfl
    · exact Or.inr rfl
/-- plane, of a list -/
theorem pln_net {A : rn_L} {sg : Nat → Bool} {c : Nat} (ho : okF A.flatten c) (hc : c ≤ 12) : plnA A sg ↔ nt_plane (netO A sg c) = true := by
  obtain ⟨h1, h2, h3⟩ := netO_ok (sg := sg) ho hc
  exact ⟨fun h => h _ _ (isoV_of h1 h2) h3, fun h => plnA_of (isoV_of h1 h2) h3 h⟩
