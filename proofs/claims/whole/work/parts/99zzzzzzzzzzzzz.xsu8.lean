/-! a net of its own for a list -/
section XSU8
variable {A B E : rn_L} {sg sB sE : Nat → Bool} {f g h k : Nat → Nat} {T R : ow_NT}
/-- the crossings of a list -/
def crL (A : rn_L) : List Nat := (A.flatten.filter (fun p => decide (p.2 = 0))).map Prod.fst
theorem crL_m (hF : wkF A.flatten) {x u : Nat} (hx : (x, u) ∈ A.flatten) : x ∈ crL A := by
  unfold crL
  refine List.mem_map.mpr ⟨(x, 0), List.mem_filter.mpr ⟨?_, decide_eq_true rfl⟩, rfl⟩
  obtain ⟨h1, h2, h3⟩ := hF.2 _ hx
  have h2 : u < 2 := h2
  have h3 : (x, 1 - u) ∈ A.flatten := h3
  rcases (show u = 0 ∨ u = 1 by omega) with e | e
  · rw [e] at hx
    exact hx
  · rw [e] at h3
    exact h3
theorem crL_of {x : Nat} (h : x ∈ crL A) : (x, 0) ∈ A.flatten := by
  unfold crL at h
  obtain ⟨p, hp, e⟩ := List.mem_map.mp h
  obtain ⟨p1, p2⟩ := List.mem_filter.mp hp
  have p2 := of_decide_eq_true p2
  rw [← e, ← p2]
  exact p1
theorem crL_nd (hF : wkF A.flatten) : (crL A).Nodup := by
  unfold crL
  refine nodup_map (nodup_filter hF.1) (fun p q hp hq e => ?_)
  have p2 := of_decide_eq_true (List.mem_filter.mp hp).2
  have q2 := of_decide_eq_true (List.mem_filter.mp hq).2
  exact Prod.ext e (by rw [p2, q2])
theorem crL_len (hF : wkF A.flatten) : A.flatten.length = 2 * (crL A).length := by
  have e : ((crL A).map (fun x => (x, 0)) ++ (crL A).map (fun x => (x, 1))).length = A.flatten.length := by
    refine nodup_eq ?_ hF.1 (fun p => ?_)
    · refine List.nodup_append.mpr ⟨nodup_map (crL_nd hF) (fun a b _ _ e => (Prod.mk.inj e).1), nodup_map (crL_nd hF) (fun a b _ _ e => (Prod.mk.inj e).1), fun a ha b hb e => ?_⟩
      obtain ⟨x, _, e1⟩ := List.mem_map.mp ha
      obtain ⟨y, _, e2⟩ := List.mem_map.mp hb
      rw [← e1, ← e2] at e
      exact absurd (Prod.mk.inj e).2 (by decide)
    · rw [List.mem_append, List.mem_map, List.mem_map]
      constructor
      · rintro (⟨x, hx, e⟩ | ⟨x, hx, e⟩)
        · rw [← e]
          exact crL_of hx
        · rw [← e]
          exact (hF.2 _ (crL_of hx)).2.2
      · intro hp
        have hu : p.2 < 2 := (hF.2 p hp).2.1
        have hm : p.1 ∈ crL A := crL_m hF (u := p.2) hp
        rcases (show p.2 = 0 ∨ p.2 = 1 by omega) with e | e
        · exact Or.inl ⟨p.1, hm, Prod.ext rfl e.symm⟩
        · exact Or.inr ⟨p.1, hm, Prod.ext rfl e.symm⟩
  rw [List.length_append, List.length_map, List.length_map] at e
  omega
theorem net_of (hF : wkF A.flatten) (hl : A.flatten.length ≤ 24) (h6 : A.length ≤ 6) (sg : Nat → Bool) : ∃ f R, isoN A sg f R ∧ nv R := by
  have hlen := crL_len hF
  have ex : ∀ x, ∃ i, x ∈ crL A → (crL A)[i]? = some x := fun x => by
    by_cases hx : x ∈ crL A
    · obtain ⟨i, hi⟩ := List.getElem?_of_mem hx
      exact ⟨i, fun _ => hi⟩
    · exact ⟨0, fun h9 => absurd h9 hx⟩
  obtain ⟨f, hf⟩ := Classical.axiomOfChoice ex
  have inK : ∀ v, v < A.flatten.length → crs A v ∈ crL A := fun v hv => crL_m hF (u := uns A v) (vAt_mem hv)
  have flt : ∀ v, v < A.flatten.length → f (crs A v) < (crL A).length := fun v hv => (List.getElem?_eq_some_iff.mp (hf _ (inK v hv))).1
  have fin : ∀ v w, v < A.flatten.length → w < A.flatten.length → f (crs A v) = f (crs A w) → crs A v = crs A w := fun v w hv hw e => by
    have h1 := hf _ (inK v hv)
    have h2 := hf _ (inK w hw)
    rw [e, h2] at h1
    exact (Option.some.inj h1).symm
  have vin : ∀ v w, v < A.flatten.length → w < A.flatten.length → lbv A f v = lbv A f w → v = w := fun v w hv hw e => by
    have u1 := uns_lt hF hv
    have u2 := uns_lt hF hw
    unfold lbv at e
    have h6 : vAt A v = vAt A w := Prod.ext (fin v w hv hw (by omega)) (show uns A v = uns A w by omega)
    refine nodup_at hF.1 (vAt_of hv) ?_
    rw [h6]
    exact vAt_of hw
  have vlt : ∀ v, v < A.flatten.length → lbv A f v < 2 * (crL A).length := fun v hv => by
    have := uns_lt hF hv
    have := flt v hv
    unfold lbv
    omega
  have exN9 : ∀ j, ∃ b : Nat × Nat, b.1 < 24 ∧ b.2 < 24 ∧ ∀ v, v < A.flatten.length → lbv A f v = j → b = (lbv A f (rn_nx A v), lbv A f (rn_pv A v)) := fun j => by
    by_cases hj : ∃ v, v < A.flatten.length ∧ lbv A f v = j
    · obtain ⟨v, v1, v2⟩ := hj
      refine ⟨(lbv A f (rn_nx A v), lbv A f (rn_pv A v)), ?_, ?_, fun w w1 w2 => by rw [vin w v w1 v1 (w2.trans v2.symm)]⟩
      · have := vlt _ (rnx_lt v1)
        show lbv A f (rn_nx A v) < 24
        omega
      · have := vlt _ (rn_pv_lt v1)
        show lbv A f (rn_pv A v) < 24
        omega
    · exact ⟨(0, 0), by decide, by decide, fun v v1 v2 => absurd ⟨v, v1, v2⟩ hj⟩
  obtain ⟨N, hN⟩ := Classical.axiomOfChoice exN9
  have exG : ∀ i, ∃ b : Int32, ∀ v, v < A.flatten.length → f (crs A v) = i → (b < 0 ↔ sg (crs A v) = true) := fun i => by
    by_cases hj : ∃ v, v < A.flatten.length ∧ f (crs A v) = i
    · obtain ⟨v, v1, v2⟩ := hj
      refine ⟨if sg (crs A v) then -1 else 1, fun w w1 w2 => ?_⟩
      rw [fin w v w1 v1 (w2.trans v2.symm)]
      cases sg (crs A v) <;> decide
    · exact ⟨0, fun v v1 v2 => absurd ⟨v, v1, v2⟩ hj⟩
  obtain ⟨G, hG⟩ := Classical.axiomOfChoice exG
  let R : ow_NT := ((crL A).length, cirs A, (fun j => (N j).1, fun j => (N j).2), G)
  have hi : isoN A sg f R := ⟨hF, hlen, by show (crL A).length ≤ 12; omega, flt, fin, fun v hv => congrArg Prod.fst ((hN (lbv A f v)).2.2 v hv rfl), fun v hv => hG _ v hv rfl, rfl⟩
  have hv : vn R.1 R.2.2.1 := fun j hj => by
    obtain ⟨v, v1, v2⟩ := lbv_sur hi hj
    have e1 := (hN j).2.2 v v1 v2
    have a1 : R.2.2.1.1 j = lbv A f (rn_nx A v) := congrArg Prod.fst e1
    have a2 : R.2.2.1.2 j = lbv A f (rn_pv A v) := congrArg Prod.snd e1
    rw [a1, a2]
    refine ⟨vlt _ (rnx_lt v1), vlt _ (rn_pv_lt v1), ?_, ?_⟩
    · have := congrArg Prod.snd ((hN _).2.2 (rn_nx A v) (rnx_lt v1) rfl)
      rw [pv_nx v1, v2] at this
      exact this
    · have := congrArg Prod.fst ((hN _).2.2 (rn_pv A v) (rn_pv_lt v1) rfl)
      rw [nx_pv v1, v2] at this
      exact this
  refine ⟨f, R, hi, hv, by show (crL A).length ≤ 12; omega, ⟨fun j => (hN j).1, fun j => (hN j).2.1⟩, ?_⟩
  have := iso_rg hi
  omega
/-- what a part shows of a list, it shows of that list's code -/
theorem em_tr (hB : isoV B sB g T) (hE : isoV E sE h T) (hR : emN E sE k R) : ∃ g', emN B sB g' R ∧ ∀ p, p ∈ B.flatten → ∃ q, q ∈ E.flatten ∧ gl g' p = gl k q := by
  obtain ⟨R1, R2, R3, R4⟩ := em_to hR
  have ex : ∀ y, ∃ x, y < T.1 → ((x, 0) : vT) ∈ E.flatten ∧ ((x, 1) : vT) ∈ E.flatten ∧ h x = y := fun y => by
    by_cases hy : y < T.1
    · obtain ⟨x, x1, x2⟩ := iso_vis hE hy (u := 0) (by omega)
      obtain ⟨x', y1, y2⟩ := iso_vis hE hy (u := 1) (by omega)
      have := hE.1.2.2.2.2.1 _ _ x1 y1 (x2.trans y2.symm)
      have this : x = x' := this
      rw [← this] at y1
      exact ⟨x, fun _ => ⟨x1, y1, x2⟩⟩
    · exact ⟨0, fun h9 => absurd h9 hy⟩
  obtain ⟨τ, hτ⟩ := Classical.axiomOfChoice ex
  have hu : ∀ {p : vT}, p ∈ B.flatten → p.2 < 2 := fun {p} hp => (hB.1.1.2 p hp).2.1
  have huE : ∀ {p : vT}, p ∈ E.flatten → p.2 < 2 := fun {p} hp => (hE.1.1.2 p hp).2.1
  have tB : ∀ {p : vT}, p ∈ B.flatten → ((τ (g p.1), p.2) : vT) ∈ E.flatten ∧ h (τ (g p.1)) = g p.1 := fun {p} hp => by
    obtain ⟨a1, a2, a3⟩ := hτ (g p.1) (hB.1.2.2.2.1 p hp)
    refine ⟨?_, a3⟩
    have := hu hp
    rcases (show p.2 = 0 ∨ p.2 = 1 by omega) with e | e <;> rw [e]
    · exact a1
    · exact a2
  have tE : ∀ {q : vT}, q ∈ E.flatten → τ (h q.1) = q.1 := fun {q} hq => by
    obtain ⟨a1, a2, a3⟩ := hτ (h q.1) (hE.1.2.2.2.1 q hq)
    have := hE.1.2.2.2.2.1 _ _ a1 hq a3
    exact this
  refine ⟨fun x => k (τ (g x)), em_of hB.1.1 ?_ hR.2.2.1 (fun p hp => R1 _ (tB hp).1) (fun p q hp hq e => ?_) (fun L hL p hp => ?_) (fun p hp => ?_), fun p hp => ⟨_, (tB hp).1, rfl⟩⟩
  · have := hR.2.1
    rw [hB.1.2.1, ← hE.1.2.1]
    exact this
  · have e1 := R2 _ _ (tB hp).1 (tB hq).1 e
    have e1 : τ (g p.1) = τ (g q.1) := e1
    have e2 : g p.1 = g q.1 := by rw [← (tB hp).2, ← (tB hq).2, e1]
    exact hB.1.2.2.2.2.1 p q hp hq e2
  · have hpB : p ∈ B.flatten := List.mem_flatten.mpr ⟨L, hL, hp⟩
    have hsB : sc L p ∈ B.flatten := List.mem_flatten.mpr ⟨L, hL, sc_in hp (L_nd hB.1.1.1 hL)⟩
    obtain ⟨m1, m2⟩ := tB hpB
    obtain ⟨M, hM, hq⟩ := List.mem_flatten.mp m1
    have hsE : sc M (τ (g p.1), p.2) ∈ E.flatten := List.mem_flatten.mpr ⟨M, hM, sc_in hq (L_nd hE.1.1.1 hM)⟩
    have a1 := (hB.2 L hL p hp).1
    have a2 := (hE.2 M hM _ hq).1
    have a3 := R3 M hM _ hq
    have e0 : gl h (τ (g p.1), p.2) = gl g p := by
      show 2 * h (τ (g p.1)) + p.2 = 2 * g p.1 + p.2
      rw [m2]
    rw [e0, a1] at a2
    have a2 : 2 * g (sc L p).1 + (sc L p).2 = 2 * h (sc M (τ (g p.1), p.2)).1 + (sc M (τ (g p.1), p.2)).2 := a2
    have u1 := hu hsB
    have u2 := huE hsE
    have e1 : g (sc L p).1 = h (sc M (τ (g p.1), p.2)).1 := by omega
    have e2 : (sc L p).2 = (sc M (τ (g p.1), p.2)).2 := by omega
    show R.2.2.1.1 (gl k (τ (g p.1), p.2)) = 2 * k (τ (g (sc L p).1)) + (sc L p).2
    rw [a3, e1, tE hsE, e2]
    rfl
  · obtain ⟨m1, m2⟩ := tB hp
    have a1 := R4 _ m1
    have a2 := hE.1.2.2.2.2.2.2.1 _ m1
    have a3 := hB.1.2.2.2.2.2.2.1 p hp
    have a2 : T.2.2.2 (h (τ (g p.1))) < 0 ↔ sE (τ (g p.1)) = true := a2
    rw [m2] at a2
    exact a1.trans (a2.symm.trans a3)
end XSU8
