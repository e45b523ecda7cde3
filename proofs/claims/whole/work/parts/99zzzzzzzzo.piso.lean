/-! plane nets: taken over to nets alike, to parts and to nets side by side -/
def dM (ψ : Nat → Nat) (d : Nat) : Nat := 2 * ψ (d / 2) + d % 2
theorem dM_h (ψ : Nat → Nat) (d : Nat) : dM ψ d / 2 = ψ (d / 2) ∧ dM ψ d % 2 = d % 2 := by
  unfold dM
  omega
/-- a net within a net -/
def pn_hm (S : ow_NP) (b : Nat → Bool) (c' : Nat) (S' : ow_NP) (b' : Nat → Bool) (c : Nat) (ψ : Nat → Nat) : Prop := ∀ v, v < 2 * c' → ψ v < 2 * c ∧ S.1 (ψ v) = ψ (S'.1 v) ∧ mt (ψ v) = ψ (mt v) ∧ b (ψ v) = b' v
section HM
variable {c c' : Nat} {S S' : ow_NP} {b b' : Nat → Bool} {ψ : Nat → Nat}
theorem hm_al (hv : vn c S) (hv' : vn c' S') (h : pn_hm S b c' S' b' c ψ) {d : Nat} (hd : d < 4 * c') : pn_al S (dM ψ d) = dM ψ (pn_al S' d) := by
  obtain ⟨m1, m2⟩ := dM_h ψ d
  obtain ⟨h1, h2, h3, h4⟩ := hv' (d / 2) (by omega)
  unfold pn_al
  rw [m1, m2]
  by_cases e : d % 2 = 0
  · rw [if_pos e, if_pos e, (h (d / 2) (by omega)).2.1]
    unfold dM
    rw [show (2 * S'.1 (d / 2) + 1) / 2 = S'.1 (d / 2) by omega]
    omega
  · rw [if_neg e, if_neg e]
    have q := h _ h2
    have q2 := (hv _ q.1).2.2.1
    rw [q.2.1, h4] at q2
    rw [q2]
    unfold dM
    rw [show 2 * S'.2 (d / 2) / 2 = S'.2 (d / 2) by omega]
    omega
theorem hm_rt (h : pn_hm S b c' S' b' c ψ) {d : Nat} (hd : d < 4 * c') : pn_rt b (dM ψ d) = dM ψ (pn_rt b' d) := by
  obtain ⟨m1, m2⟩ := dM_h ψ d
  obtain ⟨-, -, h3, h4⟩ := h (d / 2) (by omega)
  unfold pn_rt
  rw [m1, m2, h3, h4]
  split
  · unfold dM
    rw [show 2 * mt (d / 2) / 2 = mt (d / 2) by omega]
    omega
  · unfold dM
    rw [show (2 * mt (d / 2) + 1) / 2 = mt (d / 2) by omega]
    omega
theorem hm_ph (hv : vn c S) (hv' : vn c' S') (h : pn_hm S b c' S' b' c ψ) {d : Nat} (hd : d < 4 * c') : pn_ph S b (dM ψ d) = dM ψ (pn_ph S' b' d) := by
  unfold pn_ph
  rw [hm_al hv hv' h hd, hm_rt h (pn_al_lt hv' hd)]
theorem hm_rch (hv' : vn c' S') (h : pn_hm S b c' S' b' c ψ) {r v : Nat} (hr : r < 2 * c') (hrv : rch c' S' r v) : rch c S (ψ r) (ψ v) := by
  refine (hrv (fun v => v < 2 * c' ∧ rch c S (ψ r) (ψ v)) ⟨hr, rch_rf _ _ _⟩ (fun j hj hp => ⟨(hv' j hj).1, ?_⟩) (fun j hj hp => ⟨mt_lt hj, ?_⟩)).2
  · rw [← (h j hj).2.1]
    exact rch_n hp.2 (h j hj).1
  · rw [← (h j hj).2.2.1]
    exact rch_m hp.2 (h j hj).1
/-- what is reached from within stays within -/
theorem hm_back (hv' : vn c' S') (h : pn_hm S b c' S' b' c ψ) {v w : Nat} (hvl : v < 2 * c') (hr : rch c S (ψ v) w) : ∃ u, u < 2 * c' ∧ w = ψ u ∧ rch c' S' v u := by
  refine hr (fun w => ∃ u, u < 2 * c' ∧ w = ψ u ∧ rch c' S' v u) ⟨v, hvl, rfl, rch_rf _ _ _⟩ (fun j hj hp => ?_) (fun j hj hp => ?_)
  · obtain ⟨u, u1, u2, u3⟩ := hp
    exact ⟨_, (hv' u u1).1, by rw [u2, (h u u1).2.1], rch_n u3 u1⟩
  · obtain ⟨u, u1, u2, u3⟩ := hp
    exact ⟨_, mt_lt u1, by rw [u2, (h u u1).2.2.1], rch_m u3 u1⟩
end HM
theorem full_mem {n : Nat} {L : List Nat} (hn : L.Nodup) (hl : L.length = n) (hb : ∀ x, x ∈ L → x < n) {k : Nat} (hk : k < n) : k ∈ L := by
  refine Classical.byContradiction (fun h => ?_)
  have := nodup_le (k :: L) (List.range n) (List.nodup_cons.mpr ⟨h, hn⟩) (fun a ha => by
    rcases List.mem_cons.mp ha with e | e
    · rw [e]; exact List.mem_range.mpr hk
    · exact List.mem_range.mpr (hb a e))
  rw [List.length_cons, List.length_range, hl] at this
  omega
section UN
variable {c cA cB : Nat} {S SA SB : ow_NP} {b bA bB : Nat → Bool} {ψA ψB : Nat → Nat}
def pn_un (c cA cB : Nat) (ψA ψB : Nat → Nat) : Prop := c = cA + cB ∧ (∀ u v, u < 2 * cA → v < 2 * cA → ψA u = ψA v → u = v) ∧ (∀ u v, u < 2 * cB → v < 2 * cB → ψB u = ψB v → u = v) ∧ ∀ u v, u < 2 * cA → v < 2 * cB → ψA u ≠ ψB v
theorem un_cov (hu : pn_un c cA cB ψA ψB) (hA : ∀ v, v < 2 * cA → ψA v < 2 * c) (hB : ∀ v, v < 2 * cB → ψB v < 2 * c) {v : Nat} (hv : v < 2 * c) : (∃ u, u < 2 * cA ∧ ψA u = v) ∨ ∃ u, u < 2 * cB ∧ ψB u = v := by
  obtain ⟨u1, u2, u3, u4⟩ := hu
  have := full_mem (n := 2 * c) (L := (List.range (2 * cA)).map ψA ++ (List.range (2 * cB)).map ψB) (List.nodup_append.mpr ⟨nodup_map List.nodup_range (fun x y hx hy e => u2 x y (List.mem_range.mp hx) (List.mem_range.mp hy) e), nodup_map List.nodup_range (fun x y hx hy e => u3 x y (List.mem_range.mp hx) (List.mem_range.mp hy) e), fun x hx y hy e => by
    obtain ⟨p, p1, p2⟩ := List.mem_map.mp hx
    obtain ⟨q, q1, q2⟩ := List.mem_map.mp hy
    exact u4 p q (List.mem_range.mp p1) (List.mem_range.mp q1) (by rw [p2, q2, e])⟩) (by
    rw [List.length_append, List.length_map, List.length_map, List.length_range, List.length_range]
    omega) (fun x hx => by
    rcases List.mem_append.mp hx with h | h
    · obtain ⟨p, p1, p2⟩ := List.mem_map.mp h
      rw [← p2]
      exact hA p (List.mem_range.mp p1)
    · obtain ⟨p, p1, p2⟩ := List.mem_map.mp h
      rw [← p2]
      exact hB p (List.mem_range.mp p1)) hv
  rcases List.mem_append.mp this with h | h
  · obtain ⟨p, p1, p2⟩ := List.mem_map.mp h
    exact Or.inl ⟨p, List.mem_range.mp p1, p2⟩
  · obtain ⟨p, p1, p2⟩ := List.mem_map.mp h
    exact Or.inr ⟨p, List.mem_range.mp p1, p2⟩
/-- of a plane net each part of it is plane -/
theorem un_sub (hv : vn c S) (hvA : vn cA SA) (hvB : vn cB SB) (hbB : pn_fl bB) (hA : pn_hm S b cA SA bA c ψA) (hB : pn_hm S b cB SB bB c ψB) (hu : pn_un c cA cB ψA ψB) (hp : pn_pl c S b) : pn_pl cA SA bA := by
  obtain ⟨R, hR, f, X, f1, f2, f3, f4⟩ := hp
  have cov := fun {v : Nat} (h : v < 2 * c) => un_cov hu (fun v h => (hA v h).1) (fun v h => (hB v h).1) h
  obtain ⟨u1, u2, u3, u4⟩ := hu
  have hxA : ∀ v, ∃ u, (∃ u, u < 2 * cA ∧ ψA u = v) → u < 2 * cA ∧ ψA u = v := fun v => by
    by_cases h : ∃ u, u < 2 * cA ∧ ψA u = v
    · obtain ⟨u, hu⟩ := h
      exact ⟨u, fun _ => hu⟩
    · exact ⟨0, fun h9 => absurd h9 h⟩
  have hxB : ∀ v, ∃ u, (∃ u, u < 2 * cB ∧ ψB u = v) → u < 2 * cB ∧ ψB u = v := fun v => by
    by_cases h : ∃ u, u < 2 * cB ∧ ψB u = v
    · obtain ⟨u, hu⟩ := h
      exact ⟨u, fun _ => hu⟩
    · exact ⟨0, fun h9 => absurd h9 h⟩
  obtain ⟨χA, hxA⟩ := Classical.skolem.mp hxA
  obtain ⟨χB, hxB⟩ := Classical.skolem.mp hxB
  have xA : ∀ u, u < 2 * cA → χA (ψA u) = u := fun u hu => by
    obtain ⟨q1, q2⟩ := hxA (ψA u) ⟨u, hu, rfl⟩
    exact u2 _ _ q1 hu q2
  have xB : ∀ u, u < 2 * cB → χB (ψB u) = u := fun u hu => by
    obtain ⟨q1, q2⟩ := hxB (ψB u) ⟨u, hu, rfl⟩
    exact u3 _ _ q1 hu q2
  let inA : Nat → Bool := fun v => decide (v ∈ (List.range (2 * cA)).map ψA)
  have inA_t : ∀ v, inA v = true ↔ ∃ u, u < 2 * cA ∧ ψA u = v := fun v => by
    show decide _ = true ↔ _
    rw [decide_eq_true_iff, List.mem_map]
    exact ⟨fun ⟨u, h1, h2⟩ => ⟨u, List.mem_range.mp h1, h2⟩, fun ⟨u, h1, h2⟩ => ⟨u, List.mem_range.mpr h1, h2⟩⟩
  have notA : ∀ v, v < 2 * c → (!inA v) = true → ∃ u, u < 2 * cB ∧ ψB u = v := fun v hvl h => by
    rcases cov hvl with h9 | h9
    · rw [(inA_t v).mpr h9] at h
      cases h
    · exact h9
  -- parts
  have RA : pn_P cA SA ((R.filter inA).map χA) := by
    intro v hvl
    obtain ⟨r, r1, r2, r3⟩ := hR (ψA v) (hA v hvl).1
    obtain ⟨u, w1, w2, w3⟩ := hm_back hvA hA hvl (rch_sy hv r2 r3)
    refine ⟨u, List.mem_map.mpr ⟨r, List.mem_filter.mpr ⟨r1, (inA_t r).mpr ⟨u, w1, w2.symm⟩⟩, by rw [w2, xA u w1]⟩, w1, rch_sy hvA hvl w3⟩
  have RB : pn_P cB SB ((R.filter (fun r => !inA r)).map χB) := by
    intro v hvl
    obtain ⟨r, r1, r2, r3⟩ := hR (ψB v) (hB v hvl).1
    obtain ⟨u, w1, w2, w3⟩ := hm_back hvB hB hvl (rch_sy hv r2 r3)
    have hn : inA r = false := by
      cases e : inA r with
      | false => rfl
      | true =>
        obtain ⟨q, q1, q2⟩ := (inA_t r).mp e
        exact absurd (q2.trans w2) (u4 q u q1 w1)
    refine ⟨u, List.mem_map.mpr ⟨r, List.mem_filter.mpr ⟨r1, by rw [hn]; rfl⟩, by rw [w2, xB u w1]⟩, w1, rch_sy hvB hvl w3⟩
  -- faces
  have FA : ∀ d, d < 4 * cA → f (dM ψA (pn_ph SA bA d)) = f (dM ψA d) := fun d hd => by
    rw [← hm_ph hv hvA hA hd]
    have := (hA (d / 2) (by omega)).1
    exact f1 _ (by unfold dM; omega)
  have FB : ∀ d, d < 4 * cB → f (dM ψB (pn_ph SB bB d)) = f (dM ψB d) := fun d hd => by
    rw [← hm_ph hv hvB hB hd]
    have := (hB (d / 2) (by omega)).1
    exact f1 _ (by unfold dM; omega)
  have backA : ∀ x, x < 4 * c → inA (x / 2) = true → dM ψA (dM χA x) = x ∧ dM χA x < 4 * cA := fun x hx h => by
    obtain ⟨q1, q2⟩ := hxA _ ((inA_t _).mp h)
    obtain ⟨m1, m2⟩ := dM_h χA x
    refine ⟨?_, by omega⟩
    unfold dM
    rw [show (2 * χA (x / 2) + x % 2) / 2 = χA (x / 2) by omega, q2]
    omega
  have backB : ∀ x, x < 4 * c → (!inA (x / 2)) = true → dM ψB (dM χB x) = x ∧ dM χB x < 4 * cB := fun x hx h => by
    obtain ⟨q1, q2⟩ := hxB _ (notA _ (by omega) h)
    obtain ⟨m1, m2⟩ := dM_h χB x
    refine ⟨?_, by omega⟩
    unfold dM
    rw [show (2 * χB (x / 2) + x % 2) / 2 = χB (x / 2) by omega, q2]
    omega
  have hsX := filt_sum (fun x => inA (x / 2)) X
  have hsR := filt_sum inA R
  have bnd := pn_eul hvB hbB RB (k := (X.filter (fun x => !inA (x / 2))).length) ⟨fun d => f (dM ψB d), (X.filter (fun x => !inA (x / 2))).map (dM χB), FB, fun x hx => by
    obtain ⟨q, q1, q2⟩ := List.mem_map.mp hx
    rw [← q2]
    exact (backB q (f2 q (List.mem_filter.mp q1).1) (List.mem_filter.mp q1).2).2, by
    have e1 : ((X.filter (fun x => !inA (x / 2))).map (dM χB)).map (fun d => f (dM ψB d)) = (X.filter (fun x => !inA (x / 2))).map f := by
      rw [List.map_map]
      refine List.map_congr_left (fun q hq => ?_)
      show f (dM ψB (dM χB q)) = f q
      rw [(backB q (f2 q (List.mem_filter.mp hq).1) (List.mem_filter.mp hq).2).1]
    unfold pm_dv
    rw [e1]
    exact pm_fil _ f3, by rw [List.length_map]; exact Nat.le_refl _⟩
  refine ⟨_, RA, fun d => f (dM ψA d), (X.filter (fun x => inA (x / 2))).map (dM χA), FA, fun x hx => ?_, ?_, ?_⟩
  · obtain ⟨q, q1, q2⟩ := List.mem_map.mp hx
    rw [← q2]
    exact (backA q (f2 q (List.mem_filter.mp q1).1) (List.mem_filter.mp q1).2).2
  · have e1 : ((X.filter (fun x => inA (x / 2))).map (dM χA)).map (fun d => f (dM ψA d)) = (X.filter (fun x => inA (x / 2))).map f := by
      rw [List.map_map]
      refine List.map_congr_left (fun q hq => ?_)
      show f (dM ψA (dM χA q)) = f q
      rw [(backA q (f2 q (List.mem_filter.mp hq).1) (List.mem_filter.mp hq).2).1]
    unfold pm_dv
    rw [e1]
    exact pm_fil _ f3
  · rw [List.length_map] at bnd
    rw [List.length_map, List.length_map]
    omega
/-- plane nets side by side are plane -/
theorem un_sup (hv : vn c S) (hvA : vn cA SA) (hvB : vn cB SB) (hA : pn_hm S b cA SA bA c ψA) (hB : pn_hm S b cB SB bB c ψB) (hu : pn_un c cA cB ψA ψB) (hpA : pn_pl cA SA bA) (hpB : pn_pl cB SB bB) : pn_pl c S b := by
  obtain ⟨RA, hRA, fA, XA, a1, a2, a3, a4⟩ := hpA
  obtain ⟨RB, hRB, fB, XB, e1, e2, e3, e4⟩ := hpB
  have cov := fun {v : Nat} (h : v < 2 * c) => un_cov hu (fun v h => (hA v h).1) (fun v h => (hB v h).1) h
  obtain ⟨u1, u2, u3, u4⟩ := hu
  have hlab : ∀ d, ∃ y, (∀ x, x < 4 * cA → dM ψA x = d → y = 2 * fA x) ∧ ∀ x, x < 4 * cB → dM ψB x = d → y = 2 * fB x + 1 := fun d => by
    have injA : ∀ x x', x < 4 * cA → x' < 4 * cA → dM ψA x = dM ψA x' → x = x' := fun x x' h h' e => by
      obtain ⟨m1, m2⟩ := dM_h ψA x
      obtain ⟨n1, n2⟩ := dM_h ψA x'
      rw [e] at m1 m2
      have := u2 _ _ (by omega) (by omega) (m1.symm.trans n1)
      omega
    have injB : ∀ x x', x < 4 * cB → x' < 4 * cB → dM ψB x = dM ψB x' → x = x' := fun x x' h h' e => by
      obtain ⟨m1, m2⟩ := dM_h ψB x
      obtain ⟨n1, n2⟩ := dM_h ψB x'
      rw [e] at m1 m2
      have := u3 _ _ (by omega) (by omega) (m1.symm.trans n1)
      omega
    have dis : ∀ x x', x < 4 * cA → x' < 4 * cB → dM ψA x ≠ dM ψB x' := fun x x' h h' e => by
      obtain ⟨m1, m2⟩ := dM_h ψA x
      obtain ⟨n1, n2⟩ := dM_h ψB x'
      rw [e] at m1
      exact u4 _ _ (by omega) (by omega) (m1.symm.trans n1)
    by_cases h : ∃ x, x < 4 * cA ∧ dM ψA x = d
    · obtain ⟨x, x1, x2⟩ := h
      exact ⟨2 * fA x, fun x' h1 h2 => by rw [injA x x' x1 h1 (x2.trans h2.symm)], fun x' h1 h2 => absurd (x2.trans h2.symm) (dis x x' x1 h1)⟩
    · by_cases h2 : ∃ x, x < 4 * cB ∧ dM ψB x = d
      · obtain ⟨x, x1, x2⟩ := h2
        exact ⟨2 * fB x + 1, fun x' h1 h3 => absurd ⟨x', h1, h3⟩ h, fun x' h1 h3 => by rw [injB x x' x1 h1 (x2.trans h3.symm)]⟩
      · exact ⟨0, fun x' h1 h3 => absurd ⟨x', h1, h3⟩ h, fun x' h1 h3 => absurd ⟨x', h1, h3⟩ h2⟩
  obtain ⟨f, hf⟩ := Classical.skolem.mp hlab
  have fa : ∀ x, x < 4 * cA → f (dM ψA x) = 2 * fA x := fun x hx => (hf _).1 x hx rfl
  have fb : ∀ x, x < 4 * cB → f (dM ψB x) = 2 * fB x + 1 := fun x hx => (hf _).2 x hx rfl
  have dcov : ∀ d, d < 4 * c → (∃ x, x < 4 * cA ∧ dM ψA x = d) ∨ ∃ x, x < 4 * cB ∧ dM ψB x = d := fun d hd => by
    rcases cov (show d / 2 < 2 * c by omega) with ⟨u, h1, h2⟩ | ⟨u, h1, h2⟩
    · refine Or.inl ⟨2 * u + d % 2, by omega, ?_⟩
      unfold dM
      rw [show (2 * u + d % 2) / 2 = u by omega, h2]
      omega
    · refine Or.inr ⟨2 * u + d % 2, by omega, ?_⟩
      unfold dM
      rw [show (2 * u + d % 2) / 2 = u by omega, h2]
      omega
  refine ⟨RA.map ψA ++ RB.map ψB, fun v hvl => ?_, f, XA.map (dM ψA) ++ XB.map (dM ψB), fun d hd => ?_, fun x hx => ?_, ?_, ?_⟩
  · rcases cov hvl with ⟨u, h1, h2⟩ | ⟨u, h1, h2⟩
    · obtain ⟨r, r1, r2, r3⟩ := hRA u h1
      refine ⟨ψA r, List.mem_append_left _ (List.mem_map.mpr ⟨r, r1, rfl⟩), (hA r r2).1, ?_⟩
      rw [← h2]
      exact hm_rch hvA hA r2 r3
    · obtain ⟨r, r1, r2, r3⟩ := hRB u h1
      refine ⟨ψB r, List.mem_append_right _ (List.mem_map.mpr ⟨r, r1, rfl⟩), (hB r r2).1, ?_⟩
      rw [← h2]
      exact hm_rch hvB hB r2 r3
  · rcases dcov d hd with ⟨x, x1, x2⟩ | ⟨x, x1, x2⟩
    · rw [← x2, hm_ph hv hvA hA x1, fa _ (pn_ph_lt hvA x1), fa x x1, a1 x x1]
    · rw [← x2, hm_ph hv hvB hB x1, fb _ (pn_ph_lt hvB x1), fb x x1, e1 x x1]
  · rcases List.mem_append.mp hx with h | h
    · obtain ⟨q, q1, q2⟩ := List.mem_map.mp h
      have := (hA (q / 2) (by have := a2 q q1; omega)).1
      obtain ⟨m1, m2⟩ := dM_h ψA q
      omega
    · obtain ⟨q, q1, q2⟩ := List.mem_map.mp h
      have := (hB (q / 2) (by have := e2 q q1; omega)).1
      obtain ⟨m1, m2⟩ := dM_h ψB q
      omega
  · unfold pm_dv
    rw [List.map_append, List.map_map, List.map_map]
    have k1 : XA.map (f ∘ dM ψA) = (XA.map fA).map (fun y => 2 * y) := by
      rw [List.map_map]
      exact List.map_congr_left (fun q hq => fa q (a2 q hq))
    have k2 : XB.map (f ∘ dM ψB) = (XB.map fB).map (fun y => 2 * y + 1) := by
      rw [List.map_map]
      exact List.map_congr_left (fun q hq => fb q (e2 q hq))
    rw [k1, k2]
    refine List.nodup_append.mpr ⟨nodup_map a3 (fun x y _ _ e => by omega), nodup_map e3 (fun x y _ _ e => by omega), fun x hx y hy e => ?_⟩
    obtain ⟨p, -, p2⟩ := List.mem_map.mp hx
    obtain ⟨q, -, q2⟩ := List.mem_map.mp hy
    omega
  · rw [List.length_append, List.length_append, List.length_map, List.length_map, List.length_map, List.length_map]
    omega
/-- nets alike -/
theorem pl_hm (hv : vn c S) (hvA : vn c SA) (hA : pn_hm S b c SA bA c ψA) (hi : ∀ u v, u < 2 * c → v < 2 * c → ψA u = ψA v → u = v) : pn_pl c S b ↔ pn_pl c SA bA := by
  have hvB : vn 0 SA := fun k hk => by omega
  have hu : pn_un c c 0 ψA ψA := ⟨by omega, hi, fun u v h => by omega, fun u v _ h => by omega⟩
  have hB : pn_hm S b 0 SA (stG (fun _ => 1)) c ψA := fun v h => by omega
  exact ⟨fun h => un_sub hv hvA hvB stG_fl hA hB hu h, fun h => un_sup hv hvA hvB hA hB hu h ⟨[], fun v h => by omega, fun _ => 0, [], fun d h => by omega, fun x hx => absurd hx List.not_mem_nil, List.nodup_nil, Nat.le_refl _⟩⟩
end UN
