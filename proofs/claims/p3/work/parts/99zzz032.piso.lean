section
/-! 99zzzzzzzzo.piso -/
/-! plane nets: taken over to nets alike, to parts and to nets side by side -/
def dM (ψ : Nat → Nat) (d : Nat) : Nat := 2 * ψ (d / 2) + d % 2
theorem dM_h (ψ : Nat → Nat) (d : Nat) : dM ψ d / 2 = ψ (d / 2) ∧ dM ψ d % 2 = d % 2 := by
  unfold dM
  omega
/-- a net within a net -/
def pn_hm (S : ow_NP) (b : Nat → Bool) (c' : Nat) (S' : ow_NP) (b' : Nat → Bool) (c : Nat) (ψ : Nat → Nat) : Prop := ∀ v, v < 2 * c' → ψ v < 2 * c ∧ S.1 (ψ v) = ψ (S'.1 v) ∧ mt (ψ v) = ψ (mt v) ∧ b (ψ v) = b' v
section HM
variable {c c' : Nat} {S S' : ow_NP} {b b' : Nat → Bool} {ψ : Nat → Nat}
theorem hm_al (hv : vn c S) (hv' : vn c' S') (h : pn_hm S b c' S' b' c ψ) {d : Nat} (hd : d < 4 * c') : pn_al S (dM ψ d) = dM ψ (pn_al S' d) := by
  obtain ⟨m1, m2⟩ := dM_h ψ d
  obtain ⟨h1, h2, h3, h4⟩ := hv' (d / 2) (by omega)
  unfold pn_al
  rw [m1, m2]
  by_cases e : d % 2 = 0
  · rw [if_pos e, if_pos e, (h (d / 2) (by omega)).2.1]
    unfold dM
    rw [show (2 * S'.1 (d / 2) + 1) / 2 = S'.1 (d / 2) by omega]
    omega
  · rw [if_neg e, if_neg e]
    have q := h _ h2
    have q2 := (hv _ q.1).2.2.1
    rw [q.2.1, h4] at q2
    rw [q2]
    unfold dM
    rw [show 2 * S'.2 (d / 2) / 2 = S'.2 (d / 2) by omega]
    omega
theorem hm_rt (h : pn_hm S b c' S' b' c ψ) {d : Nat} (hd : d < 4 * c') : pn_rt b (dM ψ d) = dM ψ (pn_rt b' d) := by
  obtain ⟨m1, m2⟩ := dM_h ψ d
  obtain ⟨-, -, h3, h4⟩ := h (d / 2) (by omega)
  unfold pn_rt
  rw [m1, m2, h3, h4]
  split
  · unfold dM
    rw [show 2 * mt (d / 2) / 2 = mt (d / 2) by omega]
    omega
  · unfold dM
    rw [show (2 * mt (d / 2) + 1) / 2 = mt (d / 2) by omega]
    omega
theorem hm_ph (hv : vn c S) (hv' : vn c' S') (h : pn_hm S b c' S' b' c ψ) {d : Nat} (hd : d < 4 * c') : pn_ph S b (dM ψ d) = dM ψ (pn_ph S' b' d) := by
  unfold pn_ph
  rw [hm_al hv hv' h hd, hm_rt h (pn_al_lt hv' hd)]
theorem hm_rch (hv' : vn c' S') (h : pn_hm S b c' S' b' c ψ) {r v : Nat} (hr : r < 2 * c') (hrv : rch c' S' r v) : rch c S (ψ r) (ψ v) := by
  refine (hrv (fun v => v < 2 * c' ∧ rch c S (ψ r) (ψ v)) ⟨hr, rch_rf _ _ _⟩ (fun j hj hp => ⟨(hv' j hj).1, ?_⟩) (fun j hj hp => ⟨mt_lt hj, ?_⟩)).2
  · rw [← (h j hj).2.1]
    exact rch_n hp.2 (h j hj).1
  · rw [← (h j hj).2.2.1]
    exact rch_m hp.2 (h j hj).1
/-- what is reached from within stays within -/
theorem hm_back (hv' : vn c' S') (h : pn_hm S b c' S' b' c ψ) {v w : Nat} (hvl : v < 2 * c') (hr : rch c S (ψ v) w) : ∃ u, u < 2 * c' ∧ w = ψ u ∧ rch c' S' v u := by
  refine hr (fun w => ∃ u, u < 2 * c' ∧ w = ψ u ∧ rch c' S' v u) ⟨v, hvl, rfl, rch_rf _ _ _⟩ (fun j hj hp => ?_) (fun j hj hp => ?_)
  · obtain ⟨u, u1, u2, u3⟩ := hp
    exact ⟨_, (hv' u u1).1, by rw [u2, (h u u1).2.1], rch_n u3 u1⟩
  · obtain ⟨u, u1, u2, u3⟩ := hp
    exact ⟨_, mt_lt u1, by rw [u2, (h u u1).2.2.1], rch_m u3 u1⟩
end HM
theorem full_mem {n : Nat} {L : List Nat} (hn : L.Nodup) (hl : L.length = n) (hb : ∀ x, x ∈ L → x < n) {k : Nat} (hk : k < n) : k ∈ L := by
  refine Classical.byContradiction (fun h => ?_)
  have := nodup_le (k :: L) (List.range n) (List.nodup_cons.mpr ⟨h, hn⟩) (fun a ha => by
    rcases List.mem_cons.mp ha with e | e
    · rw [e]; exact List.mem_range.mpr hk
    · exact List.mem_range.mpr (hb a e))
  rw [List.length_cons, List.length_range, hl] at this
  omega
section UN
variable {c cA cB : Nat} {S SA SB : ow_NP} {b bA bB : Nat → Bool} {ψA ψB : Nat → Nat}
def pn_un (c cA cB : Nat) (ψA ψB : Nat → Nat) : Prop := c = cA + cB ∧ (∀ u v, u < 2 * cA → v < 2 * cA → ψA u = ψA v → u = v) ∧ (∀ u v, u < 2 * cB → v < 2 * cB → ψB u = ψB v → u = v) ∧ ∀ u v, u < 2 * cA → v < 2 * cB → ψA u ≠ ψB v
theorem un_cov (hu : pn_un c cA cB ψA ψB) (hA : ∀ v, v < 2 * cA → ψA v < 2 * c) (hB : ∀ v, v < 2 * cB → ψB v < 2 * c) {v : Nat} (hv : v < 2 * c) : (∃ u, u < 2 * cA ∧ ψA u = v) ∨ ∃ u, u < 2 * cB ∧ ψB u = v := by
  obtain ⟨u1, u2, u3, u4⟩ := hu
  have := full_mem (n := 2 * c) (L := (List.range (2 * cA)).map ψA ++ (List.range (2 * cB)).map ψB) (List.nodup_append.mpr ⟨nodup_map List.nodup_range (fun x y hx hy e => u2 x y (List.mem_range.mp hx) (List.mem_range.mp hy) e), nodup_map List.nodup_range (fun x y hx hy e => u3 x y (List.mem_range.mp hx) (List.mem_range.mp hy) e), fun x hx y hy e => by
    obtain ⟨p, p1, p2⟩ := List.mem_map.mp hx
    obtain ⟨q, q1, q2⟩ := List.mem_map.mp hy
    exact u4 p q (List.mem_range.mp p1) (List.mem_range.mp q1) (by rw [p2, q2, e])⟩) (by
    rw [List.length_append, List.length_map, List.length_map, List.length_range, List.length_range]
    omega) (fun x hx => by
    rcases List.mem_append.mp hx with h | h
    · obtain ⟨p, p1, p2⟩ := List.mem_map.mp h
      rw [← p2]
      exact hA p (List.mem_range.mp p1)
    · obtain ⟨p, p1, p2⟩ := List.mem_map.mp h
      rw [← p2]
      exact hB p (List.mem_range.mp p1)) hv
  rcases List.mem_append.mp this with h | h
  · obtain ⟨p, p1, p2⟩ := List.mem_map.mp h
    exact Or.inl ⟨p, List.mem_range.mp p1, p2⟩
  · obtain ⟨p, p1, p2⟩ := List.mem_map.mp h
    exact Or.inr ⟨p, List.mem_range.mp p1, p2⟩
/-- of a plane net each part of it is plane -/
theorem un_sub (hv : vn c S) (hvA : vn cA SA) (hvB : vn cB SB) (hbB : pn_fl bB) (hA : pn_hm S b cA SA bA c ψA) (hB : pn_hm S b cB SB bB c ψB) (hu : pn_un c cA cB ψA ψB) (hp : pn_pl c S b) : pn_pl cA SA bA := by
  obtain ⟨R, hR, f, X, f1, f2, f3, f4⟩ := hp
  have cov := fun {v : Nat} (h : v < 2 * c) => un_cov hu (fun v h => (hA v h).1) (fun v h => (hB v h).1) h
  obtain ⟨u1, u2, u3, u4⟩ := hu
  have hxA : ∀ v, ∃ u, (∃ u, u < 2 * cA ∧ ψA u = v) → u < 2 * cA ∧ ψA u = v := fun v => by
    by_cases h : ∃ u, u < 2 * cA ∧ ψA u = v
    · obtain ⟨u, hu⟩ := h
      exact ⟨u, fun _ => hu⟩
    · exact ⟨0, fun h9 => absurd h9 h⟩
  have hxB : ∀ v, ∃ u, (∃ u, u < 2 * cB ∧ ψB u = v) → u < 2 * cB ∧ ψB u = v := fun v => by
    by_cases h : ∃ u, u < 2 * cB ∧ ψB u = v
    · obtain ⟨u, hu⟩ := h
      exact ⟨u, fun _ => hu⟩
    · exact ⟨0, fun h9 => absurd h9 h⟩
  obtain ⟨χA, hxA⟩ := Classical.skolem.mp hxA
  obtain ⟨χB, hxB⟩ := Classical.skolem.mp hxB
  have xA : ∀ u, u < 2 * cA → χA (ψA u) = u := fun u hu => by
    obtain ⟨q1, q2⟩ := hxA (ψA u) ⟨u, hu, rfl⟩
    exact u2 _ _ q1 hu q2
  have xB : ∀ u, u < 2 * cB → χB (ψB u) = u := fun u hu => by
    obtain ⟨q1, q2⟩ := hxB (ψB u) ⟨u, hu, rfl⟩
    exact u3 _ _ q1 hu q2
  let inA : Nat → Bool := fun v => decide (v ∈ (List.range (2 * cA)).map ψA)
  have inA_t : ∀ v, inA v = true ↔ ∃ u, u < 2 * cA ∧ ψA u = v := fun v => by
    show decide _ = true ↔ _
    rw [decide_eq_true_iff, List.mem_map]
    exact ⟨fun ⟨u, h1, h2⟩ => ⟨u, List.mem_range.mp h1, h2⟩, fun ⟨u, h1, h2⟩ => ⟨u, List.mem_range.mpr h1, h2⟩⟩
  have notA : ∀ v, v < 2 * c → (!inA v) = true → ∃ u, u < 2 * cB ∧ ψB u = v := fun v hvl h => by
    rcases cov hvl with h9 | h9
    · rw [(inA_t v).mpr h9] at h
      cases h
    · exact h9
  -- parts
  have RA : pn_P cA SA ((R.filter inA).map χA) := by
    intro v hvl
    obtain ⟨r, r1, r2, r3⟩ := hR (ψA v) (hA v hvl).1
    obtain ⟨u, w1, w2, w3⟩ := hm_back hvA hA hvl (rch_sy hv r2 r3)
    refine ⟨u, List.mem_map.mpr ⟨r, List.mem_filter.mpr ⟨r1, (inA_t r).mpr ⟨u, w1, w2.symm⟩⟩, by rw [w2, xA u w1]⟩, w1, rch_sy hvA hvl w3⟩
  have RB : pn_P cB SB ((R.filter (fun r => !inA r)).map χB) := by
    intro v hvl
    obtain ⟨r, r1, r2, r3⟩ := hR (ψB v) (hB v hvl).1
    obtain ⟨u, w1, w2, w3⟩ := hm_back hvB hB hvl (rch_sy hv r2 r3)
    have hn : inA r = false := by
      cases e : inA r with
      | false => rfl
      | true =>
        obtain ⟨q, q1, q2⟩ := (inA_t r).mp e
        exact absurd (q2.trans w2) (u4 q u q1 w1)
    refine ⟨u, List.mem_map.mpr ⟨r, List.mem_filter.mpr ⟨r1, by rw [hn]; rfl⟩, by rw [w2, xB u w1]⟩, w1, rch_sy hvB hvl w3⟩
  -- faces
  have FA : ∀ d, d < 4 * cA → f (dM ψA (pn_ph SA bA d)) = f (dM ψA d) := fun d hd => by
    rw [← hm_ph hv hvA hA hd]
    have := (hA (d / 2) (by omega)).1
    exact f1 _ (by unfold dM; omega)
  have FB : ∀ d, d < 4 * cB → f (dM ψB (pn_ph SB bB d)) = f (dM ψB d) := fun d hd => by
    rw [← hm_ph hv hvB hB hd]
    have := (hB (d / 2) (by omega)).1
    exact f1 _ (by unfold dM; omega)
  have backA : ∀ x, x < 4 * c → inA (x / 2) = true → dM ψA (dM χA x) = x ∧ dM χA x < 4 * cA := fun x hx h => by
    obtain ⟨q1, q2⟩ := hxA _ ((inA_t _).mp h)
    obtain ⟨m1, m2⟩ := dM_h χA x
    refine ⟨?_, by omega⟩
    unfold dM
    rw [show (2 * χA (x / 2) + x % 2) / 2 = χA (x / 2) by omega, q2]
    omega
  have backB : ∀ x, x < 4 * c → (!inA (x / 2)) = true → dM ψB (dM χB x) = x ∧ dM χB x < 4 * cB := fun x hx h => by
    obtain ⟨q1, q2⟩ := hxB _ (notA _ (by omega) h)
    obtain ⟨m1, m2⟩ := dM_h χB x
    refine ⟨?_, by omega⟩
    unfold dM
    rw [show (2 * χB (x / 2) + x % 2) / 2 = χB (x / 2) by omega, q2]
    omega
  have hsX := filt_sum (fun x => inA (x / 2)) X
  have hsR := filt_sum inA R
  have bnd := pn_eul hvB hbB RB (k := (X.filter (fun x => !inA (x / 2))).length) ⟨fun d => f (dM ψB d), (X.filter (fun x => !inA (x / 2))).map (dM χB), FB, fun x hx => by
    obtain ⟨q, q1, q2⟩ := List.mem_map.mp hx
    rw [← q2]
    exact (backB q (f2 q (List.mem_filter.mp q1).1) (List.mem_filter.mp q1).2).2, by
    have e1 : ((X.filter (fun x => !inA (x / 2))).map (dM χB)).map (fun d => f (dM ψB d)) = (X.filter (fun x => !inA (x / 2))).map f := by
      rw [List.map_map]
      refine List.map_congr_left (fun q hq => ?_)
      show f (dM ψB (dM χB q)) = f q
      rw [(backB q (f2 q (List.mem_filter.mp hq).1) (List.mem_filter.mp hq).2).1]
    unfold pm_dv
    rw [e1]
    exact pm_fil _ f3, by rw [List.length_map]; exact Nat.le_refl _⟩
  refine ⟨_, RA, fun d => f (dM ψA d), (X.filter (fun x => inA (x / 2))).map (dM χA), FA, fun x hx => ?_, ?_, ?_⟩
  · obtain ⟨q, q1, q2⟩ := List.mem_map.mp hx
    rw [← q2]
    exact (backA q (f2 q (List.mem_filter.mp q1).1) (List.mem_filter.mp q1).2).2
  · have e1 : ((X.filter (fun x => inA (x / 2))).map (dM χA)).map (fun d => f (dM ψA d)) = (X.filter (fun x => inA (x / 2))).map f := by
      rw [List.map_map]
      refine List.map_congr_left (fun q hq => ?_)
      show f (dM ψA (dM χA q)) = f q
      rw [(backA q (f2 q (List.mem_filter.mp hq).1) (List.mem_filter.mp hq).2).1]
    unfold pm_dv
    rw [e1]
    exact pm_fil _ f3
  · rw [List.length_map] at bnd
    rw [List.length_map, List.length_map]
    omega
/-- plane nets side by side are plane -/
theorem un_sup (hv : vn c S) (hvA : vn cA SA) (hvB : vn cB SB) (hA : pn_hm S b cA SA bA c ψA) (hB : pn_hm S b cB SB bB c ψB) (hu : pn_un c cA cB ψA ψB) (hpA : pn_pl cA SA bA) (hpB : pn_pl cB SB bB) : pn_pl c S b := by
  obtain ⟨RA, hRA, fA, XA, a1, a2, a3, a4⟩ := hpA
  obtain ⟨RB, hRB, fB, XB, e1, e2, e3, e4⟩ := hpB
  have cov := fun {v : Nat} (h : v < 2 * c) => un_cov hu (fun v h => (hA v h).1) (fun v h => (hB v h).1) h
  obtain ⟨u1, u2, u3, u4⟩ := hu
  have hlab : ∀ d, ∃ y, (∀ x, x < 4 * cA → dM ψA x = d → y = 2 * fA x) ∧ ∀ x, x < 4 * cB → dM ψB x = d → y = 2 * fB x + 1 := fun d => by
    have injA : ∀ x x', x < 4 * cA → x' < 4 * cA → dM ψA x = dM ψA x' → x = x' := fun x x' h h' e => by
      obtain ⟨m1, m2⟩ := dM_h ψA x
      obtain ⟨n1, n2⟩ := dM_h ψA x'
      rw [e] at m1 m2
      have := u2 _ _ (by omega) (by omega) (m1.symm.trans n1)
      omega
    have injB : ∀ x x', x < 4 * cB → x' < 4 * cB → dM ψB x = dM ψB x' → x = x' := fun x x' h h' e => by
      obtain ⟨m1, m2⟩ := dM_h ψB x
      obtain ⟨n1, n2⟩ := dM_h ψB x'
      rw [e] at m1 m2
      have := u3 _ _ (by omega) (by omega) (m1.symm.trans n1)
      omega
    have dis : ∀ x x', x < 4 * cA → x' < 4 * cB → dM ψA x ≠ dM ψB x' := fun x x' h h' e => by
      obtain ⟨m1, m2⟩ := dM_h ψA x
      obtain ⟨n1, n2⟩ := dM_h ψB x'
      rw [e] at m1
      exact u4 _ _ (by omega) (by omega) (m1.symm.trans n1)
    by_cases h : ∃ x, x < 4 * cA ∧ dM ψA x = d
    · obtain ⟨x, x1, x2⟩ := h
      exact ⟨2 * fA x, fun x' h1 h2 => by rw [injA x x' x1 h1 (x2.trans h2.symm)], fun x' h1 h2 => absurd (x2.trans h2.symm) (dis x x' x1 h1)⟩
    · by_cases h2 : ∃ x, x < 4 * cB ∧ dM ψB x = d
      · obtain ⟨x, x1, x2⟩ := h2
        exact ⟨2 * fB x + 1, fun x' h1 h3 => absurd ⟨x', h1, h3⟩ h, fun x' h1 h3 => by rw [injB x x' x1 h1 (x2.trans h3.symm)]⟩
      · exact ⟨0, fun x' h1 h3 => absurd ⟨x', h1, h3⟩ h, fun x' h1 h3 => absurd ⟨x', h1, h3⟩ h2⟩
  obtain ⟨f, hf⟩ := Classical.skolem.mp hlab
  have fa : ∀ x, x < 4 * cA → f (dM ψA x) = 2 * fA x := fun x hx => (hf _).1 x hx rfl
  have fb : ∀ x, x < 4 * cB → f (dM ψB x) = 2 * fB x + 1 := fun x hx => (hf _).2 x hx rfl
  have dcov : ∀ d, d < 4 * c → (∃ x, x < 4 * cA ∧ dM ψA x = d) ∨ ∃ x, x < 4 * cB ∧ dM ψB x = d := fun d hd => by
    rcases cov (show d / 2 < 2 * c by omega) with ⟨u, h1, h2⟩ | ⟨u, h1, h2⟩
    · refine Or.inl ⟨2 * u + d % 2, by omega, ?_⟩
      unfold dM
      rw [show (2 * u + d % 2) / 2 = u by omega, h2]
      omega
    · refine Or.inr ⟨2 * u + d % 2, by omega, ?_⟩
      unfold dM
      rw [show (2 * u + d % 2) / 2 = u by omega, h2]
      omega
  refine ⟨RA.map ψA ++ RB.map ψB, fun v hvl => ?_, f, XA.map (dM ψA) ++ XB.map (dM ψB), fun d hd => ?_, fun x hx => ?_, ?_, ?_⟩
  · rcases cov hvl with ⟨u, h1, h2⟩ | ⟨u, h1, h2⟩
    · obtain ⟨r, r1, r2, r3⟩ := hRA u h1
      refine ⟨ψA r, List.mem_append_left _ (List.mem_map.mpr ⟨r, r1, rfl⟩), (hA r r2).1, ?_⟩
      rw [← h2]
      exact hm_rch hvA hA r2 r3
    · obtain ⟨r, r1, r2, r3⟩ := hRB u h1
      refine ⟨ψB r, List.mem_append_right _ (List.mem_map.mpr ⟨r, r1, rfl⟩), (hB r r2).1, ?_⟩
      rw [← h2]
      exact hm_rch hvB hB r2 r3
  · rcases dcov d hd with ⟨x, x1, x2⟩ | ⟨x, x1, x2⟩
    · rw [← x2, hm_ph hv hvA hA x1, fa _ (pn_ph_lt hvA x1), fa x x1, a1 x x1]
    · rw [← x2, hm_ph hv hvB hB x1, fb _ (pn_ph_lt hvB x1), fb x x1, e1 x x1]
  · rcases List.mem_append.mp hx with h | h
    · obtain ⟨q, q1, q2⟩ := List.mem_map.mp h
      have := (hA (q / 2) (by have := a2 q q1; omega)).1
      obtain ⟨m1, m2⟩ := dM_h ψA q
      omega
    · obtain ⟨q, q1, q2⟩ := List.mem_map.mp h
      have := (hB (q / 2) (by have := e2 q q1; omega)).1
      obtain ⟨m1, m2⟩ := dM_h ψB q
      omega
  · unfold pm_dv
    rw [List.map_append, List.map_map, List.map_map]
    have k1 : XA.map (f ∘ dM ψA) = (XA.map fA).map (fun y => 2 * y) := by
      rw [List.map_map]
      exact List.map_congr_left (fun q hq => fa q (a2 q hq))
    have k2 : XB.map (f ∘ dM ψB) = (XB.map fB).map (fun y => 2 * y + 1) := by
      rw [List.map_map]
      exact List.map_congr_left (fun q hq => fb q (e2 q hq))
    rw [k1, k2]
    refine List.nodup_append.mpr ⟨nodup_map a3 (fun x y _ _ e => by omega), nodup_map e3 (fun x y _ _ e => by omega), fun x hx y hy e => ?_⟩
    obtain ⟨p, -, p2⟩ := List.mem_map.mp hx
    obtain ⟨q, -, q2⟩ := List.mem_map.mp hy
    omega
  · rw [List.length_append, List.length_append, List.length_map, List.length_map, List.length_map, List.length_map]
    omega
/-- nets alike -/
theorem pl_hm (hv : vn c S) (hvA : vn c SA) (hA : pn_hm S b c SA bA c ψA) (hi : ∀ u v, u < 2 * c → v < 2 * c → ψA u = ψA v → u = v) : pn_pl c S b ↔ pn_pl c SA bA := by
  have hvB : vn 0 SA := fun k hk => by omega
  have hu : pn_un c c 0 ψA ψA := ⟨by omega, hi, fun u v h => by omega, fun u v _ h => by omega⟩
  have hB : pn_hm S b 0 SA (stG (fun _ => 1)) c ψA := fun v h => by omega
  exact ⟨fun h => un_sub hv hvA hvB stG_fl hA hB hu h, fun h => un_sup hv hvA hvB hA hB hu h ⟨[], fun v h => by omega, fun _ => 0, [], fun d h => by omega, fun x hx => absurd hx List.not_mem_nil, List.nodup_nil, Nat.le_refl _⟩⟩
end UN
end
section
/-! 99zzzzzzzzp.pla -/
/-! a net within a plane net is plane; planeness of lists of components -/
section SUB
variable {c cA : Nat} {S SA : ow_NP} {b bA : Nat → Bool} {ψ : Nat → Nat}
theorem sub_pl (hv : vn c S) (hb : pn_fl b) (hvA : vn cA SA) (hA : pn_hm S b cA SA bA c ψ) (hi : ∀ u v, u < 2 * cA → v < 2 * cA → ψ u = ψ v → u = v) (hp : pn_pl c S b) : pn_pl cA SA bA := by
  let im := (List.range (2 * cA)).map ψ
  have im_in : ∀ v, v ∈ im ↔ ∃ u, u < 2 * cA ∧ ψ u = v := fun v => by
    rw [List.mem_map]
    exact ⟨fun ⟨u, h1, h2⟩ => ⟨u, List.mem_range.mp h1, h2⟩, fun ⟨u, h1, h2⟩ => ⟨u, List.mem_range.mpr h1, h2⟩⟩
  have im_nd : im.Nodup := nodup_map List.nodup_range (fun x y hx hy e => hi x y (List.mem_range.mp hx) (List.mem_range.mp hy) e)
  have im_mt : ∀ v, v ∈ im → mt v ∈ im := fun v h => by
    obtain ⟨u, u1, u2⟩ := (im_in v).mp h
    exact (im_in _).mpr ⟨mt u, mt_lt u1, by rw [← u2, (hA u u1).2.2.1]⟩
  have im_n : ∀ v, v ∈ im → S.1 v ∈ im := fun v h => by
    obtain ⟨u, u1, u2⟩ := (im_in v).mp h
    exact (im_in _).mpr ⟨SA.1 u, (hvA u u1).1, by rw [← u2, (hA u u1).2.1]⟩
  have im_p : ∀ v, v ∈ im → S.2 v ∈ im := fun v h => by
    obtain ⟨u, u1, u2⟩ := (im_in v).mp h
    obtain ⟨q1, q2, q3, q4⟩ := hvA u u1
    refine (im_in _).mpr ⟨SA.2 u, q2, ?_⟩
    have := (hA _ q2).2.1
    rw [q4, u2] at this
    rw [← this, (hv _ (hA _ q2).1).2.2.1]
  have im_lt : ∀ v, v ∈ im → v < 2 * c := fun v h => by
    obtain ⟨u, u1, u2⟩ := (im_in v).mp h
    rw [← u2]
    exact (hA u u1).1
  let K := (List.range c).filter (fun x => decide (2 * x ∈ im))
  let L := (List.range c).filter (fun x => !decide (2 * x ∈ im))
  have L_in : ∀ x, x ∈ L ↔ x < c ∧ 2 * x ∉ im := fun x => by
    rw [List.mem_filter, List.mem_range, Bool.not_eq_true', decide_eq_false_iff_not]
  have K_in : ∀ x, x ∈ K ↔ x < c ∧ 2 * x ∈ im := fun x => by
    rw [List.mem_filter, List.mem_range, decide_eq_true_iff]
  have hKL : K.length + L.length = c := by
    have := filt_sum (fun x => decide (2 * x ∈ im)) (List.range c)
    rw [List.length_range] at this
    exact this
  have both : ∀ v, v ∈ im ↔ 2 * (v / 2) ∈ im := fun v => by
    by_cases e : v % 2 = 0
    · rw [show 2 * (v / 2) = v by omega]
    · have em : mt v = 2 * (v / 2) := by unfold mt; rw [if_neg e]; omega
      constructor
      · intro h
        rw [← em]
        exact im_mt v h
      · intro h
        have := im_mt _ h
        rw [← em, mt_mt] at this
        exact this
  have hK1 : im.length ≤ 2 * K.length := by
    have := nodup_le im (pm_tw K) im_nd (fun v h => pm_tw_in.mpr ((K_in _).mpr ⟨by have := im_lt v h; omega, (both v).mp h⟩))
    rw [pm_tw_len] at this
    exact this
  have hK2 : 2 * K.length ≤ im.length := by
    have := nodup_le (pm_tw K) im (pm_tw_nd (List.nodup_range.filter _)) (fun v h => (both v).mpr ((K_in _).mp (pm_tw_in.mp h)).2)
    rw [pm_tw_len] at this
    exact this
  have hil : im.length = 2 * cA := by
    show ((List.range (2 * cA)).map ψ).length = _
    rw [List.length_map, List.length_range]
  have Lnd : L.Nodup := List.nodup_range.filter _
  let cB := L.length
  let ψB : Nat → Nat := fun v => 2 * L.getD (v / 2) 0 + v % 2
  let iv : Nat → Nat := fun w => 2 * L.idxOf (w / 2) + w % 2
  have LD : ∀ i, i < cB → L.getD i 0 ∈ L := fun i h => by
    have h : i < L.length := h
    rw [List.getD_eq_getElem?_getD, List.getElem?_eq_getElem h]
    exact List.getElem_mem h
  have bh : ∀ v, ψB v / 2 = L.getD (v / 2) 0 ∧ ψB v % 2 = v % 2 := fun v => by
    show (2 * L.getD (v / 2) 0 + v % 2) / 2 = _ ∧ (2 * L.getD (v / 2) 0 + v % 2) % 2 = _
    omega
  have bin : ∀ v, v < 2 * cB → ψB v < 2 * c ∧ ψB v ∉ im := fun v h => by
    have h1 := (L_in _).mp (LD (v / 2) (by omega))
    obtain ⟨m1, m2⟩ := bh v
    refine ⟨by omega, fun h9 => h1.2 ?_⟩
    have := (both _).mp h9
    rw [m1] at this
    exact this
  have ivb : ∀ w, w < 2 * c → w ∉ im → iv w < 2 * cB ∧ ψB (iv w) = w := fun w h1 h2 => by
    have hL : w / 2 ∈ L := (L_in _).mpr ⟨by omega, fun h9 => h2 ((both w).mpr h9)⟩
    have hx : L.idxOf (w / 2) < L.length := List.idxOf_lt_length_of_mem hL
    refine ⟨by show 2 * L.idxOf (w / 2) + w % 2 < 2 * L.length; omega, ?_⟩
    show 2 * L.getD ((2 * L.idxOf (w / 2) + w % 2) / 2) 0 + (2 * L.idxOf (w / 2) + w % 2) % 2 = w
    rw [show (2 * L.idxOf (w / 2) + w % 2) / 2 = L.idxOf (w / 2) by omega, List.getD_eq_getElem?_getD, List.getElem?_eq_getElem hx, List.getElem_idxOf]
    show 2 * (w / 2) + _ = w
    omega
  have binj : ∀ u v, u < 2 * cB → v < 2 * cB → ψB u = ψB v → u = v := fun u v hu hv9 e => by
    obtain ⟨m1, m2⟩ := bh u
    obtain ⟨n1, n2⟩ := bh v
    rw [e] at m1 m2
    have e2 : L.getD (u / 2) 0 = L.getD (v / 2) 0 := m1.symm.trans n1
    have hu2 : u / 2 < L.length := by show u / 2 < cB; omega
    have hv2 : v / 2 < L.length := by show v / 2 < cB; omega
    rw [List.getD_eq_getElem?_getD, List.getD_eq_getElem?_getD, List.getElem?_eq_getElem hu2, List.getElem?_eq_getElem hv2] at e2
    have e3 : L[u / 2] = L[v / 2] := e2
    have := nodup_at Lnd (List.getElem?_eq_getElem hu2) (by rw [e3]; exact List.getElem?_eq_getElem hv2)
    omega
  have ivp : ∀ v, v < 2 * cB → iv (ψB v) = v := fun v h => by
    obtain ⟨h1, h2⟩ := bin v h
    obtain ⟨q1, q2⟩ := ivb _ h1 h2
    exact binj _ _ q1 h q2
  have out_n : ∀ w, w < 2 * c → w ∉ im → S.1 w ∉ im := fun w h1 h2 h9 => h2 (by
    have := im_p _ h9
    rw [(hv w h1).2.2.1] at this
    exact this)
  have out_p : ∀ w, w < 2 * c → w ∉ im → S.2 w ∉ im := fun w h1 h2 h9 => h2 (by
    have := im_n _ h9
    rw [(hv w h1).2.2.2] at this
    exact this)
  have out_m : ∀ w, w ∉ im → mt w ∉ im := fun w h2 h9 => h2 (by
    have := im_mt _ h9
    rw [mt_mt] at this
    exact this)
  let SB : ow_NP := (fun v => iv (S.1 (ψB v)), fun v => iv (S.2 (ψB v)))
  have s1 : ∀ v, v < 2 * cB → iv (S.1 (ψB v)) < 2 * cB ∧ ψB (iv (S.1 (ψB v))) = S.1 (ψB v) := fun v h => ivb _ (hv _ (bin v h).1).1 (out_n _ (bin v h).1 (bin v h).2)
  have s2 : ∀ v, v < 2 * cB → iv (S.2 (ψB v)) < 2 * cB ∧ ψB (iv (S.2 (ψB v))) = S.2 (ψB v) := fun v h => ivb _ (hv _ (bin v h).1).2.1 (out_p _ (bin v h).1 (bin v h).2)
  have hvB : vn cB SB := fun v h => by
    refine ⟨(s1 v h).1, (s2 v h).1, ?_, ?_⟩
    · show iv (S.2 (ψB (iv (S.1 (ψB v))))) = v
      rw [(s1 v h).2, (hv _ (bin v h).1).2.2.1, ivp v h]
    · show iv (S.1 (ψB (iv (S.2 (ψB v))))) = v
      rw [(s2 v h).2, (hv _ (bin v h).1).2.2.2, ivp v h]
  have mB : ∀ v, v < 2 * cB → mt (ψB v) = ψB (mt v) := fun v h => by
    obtain ⟨m1, m2⟩ := bh v
    obtain ⟨n1, n2⟩ := bh (mt v)
    rw [mt_h2] at n1
    unfold mt at n1 n2 ⊢
    split
    · rename_i e
      rw [m2] at e
      rw [if_pos e] at n1 n2 ⊢
      omega
    · rename_i e
      rw [m2] at e
      rw [if_neg e] at n1 n2 ⊢
      omega
  have hB : pn_hm S b cB SB (fun v => if v < 2 * cB then b (ψB v) else decide (v % 2 = 0)) c ψB := fun v h => by
    refine ⟨(bin v h).1, (s1 v h).2.symm, mB v h, ?_⟩
    show b (ψB v) = if v < 2 * cB then b (ψB v) else _
    rw [if_pos h]
  have hbB : pn_fl (fun v => if v < 2 * cB then b (ψB v) else decide (v % 2 = 0)) := fun v => by
    show (if mt v < 2 * cB then b (ψB (mt v)) else decide (mt v % 2 = 0)) = !(if v < 2 * cB then b (ψB v) else decide (v % 2 = 0))
    by_cases h : v < 2 * cB
    · rw [if_pos h, if_pos (mt_lt h), ← mB v h]
      exact hb _
    · have h2 : ¬ mt v < 2 * cB := fun h9 => h (by have := mt_lt h9; rw [mt_mt] at this; exact this)
      rw [if_neg h, if_neg h2]
      unfold mt
      by_cases e : v % 2 = 0
      · rw [if_pos e, decide_eq_true e, decide_eq_false (by omega)]
        rfl
      · rw [if_neg e, decide_eq_false e, decide_eq_true (by omega)]
        rfl
  have hcB : c = cA + cB := by
    show c = cA + L.length
    omega
  refine un_sub hv hvA hvB hbB hA hB ⟨hcB, hi, binj, fun u v hu hv9 e => (bin v hv9).2 ?_⟩ hp
  rw [← e]
  exact (im_in _).mpr ⟨u, hu, rfl⟩
end SUB
/-! nets that show components -/
def pm1 (T : ow_NT) : Prop := ∀ x, x < T.1 → T.2.2.2 x = 1 ∨ T.2.2.2 x = -1
section LST
variable {A A' : rn_L} {sg sg' : Nat → Bool} {f f' : Nat → Nat} {T T' : ow_NT}
theorem gl_hf {p : vT} (hp : p.2 < 2) : gl f p / 2 = f p.1 ∧ gl f p % 2 = p.2 := by
  unfold gl
  omega
theorem stG_gl (h : isoV A sg f T) (hT : pm1 T) {p : vT} (hp : p ∈ A.flatten) : stG T.2.2.2 (gl f p) = (decide (p.2 = 0) == !sg p.1) := by
  have h2 := (h.1.1.2 p hp).2.1
  obtain ⟨e1, e2⟩ := gl_hf (f := f) h2
  have hx := h.1.2.2.2.1 p hp
  have hs := h.1.2.2.2.2.2.2.1 p hp
  unfold stG
  rw [e1, e2]
  congr 1
  rcases hT _ hx with e | e
  · rw [e] at hs ⊢
    cases hq : sg p.1 with
    | true => exact absurd (hs.mpr hq) (by decide)
    | false => rfl
  · rw [e] at hs ⊢
    cases hq : sg p.1 with
    | true => rfl
    | false =>
      have := hs.mp (by decide)
      rw [hq] at this
      cases this
theorem gl_sur (h : isoV A sg f T) {k : Nat} (hk : k < 2 * T.1) : ∃ p, p ∈ A.flatten ∧ gl f p = k := by
  obtain ⟨v, v1, v2⟩ := lbv_sur (isoS_iff.mp h.1) hk
  exact ⟨vAt A v, vAt_mem v1, v2⟩
theorem gl_mate {p : vT} (hp : p.2 < 2) : mt (gl f p) = gl f (p.1, 1 - p.2) := by
  unfold gl mt
  rcases (show p.2 = 0 ∨ p.2 = 1 by omega) with e | e
  · rw [e, if_pos (by omega)]
    rfl
  · rw [e, if_neg (by omega)]
    show 2 * f p.1 + 1 - 1 = 2 * f p.1 + (1 - 1)
    omega
/-- components of one net among those of another -/
theorem iso_hm (h : isoV A sg f T) (h' : isoV A' sg' f' T') (hT : pm1 T) (hT' : pm1 T') (hL : ∀ L, L ∈ A' → L ≠ [] → L ∈ A) (hs : ∀ p, p ∈ A'.flatten → sg' p.1 = sg p.1) : ∃ ψ, pn_hm T.2.2.1 (stG T.2.2.2) T'.1 T'.2.2.1 (stG T'.2.2.2) T.1 ψ ∧ (∀ u v, u < 2 * T'.1 → v < 2 * T'.1 → ψ u = ψ v → u = v) ∧ ∀ p, p ∈ A'.flatten → ψ (gl f' p) = gl f p := by
  have mem : ∀ p, p ∈ A'.flatten → p ∈ A.flatten := fun p hp => by
    obtain ⟨L, l1, l2⟩ := List.mem_flatten.mp hp
    exact List.mem_flatten.mpr ⟨L, hL L l1 (fun e => by rw [e] at l2; cases l2), l2⟩
  have ex : ∀ v, ∃ u, ∀ p, p ∈ A'.flatten → gl f' p = v → u = gl f p := fun v => by
    by_cases h9 : ∃ p, p ∈ A'.flatten ∧ gl f' p = v
    · obtain ⟨p, p1, p2⟩ := h9
      exact ⟨gl f p, fun q q1 q2 => by rw [gl_gin h'.1 p q p1 q1 (p2.trans q2.symm)]⟩
    · exact ⟨0, fun p p1 p2 => absurd ⟨p, p1, p2⟩ h9⟩
  obtain ⟨ψ, hψ⟩ := Classical.skolem.mp ex
  have at9 : ∀ p, p ∈ A'.flatten → ψ (gl f' p) = gl f p := fun p hp => hψ _ p hp rfl
  refine ⟨ψ, fun v hv => ?_, fun u v hu hv e => ?_, at9⟩
  · obtain ⟨p, p1, rfl⟩ := gl_sur h' hv
    have hp2 := (h'.1.1.2 p p1)
    obtain ⟨L, l1, l2⟩ := List.mem_flatten.mp p1
    have l3 := hL L l1 (fun e => by rw [e] at l2; cases l2)
    have nL := L_nd h'.1.1.1 l1
    rw [at9 p p1]
    refine ⟨gl_lt h (mem p p1), ?_, ?_, ?_⟩
    · rw [(h.2 L l3 p l2).1, (h'.2 L l1 p l2).1]
      exact (at9 _ (List.mem_flatten.mpr ⟨L, l1, sc_in l2 nL⟩)).symm
    · rw [gl_mate hp2.2.1, gl_mate hp2.2.1]
      exact (at9 _ hp2.2.2).symm
    · rw [stG_gl h hT (mem p p1), stG_gl h' hT' p1, hs p p1]
  · obtain ⟨p, p1, rfl⟩ := gl_sur h' hu
    obtain ⟨q, q1, rfl⟩ := gl_sur h' hv
    rw [at9 p p1, at9 q q1] at e
    rw [gl_gin h.1 p q (mem p p1) (mem q q1) e]
theorem pl_sub (h : isoV A sg f T) (h' : isoV A' sg' f' T') (hT : pm1 T) (hT' : pm1 T') (hL : ∀ L, L ∈ A' → L ≠ [] → L ∈ A) (hs : ∀ p, p ∈ A'.flatten → sg' p.1 = sg p.1) (hp : nt_plane T = true) : nt_plane T' = true := by
  obtain ⟨ψ, h1, h2, -⟩ := iso_hm h h' hT hT' hL hs
  have hv := isoV_vn h
  have hv' := isoV_vn h'
  rw [plane_iff hv' h'.1.2.2.1]
  exact sub_pl hv stG_fl hv' h1 h2 ((plane_iff hv h.1.2.2.1).mp hp)
/-- a list of components is plane -/
def plnA (A : rn_L) (sg : Nat → Bool) : Prop := ∀ f T, isoV A sg f T → pm1 T → nt_plane T = true
theorem plnA_of (h : isoV A sg f T) (hT : pm1 T) (hp : nt_plane T = true) : plnA A sg := fun f' T' h' hT' => pl_sub h h' hT hT' (fun L hL _ => hL) (fun p _ => rfl) hp
end LST
end
section
/-! 99zzzzzzzzq.pop1 -/
/-! plane nets: flipped, turned, side by side -/
theorem cirs_map {g : vT → vT} (A : rn_L) : cirs (A.map (List.map g)) = cirs A := by
  unfold cirs
  rw [List.countP_map]
  congr 1
  funext L
  cases L <;> rfl
section FLP
variable {A : rn_L} {sg : Nat → Bool} {f : Nat → Nat} {T : ow_NT} {x : Nat}
def ntF (T : ow_NT) (x : Nat) : ow_NT := (T.1, T.2.1, np_swap T.2.2.1 (2 * x) (2 * x + 1), su T.2.2.2 x (-T.2.2.2 x))
theorem pm1_F (hT : pm1 T) : pm1 (ntF T x) := by
  intro k hk
  show su T.2.2.2 x (-T.2.2.2 x) k = 1 ∨ su T.2.2.2 x (-T.2.2.2 x) k = -1
  have hk : k < T.1 := hk
  by_cases e : k = x
  · rw [show su T.2.2.2 x (-T.2.2.2 x) k = -T.2.2.2 x from if_pos e]
    rw [e] at hk
    rcases hT x hk with h | h <;> rw [h]
    · exact Or.inr rfl
    · exact Or.inl rfl
  · rw [show su T.2.2.2 x (-T.2.2.2 x) k = T.2.2.2 k from if_neg e]
    exact hT k hk
theorem vn_F (hv : vn T.1 T.2.2.1) (hx : x < T.1) : vn T.1 (np_swap T.2.2.1 (2 * x) (2 * x + 1)) := vD_vn.mp (vD_swap (vD_vn.mpr hv) (show 2 * x < 2 * T.1 by omega) (show 2 * x + 1 < 2 * T.1 by omega))
theorem mt_ev (x : Nat) : mt (2 * x) = 2 * x + 1 := by
  unfold mt
  rw [if_pos (by omega)]
theorem mt_od (x : Nat) : mt (2 * x + 1) = 2 * x := by
  unfold mt
  rw [if_neg (by omega)]
  omega
theorem sw_mt (v x : Nat) : mt (np_sw v (2 * x) (2 * x + 1)) = np_sw (mt v) (2 * x) (2 * x + 1) := by
  by_cases e1 : v = 2 * x
  · rw [e1, np_sw_v, mt_od, mt_ev, np_sw_w]
  · by_cases e2 : v = 2 * x + 1
    · rw [e2, np_sw_w, mt_od, mt_ev, np_sw_v]
    · have h := mt_h2 v
      rw [np_sw_o e1 e2, np_sw_o (by omega) (by omega)]
theorem pl_flip (hv : vn T.1 T.2.2.1) (hc : T.1 ≤ 12) (hT : pm1 T) (hx : x < T.1) : nt_plane T = true ↔ nt_plane (ntF T x) = true := by
  rw [plane_iff hv hc, plane_iff (T := ntF T x) (vn_F hv hx) hc]
  have hsl : ∀ v, v < 2 * T.1 → np_sw v (2 * x) (2 * x + 1) < 2 * T.1 := fun v h => np_sw_D (D := fun k => k < 2 * T.1) (by omega) (by omega) h
  have h := pl_hm (c := T.1) (S := T.2.2.1) (SA := np_swap T.2.2.1 (2 * x) (2 * x + 1)) (b := stG T.2.2.2) (bA := stG (su T.2.2.2 x (-T.2.2.2 x))) (ψA := fun v => np_sw v (2 * x) (2 * x + 1)) hv (vn_F hv hx) (fun v hvl => ?_) (fun u v _ _ e => ?_)
  · exact h
  · refine ⟨hsl v hvl, ?_, sw_mt v x, ?_⟩
    · show T.2.2.1.1 (np_sw v (2 * x) (2 * x + 1)) = np_sw ((np_swap T.2.2.1 (2 * x) (2 * x + 1)).1 v) (2 * x) (2 * x + 1)
      rw [np_swap_1 (D := fun k => k < 2 * T.1) (vD_vn.mpr hv) (by omega) (by omega) hvl, np_sw_i]
    · show stG T.2.2.2 (np_sw v (2 * x) (2 * x + 1)) = stG (su T.2.2.2 x (-T.2.2.2 x)) v
      unfold stG
      by_cases e1 : v = 2 * x
      · rw [e1, np_sw_v, show su T.2.2.2 x (-T.2.2.2 x) (2 * x / 2) = -T.2.2.2 x from if_pos (by omega), show (2 * x + 1) / 2 = x by omega, show (2 * x + 1) % 2 = 1 by omega, show 2 * x % 2 = 0 by omega]
        rcases hT x hx with h | h <;> rw [h] <;> rfl
      · by_cases e2 : v = 2 * x + 1
        · rw [e2, np_sw_w, show su T.2.2.2 x (-T.2.2.2 x) ((2 * x + 1) / 2) = -T.2.2.2 x from if_pos (by omega), show 2 * x / 2 = x by omega, show (2 * x + 1) % 2 = 1 by omega, show 2 * x % 2 = 0 by omega]
          rcases hT x hx with h | h <;> rw [h] <;> rfl
        · rw [np_sw_o e1 e2, show su T.2.2.2 x (-T.2.2.2 x) (v / 2) = T.2.2.2 (v / 2) from if_neg (by omega)]
  · have e : np_sw u (2 * x) (2 * x + 1) = np_sw v (2 * x) (2 * x + 1) := e
    rw [← np_sw_i (2 * x) (2 * x + 1) u, e, np_sw_i]
theorem gl_flp {p : vT} (hp : p.2 < 2) : gl f (flp (fun y => decide (f y = x)) p) = np_sw (gl f p) (2 * x) (2 * x + 1) := by
  unfold gl
  rw [flp_1, flp_2]
  by_cases e : f p.1 = x
  · rw [decide_eq_true e, if_pos rfl, e]
    rcases (show p.2 = 0 ∨ p.2 = 1 by omega) with h | h
    · rw [h, show 2 * x + 0 = 2 * x from rfl, np_sw_v]
    · rw [h, np_sw_w]
      rfl
  · rw [decide_eq_false e, if_neg (by decide), np_sw_o (by omega) (by omega)]
theorem iso_flip (h : isoV A sg f T) (hT : pm1 T) (hx : x < T.1) : isoV (A.map (List.map (flp (fun y => decide (f y = x))))) (fun y => if f y = x then !sg y else sg y) f (ntF T x) := by
  have hv := isoV_vn h
  have hF := h.1.1
  have lt2 : ∀ p, p ∈ A.flatten → p.2 < 2 := fun p hp => (hF.2 p hp).2.1
  refine isoV_of (isoS_iff.mp ⟨?_, ?_, h.1.2.2.1, ?_, ?_, ?_, ?_, ?_⟩) (vn_F hv hx)
  · rw [fl_map2]
    exact wkF_flp hF
  · rw [fl_map2, List.length_map]
    exact h.1.2.1
  · intro p hp
    rw [fl_map2] at hp
    obtain ⟨q, q1, rfl⟩ := List.mem_map.mp hp
    rw [flp_1]
    exact h.1.2.2.2.1 q q1
  · intro p q hp hq e
    rw [fl_map2] at hp hq
    obtain ⟨p', p1, rfl⟩ := List.mem_map.mp hp
    obtain ⟨q', q1, rfl⟩ := List.mem_map.mp hq
    rw [flp_1, flp_1] at e ⊢
    exact h.1.2.2.2.2.1 p' q' p1 q1 e
  · intro L hL p hp
    obtain ⟨L0, l1, rfl⟩ := List.mem_map.mp hL
    obtain ⟨q, q1, rfl⟩ := List.mem_map.mp hp
    have nL := L_nd hF.1 l1
    have qF : q ∈ A.flatten := List.mem_flatten.mpr ⟨L0, l1, q1⟩
    have sF : sc L0 q ∈ A.flatten := List.mem_flatten.mpr ⟨L0, l1, sc_in q1 nL⟩
    rw [sc_map nL (fun a b ha hb e => ?_) q1, gl_flp (lt2 q qF), gl_flp (lt2 _ sF), ← (h.2 L0 l1 q q1).1]
    · show (np_swap T.2.2.1 (2 * x) (2 * x + 1)).1 (np_sw (gl f q) (2 * x) (2 * x + 1)) = _
      rw [np_swap_1 (D := fun k => k < 2 * T.1) (vD_vn.mpr hv) (by omega) (by omega) (np_sw_D (D := fun k => k < 2 * T.1) (by omega) (by omega) (gl_lt h qF)), np_sw_i]
    · have aF : a ∈ A.flatten := List.mem_flatten.mpr ⟨L0, l1, ha⟩
      have bF : b ∈ A.flatten := List.mem_flatten.mpr ⟨L0, l1, hb⟩
      have := congrArg (gl f) e
      rw [gl_flp (lt2 a aF), gl_flp (lt2 b bF)] at this
      exact gl_gin h.1 a b aF bF (by rw [← np_sw_i (2 * x) (2 * x + 1) (gl f a), this, np_sw_i])
  · intro p hp
    rw [fl_map2] at hp
    obtain ⟨q, q1, rfl⟩ := List.mem_map.mp hp
    rw [flp_1]
    have hs := h.1.2.2.2.2.2.2.1 q q1
    show su T.2.2.2 x (-T.2.2.2 x) (f q.1) < 0 ↔ (if f q.1 = x then !sg q.1 else sg q.1) = true
    by_cases e : f q.1 = x
    · rw [show su T.2.2.2 x (-T.2.2.2 x) (f q.1) = -T.2.2.2 x from if_pos e, if_pos e]
      rw [e] at hs
      rcases hT x hx with h9 | h9
      · rw [h9] at hs ⊢
        cases hq : sg q.1 with
        | true => exact absurd (hs.mpr hq) (by decide)
        | false => exact ⟨fun _ => rfl, fun _ => by decide⟩
      · rw [h9] at hs ⊢
        rw [hs.mp (by decide)]
        exact ⟨fun h8 => absurd h8 (by decide), fun h8 => absurd h8 (by decide)⟩
    · rw [show su T.2.2.2 x (-T.2.2.2 x) (f q.1) = T.2.2.2 (f q.1) from if_neg e, if_neg e]
      exact hs
  · rw [cirs_map]
    exact h.1.2.2.2.2.2.2.2
end FLP
/-! components turned round -/
section TRN
variable {A : rn_L} {sg : Nat → Bool} {f : Nat → Nat} {T : ow_NT} {t : Nat → Bool}
theorem turn_G {S : ow_NP} {G : Nat → Int32} : ∀ n x, (np_turn t S G n).2 x = if ((decide (2 * x < n) && t (2 * x)) != (decide (2 * x + 1 < n) && t (2 * x + 1))) = true then -G x else G x
  | 0, x => by
    rw [decide_eq_false (Nat.not_lt_zero _), decide_eq_false (Nat.not_lt_zero _)]
    rfl
  | n + 1, x => by
    have ih := turn_G (S := S) (G := G) n x
    rw [np_turn]
    by_cases e : t n = true
    · rw [if_pos e]
      show su (np_turn t S G n).2 (n / 2) (-((np_turn t S G n).2 (n / 2))) x = _
      by_cases ex : x = n / 2
      · rw [show su (np_turn t S G n).2 (n / 2) (-((np_turn t S G n).2 (n / 2))) x = -((np_turn t S G n).2 (n / 2)) from if_pos ex, ← ex, ih]
        by_cases e0 : n = 2 * x
        · rw [decide_eq_false (show ¬ 2 * x < n by omega), decide_eq_false (show ¬ 2 * x + 1 < n by omega), decide_eq_true (show 2 * x < n + 1 by omega), decide_eq_false (show ¬ 2 * x + 1 < n + 1 by omega), ← e0, e]
          rfl
        · have e1 : n = 2 * x + 1 := by omega
          rw [decide_eq_true (show 2 * x < n by omega), decide_eq_false (show ¬ 2 * x + 1 < n by omega), decide_eq_true (show 2 * x < n + 1 by omega), decide_eq_true (show 2 * x + 1 < n + 1 by omega), ← e1, e]
          cases t (2 * x)
          · rfl
          · show - - G x = G x
            exact Int32.neg_neg
      · rw [show su (np_turn t S G n).2 (n / 2) (-((np_turn t S G n).2 (n / 2))) x = (np_turn t S G n).2 x from if_neg ex, ih]
        have k1 : decide (2 * x < n + 1) = decide (2 * x < n) := decide_eq_decide.mpr (by omega)
        have k2 : decide (2 * x + 1 < n + 1) = decide (2 * x + 1 < n) := decide_eq_decide.mpr (by omega)
        rw [k1, k2]
    · rw [if_neg e, ih]
      have e : t n = false := by cases h : t n with
        | true => exact absurd h e
        | false => rfl
      by_cases e0 : n = 2 * x
      · rw [decide_eq_false (show ¬ 2 * x < n by omega), decide_eq_false (show ¬ 2 * x + 1 < n by omega), decide_eq_true (show 2 * x < n + 1 by omega), decide_eq_false (show ¬ 2 * x + 1 < n + 1 by omega), ← e0, e]
        rfl
      · by_cases e1 : n = 2 * x + 1
        · rw [decide_eq_true (show 2 * x < n by omega), decide_eq_false (show ¬ 2 * x + 1 < n by omega), decide_eq_true (show 2 * x < n + 1 by omega), decide_eq_true (show 2 * x + 1 < n + 1 by omega), ← e1, e]
          rfl
        · have k1 : decide (2 * x < n + 1) = decide (2 * x < n) := decide_eq_decide.mpr (by omega)
          have k2 : decide (2 * x + 1 < n + 1) = decide (2 * x + 1 < n) := decide_eq_decide.mpr (by omega)
          rw [k1, k2]
def ntT (T : ow_NT) (t : Nat → Bool) : ow_NT := (T.1, T.2.1, (np_turn t T.2.2.1 T.2.2.2 (2 * T.1)).1, (np_turn t T.2.2.1 T.2.2.2 (2 * T.1)).2)
theorem ntT_1 {k : Nat} (hk : k < 2 * T.1) : (ntT T t).2.2.1.1 k = (if t k = true then T.2.2.1.2 k else T.2.2.1.1 k) ∧ (ntT T t).2.2.1.2 k = if t k = true then T.2.2.1.1 k else T.2.2.1.2 k := by
  have := turn_eq (t := t) (S := T.2.2.1) (G := T.2.2.2) (2 * T.1) k
  show (np_turn t T.2.2.1 T.2.2.2 (2 * T.1)).1.1 k = _ ∧ (np_turn t T.2.2.1 T.2.2.2 (2 * T.1)).1.2 k = _
  rw [this.1, this.2]
  by_cases e : t k = true
  · have h9 : k < 2 * T.1 ∧ t k = true := ⟨hk, e⟩
    constructor
    · rw [if_pos h9, if_pos e]
    · rw [if_pos h9, if_pos e]
  · have h9 : ¬ (k < 2 * T.1 ∧ t k = true) := fun h => e h.2
    constructor
    · rw [if_neg h9, if_neg e]
    · rw [if_neg h9, if_neg e]
theorem ntT_G {x : Nat} (hx : x < T.1) : (ntT T t).2.2.2 x = if (t (2 * x) != t (2 * x + 1)) = true then -T.2.2.2 x else T.2.2.2 x := by
  have := turn_G (t := t) (S := T.2.2.1) (G := T.2.2.2) (2 * T.1) x
  rw [decide_eq_true (show 2 * x < 2 * T.1 by omega), decide_eq_true (show 2 * x + 1 < 2 * T.1 by omega), Bool.true_and, Bool.true_and] at this
  exact this
theorem pm1_T (hT : pm1 T) : pm1 (ntT T t) := by
  intro x hx
  have hx : x < T.1 := hx
  rw [ntT_G (T := T) hx]
  split
  · rcases hT x hx with h | h <;> rw [h]
    · exact Or.inr rfl
    · exact Or.inl rfl
  · exact hT x hx
theorem vn_T (hv : vn T.1 T.2.2.1) (ht : ∀ k, k < 2 * T.1 → t (T.2.2.1.1 k) = t k) : vn T.1 (ntT T t).2.2.1 := by
  have ht2 : ∀ k, k < 2 * T.1 → t (T.2.2.1.2 k) = t k := fun k hk => by
    have := ht _ (hv k hk).2.1
    rw [(hv k hk).2.2.2] at this
    exact this.symm
  intro k hk
  obtain ⟨h1, h2, h3, h4⟩ := hv k hk
  rw [(ntT_1 hk).1, (ntT_1 hk).2]
  by_cases e : t k = true
  · rw [if_pos e, if_pos e]
    refine ⟨h2, h1, ?_, ?_⟩
    · rw [(ntT_1 h2).2, if_pos (by rw [ht2 k hk]; exact e), h4]
    · rw [(ntT_1 h1).1, if_pos (by rw [ht k hk]; exact e), h3]
  · rw [if_neg e, if_neg e]
    refine ⟨h1, h2, ?_, ?_⟩
    · rw [(ntT_1 h1).2, if_neg (by rw [ht k hk]; exact e), h3]
    · rw [(ntT_1 h2).1, if_neg (by rw [ht2 k hk]; exact e), h4]
def dT (t : Nat → Bool) (d : Nat) : Nat := if t (d / 2) = true then 2 * (d / 2) + (1 - d % 2) else d
theorem dT_h (d : Nat) : dT t d / 2 = d / 2 := by
  unfold dT
  split <;> omega
theorem dT_dT (d : Nat) : dT t (dT t d) = d := by
  have h := dT_h (t := t) d
  unfold dT at h ⊢
  by_cases e : t (d / 2) = true
  · rw [if_pos e] at h ⊢
    rw [h, if_pos e]
    omega
  · rw [if_neg e, if_neg e]
theorem dT_0 (v : Nat) : dT t (2 * v) = if t v = true then 2 * v + 1 else 2 * v := by
  unfold dT
  rw [show 2 * v / 2 = v by omega]
  split <;> omega
theorem dT_1 (v : Nat) : dT t (2 * v + 1) = if t v = true then 2 * v else 2 * v + 1 := by
  unfold dT
  rw [show (2 * v + 1) / 2 = v by omega]
  split <;> omega
theorem dT_al (hv : vn T.1 T.2.2.1) (ht : ∀ k, k < 2 * T.1 → t (T.2.2.1.1 k) = t k) {d : Nat} (hd : d < 4 * T.1) : dT t (pn_al (ntT T t).2.2.1 d) = pn_al T.2.2.1 (dT t d) := by
  have ht2 : ∀ k, k < 2 * T.1 → t (T.2.2.1.2 k) = t k := fun k hk => by
    have := ht _ (hv k hk).2.1
    rw [(hv k hk).2.2.2] at this
    exact this.symm
  obtain ⟨v, hvl, e⟩ : ∃ v, v < 2 * T.1 ∧ (d = 2 * v ∨ d = 2 * v + 1) := ⟨d / 2, by omega, by omega⟩
  rcases e with rfl | rfl
  · rw [pn_al0, dT_1, (ntT_1 hvl).1, dT_0]
    by_cases e : t v = true
    · rw [if_pos e, if_pos e, if_pos (by rw [ht2 v hvl]; exact e), pn_al1]
    · rw [if_neg e, if_neg e, if_neg (by rw [ht v hvl]; exact e), pn_al0]
  · rw [pn_al1, dT_0, (ntT_1 hvl).2, dT_1]
    by_cases e : t v = true
    · rw [if_pos e, if_pos e, if_pos (by rw [ht v hvl]; exact e), pn_al0]
    · rw [if_neg e, if_neg e, if_neg (by rw [ht2 v hvl]; exact e), pn_al1]
theorem stG_T (hT : pm1 T) {v : Nat} (hv : v < 2 * T.1) : stG (ntT T t).2.2.2 v = if (t v != t (mt v)) = true then !stG T.2.2.2 v else stG T.2.2.2 v := by
  unfold stG
  rw [ntT_G (show v / 2 < T.1 by omega)]
  have e : (t (2 * (v / 2)) != t (2 * (v / 2) + 1)) = (t v != t (mt v)) := by
    unfold mt
    by_cases e : v % 2 = 0
    · rw [if_pos e, show 2 * (v / 2) = v by omega]
    · rw [if_neg e, show 2 * (v / 2) + 1 = v by omega, show 2 * (v / 2) = v - 1 by omega]
      cases t v <;> cases t (v - 1) <;> rfl
  rw [e]
  cases (t v != t (mt v)) with
  | false => rfl
  | true =>
    rw [if_pos rfl, if_pos rfl]
    rcases hT (v / 2) (by omega) with h | h <;> rw [h] <;> cases decide (v % 2 = 0) <;> rfl
theorem dT_rt (hT : pm1 T) {d : Nat} (hd : d < 4 * T.1) : dT t (pn_rt (stG (ntT T t).2.2.2) d) = pn_rt (stG T.2.2.2) (dT t d) := by
  obtain ⟨v, hvl, e⟩ : ∃ v, v < 2 * T.1 ∧ (d = 2 * v ∨ d = 2 * v + 1) := ⟨d / 2, by omega, by omega⟩
  have hs := stG_T (t := t) hT hvl
  rcases e with rfl | rfl
  · rw [pn_at0, dT_0, hs]
    cases h1 : t v <;> cases h2 : t (mt v) <;> cases h3 : stG T.2.2.2 v <;> simp [pn_at0, pn_at1, dT_0, dT_1, h1, h2, h3]
  · rw [pn_at1, dT_1, hs]
    cases h1 : t v <;> cases h2 : t (mt v) <;> cases h3 : stG T.2.2.2 v <;> simp [pn_at0, pn_at1, dT_0, dT_1, h1, h2, h3]
theorem pl_turn (hv : vn T.1 T.2.2.1) (hc : T.1 ≤ 12) (hT : pm1 T) (ht : ∀ k, k < 2 * T.1 → t (T.2.2.1.1 k) = t k) (hp : nt_plane T = true) : nt_plane (ntT T t) = true := by
  have hv' := vn_T hv ht
  rw [plane_iff (T := ntT T t) hv' hc]
  obtain ⟨R, hR, g, X, f1, f2, f3, f4⟩ := (plane_iff hv hc).mp hp
  have dl : ∀ d, d < 4 * T.1 → dT t d < 4 * T.1 := fun d hd => by
    have := dT_h (t := t) d
    omega
  refine ⟨R, fun v hvl => ?_, fun d => g (dT t d), X.map (dT t), fun d hd => ?_, fun x hx => ?_, ?_, ?_⟩
  · obtain ⟨r, r1, r2, r3⟩ := hR v hvl
    refine ⟨r, r1, r2, r3 (fun v => rch T.1 (ntT T t).2.2.1 r v) (rch_rf _ _ _) (fun j hj hp9 => ?_) (fun j hj hp9 => rch_m hp9 hj)⟩
    by_cases e : t j = true
    · -- the one before in the turned net
      have h1 := (hv j hj).1
      have h3 := (hv j hj).2.2.1
      have : (ntT T t).2.2.1.1 (T.2.2.1.1 j) = j := by
        rw [(ntT_1 h1).1, if_pos (by rw [ht j hj]; exact e), h3]
      have h5 := rch_n (rch_rf T.1 (ntT T t).2.2.1 (T.2.2.1.1 j)) h1
      rw [this] at h5
      exact rch_tr hp9 (rch_sy hv' h1 h5)
    · have := rch_n hp9 hj
      rw [(ntT_1 hj).1, if_neg e] at this
      exact this
  · show g (dT t (pn_rt (stG (ntT T t).2.2.2) (pn_al (ntT T t).2.2.1 d))) = g (dT t d)
    rw [dT_rt hT (pn_al_lt hv' hd), dT_al hv ht hd]
    exact f1 _ (dl d hd)
  · obtain ⟨q, q1, q2⟩ := List.mem_map.mp hx
    rw [← q2]
    exact dl q (f2 q q1)
  · unfold pm_dv
    rw [List.map_map]
    have : X.map ((fun d => g (dT t d)) ∘ dT t) = X.map g := List.map_congr_left (fun q _ => by
      show g (dT t (dT t q)) = g q
      rw [dT_dT])
    rw [this]
    exact f3
  · rw [List.length_map]
    exact f4
end TRN
end
section
/-! 99zzzzzzzzr.prm -/
/-! crossings taken out of plane nets -/
def skx (N : Nat → Nat) (x w : Nat) : Nat := if w = 2 * x then (if N (2 * x) = 2 * x + 1 then N (2 * x + 1) else N (2 * x)) else if w = 2 * x + 1 then (if N (2 * x + 1) = 2 * x then N (2 * x) else N (2 * x + 1)) else w
def rnx (c x v : Nat) : Nat := if v / 2 = c - 1 then 2 * x + v % 2 else v
theorem gl_id (p : vT) : gl (fun x => x) p = 2 * p.1 + p.2 := rfl
section PRM
variable {T : ow_NT} {x : Nat}
theorem sc_wox {A : rn_L} {L : List vT} (hn : L.Nodup) {p : vT} (hp : p ∈ L) (h0 : p ≠ (x, 0)) (h1 : p ≠ (x, 1)) (hF : (x, 0) ∈ L ∨ (x, 1) ∈ L ∨ True) : sc ((L.filter (fun q => decide (q ≠ (x, 0)))).filter (fun q => decide (q ≠ (x, 1)))) p = (let s := sc L p
    if s = (x, 0) then (if sc L (x, 0) = (x, 1) then sc L (x, 1) else sc L (x, 0)) else if s = (x, 1) then (if sc L (x, 1) = (x, 0) then sc L (x, 0) else sc L (x, 1)) else s) := by
  have m1 : p ∈ L.filter (fun q => decide (q ≠ (x, 0))) := List.mem_filter.mpr ⟨hp, decide_eq_true h0⟩
  have n1 : (L.filter (fun q => decide (q ≠ (x, 0)))).Nodup := hn.filter _
  have hne : (x, 1) ≠ ((x, 0) : vT) := fun e => by cases e
  have e1 := sc_fil (r := (x, 0)) hn hp h0
  rw [sc_fil (r := (x, 1)) n1 m1 h1, e1]
  dsimp only
  have in0 : ∀ {q : vT}, q ∈ L → sc L q = (x, 1) → (x, 1) ∈ L := fun hq e => by rw [← e]; exact sc_in hq hn
  by_cases c0 : sc L p = (x, 0)
  · rw [if_pos c0, if_pos c0]
    have h00 : (x, 0) ∈ L := by rw [← c0]; exact sc_in hp hn
    by_cases c1 : sc L (x, 0) = (x, 1)
    · rw [if_pos c1, if_pos c1]
      have h11 : (x, 1) ∈ L := in0 h00 c1
      rw [sc_fil (r := (x, 0)) hn h11 hne]
      by_cases c2 : sc L (x, 1) = (x, 0)
      · -- then p could not come here
        exfalso
        exact h1 (sc_inj hn hp h11 (c0.trans c2.symm))
      · rw [if_neg c2]
    · rw [if_neg c1, if_neg c1]
  · rw [if_neg c0, if_neg c0]
    by_cases c1 : sc L p = (x, 1)
    · rw [if_pos c1, if_pos c1]
      have h11 : (x, 1) ∈ L := in0 hp c1
      rw [sc_fil (r := (x, 0)) hn h11 hne]
    · rw [if_neg c1, if_neg c1]
/-- what comes behind a visit when a crossing has gone -/
theorem rm_next (hv : vn T.1 T.2.2.1) (hc : T.1 ≤ 12) (hx : x < T.1) {v : Nat} (hvl : v < 2 * T.1) (hne : v / 2 ≠ x) : (nt_rm T x).2.2.1.1 (rnx T.1 x v) = rnx T.1 x (skx T.2.2.1.1 x (T.2.2.1.1 v)) := by
  obtain ⟨rl, hrl⟩ := rlK_ex hv
  obtain ⟨hi, -⟩ := netL_iso hrl hv hc
  generalize netL rl T = A at hi
  have hV := isoV_of hi hv
  have lt2 : ∀ p, p ∈ A.flatten → p.2 < 2 := fun p hp => (hV.1.1.2 p hp).2.1
  obtain ⟨q0, q1, q2⟩ := gl_sur hV (show 2 * x < 2 * T.1 by omega)
  have hq2 := lt2 q0 q1
  have eq0 : q0 = (x, 0) := by
    rw [gl_id] at q2
    exact Prod.ext (show q0.1 = x by omega) (show q0.2 = 0 by omega)
  rw [eq0] at q1
  obtain ⟨f', hf', ef⟩ := iso_rm hV q1
  have rg : ∀ p : vT, p.2 < 2 → gl f' p = rnx T.1 x (gl (fun x => x) p) := fun p hp => by
    rw [gl_id]
    unfold gl rnx
    rw [ef p.1]
    by_cases e : p.1 = T.1 - 1
    · rw [if_pos e, if_pos (by omega)]
      omega
    · rw [if_neg e, if_neg (by omega)]
  obtain ⟨p, p1, p2⟩ := gl_sur hV hvl
  have hp2 := lt2 p p1
  have hpx : p.1 ≠ x := fun e => hne (by rw [← p2, gl_id]; omega)
  obtain ⟨L, l1, l2⟩ := List.mem_flatten.mp p1
  have nL := L_nd hV.1.1.1 l1
  have hp0 : p ≠ (x, 0) := fun e => hpx (by rw [e])
  have hp1 : p ≠ (x, 1) := fun e => hpx (by rw [e])
  have l3 : (L.filter (fun q => decide (q ≠ (x, 0)))).filter (fun q => decide (q ≠ (x, 1))) ∈ wox A x := List.mem_map.mpr ⟨_, List.mem_map.mpr ⟨L, l1, rfl⟩, rfl⟩
  have l4 : p ∈ (L.filter (fun q => decide (q ≠ (x, 0)))).filter (fun q => decide (q ≠ (x, 1))) := List.mem_filter.mpr ⟨List.mem_filter.mpr ⟨l2, decide_eq_true hp0⟩, decide_eq_true hp1⟩
  have key := (hf'.2 _ l3 p l4).1
  have hsF : ∀ r, r ∈ L → r ∈ A.flatten := fun r hr => List.mem_flatten.mpr ⟨L, l1, hr⟩
  have nxt : ∀ r, r ∈ L → T.2.2.1.1 (gl (fun x => x) r) = gl (fun x => x) (sc L r) := fun r hr => (hV.2 L l1 r hr).1
  have ginj : ∀ r s, r ∈ A.flatten → s ∈ A.flatten → gl (fun x => x) r = gl (fun x => x) s → r = s := fun r s hr hs e => gl_gin hV.1 r s hr hs e
  have hx1 : (x, 1) ∈ A.flatten := (hV.1.1.2 _ q1).2.2
  rw [rg p hp2, sc_wox (A := A) nL l2 hp0 hp1 (Or.inr (Or.inr trivial))] at key
  have key : (nt_rm T x).2.2.1.1 (rnx T.1 x (gl (fun x => x) p)) = gl f' (let s := sc L p
    if s = (x, 0) then (if sc L (x, 0) = (x, 1) then sc L (x, 1) else sc L (x, 0)) else if s = (x, 1) then (if sc L (x, 1) = (x, 0) then sc L (x, 0) else sc L (x, 1)) else s) := key
  rw [p2] at key
  rw [key]
  have en : T.2.2.1.1 v = gl (fun x => x) (sc L p) := by rw [← p2]; exact nxt p l2
  have hsL := sc_in l2 nL
  dsimp only
  rw [en]
  unfold skx
  by_cases c0 : sc L p = (x, 0)
  · have h00 : (x, 0) ∈ L := by rw [← c0]; exact hsL
    have e0 := nxt _ h00
    have s00 := sc_in h00 nL
    rw [if_pos c0, c0, if_pos (show gl (fun x => x) (x, 0) = 2 * x from rfl)]
    have e0 : T.2.2.1.1 (2 * x) = gl (fun x => x) (sc L (x, 0)) := e0
    by_cases c1 : sc L (x, 0) = (x, 1)
    · have h11 : (x, 1) ∈ L := by rw [← c1]; exact s00
      have e1 : T.2.2.1.1 (2 * x + 1) = gl (fun x => x) (sc L (x, 1)) := nxt _ h11
      rw [if_pos c1, if_pos (by rw [e0, c1]; rfl), e1]
      exact rg _ (lt2 _ (hsF _ (sc_in h11 nL)))
    · rw [if_neg c1, if_neg (fun h9 => c1 (ginj _ _ (hsF _ s00) hx1 (by rw [← e0, h9]; rfl))), e0]
      exact rg _ (lt2 _ (hsF _ s00))
  · have n0 : ¬ gl (fun x => x) (sc L p) = 2 * x := fun h9 => c0 (ginj _ _ (hsF _ hsL) q1 (by rw [h9]; rfl))
    rw [if_neg c0, if_neg n0]
    by_cases c1 : sc L p = (x, 1)
    · have h11 : (x, 1) ∈ L := by rw [← c1]; exact hsL
      have e1 : T.2.2.1.1 (2 * x + 1) = gl (fun x => x) (sc L (x, 1)) := nxt _ h11
      have s11 := sc_in h11 nL
      rw [if_pos c1, c1, if_pos (show gl (fun x => x) (x, 1) = 2 * x + 1 from rfl)]
      by_cases c2 : sc L (x, 1) = (x, 0)
      · have h00 : (x, 0) ∈ L := by rw [← c2]; exact s11
        have e0 : T.2.2.1.1 (2 * x) = gl (fun x => x) (sc L (x, 0)) := nxt _ h00
        rw [if_pos c2, if_pos (by rw [e1, c2]; rfl), e0]
        exact rg _ (lt2 _ (hsF _ (sc_in h00 nL)))
      · rw [if_neg c2, if_neg (fun h9 => c2 (ginj _ _ (hsF _ s11) q1 (by rw [← e1, h9]; rfl))), e1]
        exact rg _ (lt2 _ (hsF _ s11))
    · have n1 : ¬ gl (fun x => x) (sc L p) = 2 * x + 1 := fun h9 => c1 (ginj _ _ (hsF _ hsL) hx1 (by rw [h9]; rfl))
      rw [if_neg c1, if_neg n1]
      exact rg _ (lt2 _ (hsF _ hsL))
theorem vn_rmT (hv : vn T.1 T.2.2.1) (hx : x < T.1) : vn (nt_rm T x).1 (nt_rm T x).2.2.1 := by
  obtain ⟨c, hc⟩ : ∃ c, T.1 = c + 1 := ⟨T.1 - 1, by omega⟩
  show vn (T.1 - 1) (np_rmS T.2.2.1 x (T.1 - 1))
  rw [hc] at hv ⊢
  exact vn_rm hv (by omega)
theorem pm1_rm (hT : pm1 T) (hx : x < T.1) : pm1 (nt_rm T x) := by
  intro k hk
  have hk : k < T.1 - 1 := hk
  show np_rmG T.2.2.2 x (T.1 - 1) k = 1 ∨ np_rmG T.2.2.2 x (T.1 - 1) k = -1
  unfold np_rmG
  split
  · exact hT k (by omega)
  · unfold su
    split
    · exact hT _ (by omega)
    · exact hT k (by omega)
/-- the visits of what is left, in the net before -/
def rnv2 (c x k : Nat) : Nat := if k / 2 = x then 2 * (c - 1) + k % 2 else k
theorem rnx_b (hx : x < T.1) {k : Nat} (hk : k < 2 * (T.1 - 1)) : rnx T.1 x (rnv2 T.1 x k) = k ∧ rnv2 T.1 x k < 2 * T.1 ∧ rnv2 T.1 x k / 2 ≠ x := by
  unfold rnx rnv2
  by_cases e : k / 2 = x
  · rw [if_pos e, if_pos (by omega)]
    omega
  · rw [if_neg e, if_neg (by omega)]
    omega
theorem rnx_f (hx : x < T.1) {v : Nat} (hv : v < 2 * T.1) (hne : v / 2 ≠ x) : rnv2 T.1 x (rnx T.1 x v) = v ∧ rnx T.1 x v < 2 * (T.1 - 1) := by
  unfold rnx rnv2
  by_cases e : v / 2 = T.1 - 1
  · rw [if_pos e, if_pos (by omega)]
    omega
  · rw [if_neg e, if_neg hne]
    omega
theorem skx_ne (hv : vn T.1 T.2.2.1) (hx : x < T.1) {v : Nat} (hvl : v < 2 * T.1) (hne : v / 2 ≠ x) : skx T.2.2.1.1 x (T.2.2.1.1 v) < 2 * T.1 ∧ skx T.2.2.1.1 x (T.2.2.1.1 v) / 2 ≠ x := by
  obtain ⟨h1, h2, h3, h4⟩ := hv v hvl
  have a0 := hv (2 * x) (by omega)
  have a1 := hv (2 * x + 1) (by omega)
  have i0 : ¬ T.2.2.1.1 v = T.2.2.1.1 (2 * x) := fun e => by have := vn_inj hv hvl (by omega) e; omega
  have i1 : ¬ T.2.2.1.1 v = T.2.2.1.1 (2 * x + 1) := fun e => by have := vn_inj hv hvl (by omega) e; omega
  have i2 : ¬ T.2.2.1.1 (2 * x) = T.2.2.1.1 (2 * x + 1) := fun e => by have := vn_inj hv (by omega) (by omega) e; omega
  unfold skx
  by_cases e0 : T.2.2.1.1 v = 2 * x
  · rw [if_pos e0]
    rw [e0] at i0 i1
    by_cases e1 : T.2.2.1.1 (2 * x) = 2 * x + 1
    · rw [if_pos e1]
      rw [e1] at i2
      exact ⟨a1.1, by omega⟩
    · rw [if_neg e1]
      exact ⟨a0.1, by omega⟩
  · rw [if_neg e0]
    by_cases e1 : T.2.2.1.1 v = 2 * x + 1
    · rw [if_pos e1]
      rw [e1] at i0 i1
      by_cases e2 : T.2.2.1.1 (2 * x + 1) = 2 * x
      · rw [if_pos e2]
        rw [e2] at i2
        exact ⟨a0.1, by omega⟩
      · rw [if_neg e2]
        exact ⟨a1.1, by omega⟩
    · rw [if_neg e1]
      exact ⟨h1, by omega⟩
/-- a net that shows what is left, and the crossing apart, is plane: what is left is plane -/
theorem pl_rm (hv : vn T.1 T.2.2.1) (hc : T.1 ≤ 12) (hx : x < T.1) {S2 : ow_NP} (hv2 : vn T.1 S2) (h2 : ∀ v, v < 2 * T.1 → v / 2 ≠ x → S2.1 v = skx T.2.2.1.1 x (T.2.2.1.1 v)) (hp : pn_pl T.1 S2 (stG T.2.2.2)) : nt_plane (nt_rm T x) = true := by
  have hc1 : (nt_rm T x).1 ≤ 12 := by show T.1 - 1 ≤ 12; omega
  rw [plane_iff (vn_rmT hv hx) hc1]
  refine sub_pl (ψ := rnv2 T.1 x) hv2 stG_fl (vn_rmT hv hx) (fun k hk => ?_) (fun u v hu hv9 e => ?_) hp
  · have hk : k < 2 * (T.1 - 1) := hk
    obtain ⟨b1, b2, b3⟩ := rnx_b hx hk
    obtain ⟨s1, s2⟩ := skx_ne hv hx b2 b3
    refine ⟨b2, ?_, ?_, ?_⟩
    · rw [h2 _ b2 b3]
      have := rm_next hv hc hx b2 b3
      rw [b1] at this
      rw [this, (rnx_f hx s1 s2).1]
    · unfold rnv2
      rw [mt_h2]
      by_cases e : k / 2 = x
      · rw [if_pos e, if_pos e]
        unfold mt
        split <;> split <;> omega
      · rw [if_neg e, if_neg e]
    · have hg : (nt_rm T x).2.2.2 (k / 2) = T.2.2.2 (rnv2 T.1 x k / 2) := by
        show np_rmG T.2.2.2 x (T.1 - 1) (k / 2) = _
        unfold np_rmG rnv2
        by_cases e : k / 2 = x
        · rw [if_pos e]
          by_cases ex : x = T.1 - 1
          · omega
          · rw [if_neg ex, show (2 * (T.1 - 1) + k % 2) / 2 = T.1 - 1 by omega]
            exact if_pos e
        · rw [if_neg e]
          by_cases ex : x = T.1 - 1
          · rw [if_pos ex]
          · rw [if_neg ex]
            exact if_neg e
      unfold stG
      rw [hg]
      have : rnv2 T.1 x k % 2 = k % 2 := by
        unfold rnv2
        split <;> omega
      rw [this]
  · have h1 := (rnx_b hx hu).1
    have h3 := (rnx_b hx hv9).1
    rw [← h1, e, h3]
end PRM
end
section
/-! 99zzzzzzzzs.psm -/
/-! a kink taken out, a crossing smoothed: plane nets stay plane -/
section PSM
variable {c : Nat} {S : ow_NP} {b : Nat → Bool} {u o : Nat}
/-- the strand before u and what is behind o are tied: u and o lie apart; c1 comes before u, u before o -/
theorem iso_ring (hv : vn c S) (hu : u < 2 * c) (ho : o < 2 * c) (hm : mt u = o) (hn : S.1 u = o) (hne : S.2 u ≠ o) : ¬ rch c (np_exchange S (S.2 u) o) (S.2 u) o := by
  obtain ⟨-, c1, -, c4⟩ := hv u hu
  have hv' := vn_exchange hv c1 ho
  have huo : u ≠ o := fun e => by
    unfold mt at hm
    split at hm <;> omega
  have hcu : S.2 u ≠ u := fun e => by
    rw [e] at c4
    exact huo (c4.symm.trans hn)
  have eo : (np_exchange S (S.2 u) o).1 o = u := by rw [np_exchange_1, if_pos rfl, c4]
  have eu : (np_exchange S (S.2 u) o).1 u = o := by rw [np_exchange_1, if_neg huo, if_neg (fun e => hcu e.symm), hn]
  have hm2 : mt o = u := by rw [← hm, mt_mt]
  intro h
  have h2 := rch_sy hv' c1 h
  have := h2 (fun k => k = o ∨ k = u) (Or.inl rfl) (fun j _ hj => by
    rcases hj with rfl | rfl
    · exact Or.inr eo
    · exact Or.inl eu) (fun j _ hj => by
    rcases hj with rfl | rfl
    · exact Or.inr hm2
    · exact Or.inl hm)
  rcases this with e | e
  · exact hne e
  · exact hcu e
/-- a kink u, o laid apart -/
def knS (S : ow_NP) (u o : Nat) : ow_NP := if S.2 u = o then S else np_exchange S (S.2 u) o
theorem knS_ok (hv : vn c S) (hb : pn_fl b) (hp : pn_pl c S b) (hu : u < 2 * c) (ho : o < 2 * c) (hm : mt u = o) (hn : S.1 u = o) : vn c (knS S u o) ∧ pn_pl c (knS S u o) b ∧ ∀ k, k < 2 * c → k ≠ u → k ≠ o → (knS S u o).1 k = if S.1 k = u then S.1 o else S.1 k := by
  obtain ⟨-, c1, -, c4⟩ := hv u hu
  have huo : u ≠ o := fun e => by
    unfold mt at hm
    split at hm <;> omega
  unfold knS
  by_cases e : S.2 u = o
  · rw [if_pos e]
    refine ⟨hv, hp, fun k hk k1 k2 => ?_⟩
    rw [if_neg (fun h9 => k2 ?_)]
    rw [← e, ← h9, (hv k hk).2.2.1]
  · rw [if_neg e]
    have hnr := iso_ring hv hu ho hm hn e
    refine ⟨vn_exchange hv c1 ho, pn_exch hv hb hp c1 ho e ?_, fun k hk k1 k2 => ?_⟩
    · exact Or.inr (Or.inl (ex_bridge hv hb hp c1 ho hnr).1)
    · rw [np_exchange_1, if_neg k2]
      by_cases h9 : S.1 k = u
      · have : k = S.2 u := by rw [← h9, (hv k hk).2.2.1]
        rw [if_pos this, if_pos h9]
      · rw [if_neg (fun h8 => h9 (by rw [h8, c4])), if_neg h9]
end PSM
section PS2
variable {T : ow_NT} {x : Nat}
/-- a crossing whose visits stand one behind the other goes -/
theorem pl_kink (hv : vn T.1 T.2.2.1) (hc : T.1 ≤ 12) (hx : x < T.1) (hk : T.2.2.1.1 (2 * x) = 2 * x + 1 ∨ T.2.2.1.1 (2 * x + 1) = 2 * x) (hp : nt_plane T = true) : nt_plane (nt_rm T x) = true := by
  have hpl := (plane_iff hv hc).mp hp
  have l0 : 2 * x < 2 * T.1 := by omega
  have l1 : 2 * x + 1 < 2 * T.1 := by omega
  rcases hk with hk | hk
  · obtain ⟨k1, k2, k3⟩ := knS_ok hv stG_fl hpl l0 l1 (mt_ev x) hk
    refine pl_rm hv hc hx k1 (fun v hvl hne => ?_) k2
    rw [k3 v hvl (by omega) (by omega)]
    unfold skx
    by_cases e : T.2.2.1.1 v = 2 * x
    · rw [if_pos e, if_pos e, if_pos hk]
    · have e2 : T.2.2.1.1 v ≠ 2 * x + 1 := fun e9 => hne (by have := vn_inj hv hvl l0 (e9.trans hk.symm); omega)
      rw [if_neg e, if_neg e, if_neg e2]
  · obtain ⟨k1, k2, k3⟩ := knS_ok hv stG_fl hpl l1 l0 (mt_od x) hk
    refine pl_rm hv hc hx k1 (fun v hvl hne => ?_) k2
    rw [k3 v hvl (by omega) (by omega)]
    unfold skx
    have e2 : T.2.2.1.1 v ≠ 2 * x := fun e9 => hne (by have := vn_inj hv hvl l1 (e9.trans hk.symm); omega)
    by_cases e : T.2.2.1.1 v = 2 * x + 1
    · rw [if_pos e, if_neg e2, if_pos e, if_pos hk]
    · rw [if_neg e, if_neg e2, if_neg e]
/-- a crossing smoothed -/
def ntSm (T : ow_NT) (x : Nat) : ow_NT := nt_rm (T.1, T.2.1, np_exchange T.2.2.1 (2 * x) (2 * x + 1), T.2.2.2) x
theorem pl_smooth (hv : vn T.1 T.2.2.1) (hc : T.1 ≤ 12) (hx : x < T.1) (hp : nt_plane T = true) : nt_plane (ntSm T x) = true := by
  have hpl := (plane_iff hv hc).mp hp
  have l0 : 2 * x < 2 * T.1 := by omega
  have l1 : 2 * x + 1 < 2 * T.1 := by omega
  have hvE := vn_exchange hv l0 l1
  have i2 : ¬ T.2.2.1.1 (2 * x) = T.2.2.1.1 (2 * x + 1) := fun e => by have := vn_inj hv l0 l1 e; omega
  -- what the smoothed net has behind a visit
  have want : ∀ v, v < 2 * T.1 → v / 2 ≠ x → skx (np_exchange T.2.2.1 (2 * x) (2 * x + 1)).1 x ((np_exchange T.2.2.1 (2 * x) (2 * x + 1)).1 v) = if T.2.2.1.1 v = 2 * x then (if T.2.2.1.1 (2 * x + 1) = 2 * x + 1 then T.2.2.1.1 (2 * x) else T.2.2.1.1 (2 * x + 1)) else if T.2.2.1.1 v = 2 * x + 1 then (if T.2.2.1.1 (2 * x) = 2 * x then T.2.2.1.1 (2 * x + 1) else T.2.2.1.1 (2 * x)) else T.2.2.1.1 v := by
    intro v hvl hne
    have e0 : (np_exchange T.2.2.1 (2 * x) (2 * x + 1)).1 (2 * x) = T.2.2.1.1 (2 * x + 1) := by rw [np_exchange_1, if_neg (by omega), if_pos rfl]
    have e1 : (np_exchange T.2.2.1 (2 * x) (2 * x + 1)).1 (2 * x + 1) = T.2.2.1.1 (2 * x) := by rw [np_exchange_1, if_pos rfl]
    have ev : (np_exchange T.2.2.1 (2 * x) (2 * x + 1)).1 v = T.2.2.1.1 v := by rw [np_exchange_1, if_neg (by omega), if_neg (by omega)]
    unfold skx
    rw [e0, e1, ev]
  obtain ⟨a1, a2, a3, a4⟩ := hv (2 * x) l0
  by_cases ha : T.2.2.1.2 (2 * x) = 2 * x + 1
  · -- the visit under comes before the one over
    have hk : T.2.2.1.1 (2 * x + 1) = 2 * x := by rw [← ha]; exact a4
    obtain ⟨k1, k2, k3⟩ := knS_ok hv stG_fl hpl l1 l0 (mt_od x) hk
    refine pl_rm (T := (T.1, T.2.1, np_exchange T.2.2.1 (2 * x) (2 * x + 1), T.2.2.2)) hvE hc hx k1 (fun v hvl hne => ?_) k2
    rw [k3 v hvl (by omega) (by omega)]
    refine Eq.trans ?_ (want v hvl hne).symm
    have e2 : T.2.2.1.1 v ≠ 2 * x := fun e9 => hne (by have := vn_inj hv hvl l1 (e9.trans hk.symm); omega)
    rw [if_neg e2]
    by_cases e : T.2.2.1.1 v = 2 * x + 1
    · rw [if_pos e, if_pos e, if_neg (fun e9 => i2 (e9.trans hk.symm))]
    · rw [if_neg e, if_neg e]
  · -- first the strand before the visit over goes on behind the visit under
    have hS1 : vn T.1 (np_exchange T.2.2.1 (T.2.2.1.2 (2 * x)) (2 * x + 1)) := vn_exchange hv a2 l1
    have f0 : pn_ph T.2.2.1 (stG T.2.2.2) (2 * T.2.2.1.2 (2 * x)) = pn_rt (stG T.2.2.2) (2 * (2 * x) + 1) := by
      unfold pn_ph
      rw [pn_al0, a4]
    have f1 : pn_ph T.2.2.1 (stG T.2.2.2) (2 * T.2.2.1.1 (2 * x + 1) + 1) = pn_rt (stG T.2.2.2) (2 * (2 * x + 1)) := by
      unfold pn_ph
      rw [pn_al1, (hv _ l1).2.2.1]
    have hp1 : pn_pl T.1 (np_exchange T.2.2.1 (T.2.2.1.2 (2 * x)) (2 * x + 1)) (stG T.2.2.2) := by
      refine pn_exch hv stG_fl hpl a2 l1 ha (Or.inr ?_)
      have hfl := stG_fl (G := T.2.2.2) (2 * x)
      rw [mt_ev] at hfl
      cases hb : stG T.2.2.2 (2 * x) with
      | true =>
        left
        refine ⟨1, ?_⟩
        show pn_ph T.2.2.1 (stG T.2.2.2) (2 * T.2.2.1.2 (2 * x)) = _
        rw [f0, pn_at1, hb, if_pos rfl, mt_ev]
      | false =>
        right
        rw [a4]
        refine or_sy (n := 4 * T.1) (fun d hd => pn_ph_lt hv hd) (fun d e hd he q => pn_ph_inj hv stG_fl hd he q) (show 2 * T.2.2.1.1 (2 * x + 1) + 1 < 4 * T.1 by have := (hv _ l1).1; omega) ⟨1, ?_⟩
        show pn_ph T.2.2.1 (stG T.2.2.2) (2 * T.2.2.1.1 (2 * x + 1) + 1) = _
        rw [f1, pn_at0, hfl, hb, mt_od]
        rfl
    have n1 : (np_exchange T.2.2.1 (T.2.2.1.2 (2 * x)) (2 * x + 1)).1 (2 * x + 1) = 2 * x := by rw [np_exchange_1, if_pos rfl, a4]
    obtain ⟨k1, k2, k3⟩ := knS_ok hS1 stG_fl hp1 l1 l0 (mt_od x) n1
    refine pl_rm (T := (T.1, T.2.1, np_exchange T.2.2.1 (2 * x) (2 * x + 1), T.2.2.2)) hvE hc hx k1 (fun v hvl hne => ?_) k2
    rw [k3 v hvl (by omega) (by omega)]
    refine Eq.trans ?_ (want v hvl hne).symm
    have hvu : v ≠ 2 * x + 1 := by omega
    have hvo : v ≠ 2 * x := by omega
    have eo : (np_exchange T.2.2.1 (T.2.2.1.2 (2 * x)) (2 * x + 1)).1 (2 * x) = if T.2.2.1.1 (2 * x) = 2 * x then T.2.2.1.1 (2 * x + 1) else T.2.2.1.1 (2 * x) := by
      rw [np_exchange_1, if_neg (by omega)]
      by_cases e : T.2.2.1.1 (2 * x) = 2 * x
      · rw [if_pos e, if_pos (by rw [← e, a3]; exact e.symm ▸ rfl)]
      · rw [if_neg e, if_neg (fun h9 => e (by rw [← h9] at a4; exact a4))]
    have evv : (np_exchange T.2.2.1 (T.2.2.1.2 (2 * x)) (2 * x + 1)).1 v = if T.2.2.1.1 v = 2 * x then T.2.2.1.1 (2 * x + 1) else T.2.2.1.1 v := by
      rw [np_exchange_1, if_neg hvu]
      by_cases e : T.2.2.1.1 v = 2 * x
      · have : v = T.2.2.1.2 (2 * x) := by rw [← e, (hv v hvl).2.2.1]
        rw [if_pos this, if_pos e]
      · rw [if_neg (fun h8 => e (by rw [h8, a4])), if_neg e]
    rw [evv, eo]
    by_cases e : T.2.2.1.1 v = 2 * x
    · rw [if_pos e, if_pos e]
      by_cases e1 : T.2.2.1.1 (2 * x + 1) = 2 * x + 1
      · rw [if_pos e1, if_pos e1, if_neg (fun e9 => hvo (vn_inj hv hvl l0 (e.trans e9.symm)))]
      · rw [if_neg e1, if_neg e1]
    · rw [if_neg e, if_neg e]
end PS2
end
