/-! chain: when two rows of groups leave the same -/
section XCH9
variable {p : Int} {n0 n1 n2 m0 m1 m2 : Nat} {d0 d1 e0 e1 f0 f1 f2 : Nat → vc9}
theorem ap_z (h : zq9 p m0 (fun _ => 0) (fun _ => 0)) {n m : Nat} {d : Nat → vc9} {v : vc9} (hv : zq9 p n v (fun _ => 0)) : zq9 p m (ap9 d n v) (fun _ => 0) := zq_t (ap_q hv) (fun j _ => by rw [ap_0, Int.sub_self]; exact Int.dvd_zero p)
/-- from kernels and images to sizes and ranks -/
theorem hd_rk (hp : pr9 p) (hi : iv9 p) (hdd : ∀ v, zq9 p n2 (ap9 d1 n1 (ap9 d0 n0 v)) (fun _ => 0)) (hee : ∀ v, zq9 p m2 (ap9 e1 m1 (ap9 e0 m0 v)) (fun _ => 0)) (h : dm9 p n1 (kr9 p n2 d1 n1) + dm9 p m1 (sp9 p m1 (rwl9 e0 m0)) = dm9 p m1 (kr9 p m2 e1 m1) + dm9 p n1 (sp9 p n1 (rwl9 d0 n0))) : n1 + (rk9 p m2 (rwl9 e1 m1) + rk9 p m1 (rwl9 e0 m0)) = m1 + (rk9 p n2 (rwl9 d1 n1) + rk9 p n1 (rwl9 d0 n0)) := by
  have k1 := kr_dm (m := n2) (n := n1) (d := d1) hp.1 hi
  have k2 := kr_dm (m := m2) (n := m1) (d := e1) hp.1 hi
  rw [← rk_dm hp hi, ← rk_dm hp hi] at h
  omega
/-- f one to one from e to d; what comes from f by d comes from f but for an image -/
theorem quo9 (hp : pr9 p) (hi : iv9 p) (hdd : ∀ v, zq9 p n2 (ap9 d1 n1 (ap9 d0 n0 v)) (fun _ => 0)) (hee : ∀ v, zq9 p m2 (ap9 e1 m1 (ap9 e0 m0 v)) (fun _ => 0)) (c0 : ∀ v, zq9 p n1 (ap9 f1 m1 (ap9 e0 m0 v)) (ap9 d0 n0 (ap9 f0 m0 v))) (c1 : ∀ v, zq9 p n2 (ap9 f2 m2 (ap9 e1 m1 v)) (ap9 d1 n1 (ap9 f1 m1 v))) (i1 : ∀ v, zq9 p n1 (ap9 f1 m1 v) (fun _ => 0) → zq9 p m1 v (fun _ => 0)) (i2 : ∀ v, zq9 p n2 (ap9 f2 m2 v) (fun _ => 0) → zq9 p m2 v (fun _ => 0)) (r1 : ∀ v u, zq9 p n2 (ap9 d1 n1 v) (ap9 f2 m2 u) → ∃ t w, zq9 p n1 v (fun i => ap9 f1 m1 t i + ap9 d0 n0 w i)) (r0 : ∀ v u, zq9 p n1 (ap9 d0 n0 v) (ap9 f1 m1 u) → ∃ t, zq9 p n1 (ap9 d0 n0 v) (ap9 d0 n0 (ap9 f0 m0 t))) : n1 + (rk9 p m2 (rwl9 e1 m1) + rk9 p m1 (rwl9 e0 m0)) = m1 + (rk9 p n2 (rwl9 d1 n1) + rk9 p n1 (rwl9 d0 n0)) := by
  have z0 : ∀ {n m : Nat} {d : Nat → vc9} {v : vc9}, zq9 p n v (fun _ => 0) → zq9 p m (ap9 d n v) (fun _ => 0) := fun hv => zq_t (ap_q hv) (fun j _ => by rw [ap_0, Int.sub_self]; exact Int.dvd_zero p)
  refine hd_rk hp hi hdd hee (hd_eq hp hi (F := f1) sub_kr sub_kr (sub_sp _) (sub_sp _) (fun v hv => ?_) (fun v hv => ?_) (fun v hv => ?_) (fun v hv => ?_) (fun z hz => ?_) (fun z hz hb => ?_))
  · obtain ⟨w, hw⟩ := sp_ap.mp hv
    exact zq_t (ap_q hw) (hdd w)
  · obtain ⟨w, hw⟩ := sp_ap.mp hv
    exact zq_t (ap_q hw) (hee w)
  · exact zq_t (zq_s (c1 v)) (z0 hv)
  · obtain ⟨w, hw⟩ := sp_ap.mp hv
    exact sp_ap.mpr ⟨ap9 f0 m0 w, zq_t (ap_q hw) (c0 w)⟩
  · obtain ⟨t, w, h1⟩ := r1 z (fun _ => 0) (zq_t hz (zq_s (z0 zq_r)))
    refine ⟨t, i2 _ (zq_t (c1 t) ?_), sp_ap.mpr ⟨w, fun i hi9 => ?_⟩⟩
    · -- d1 (f1 t) = d1 (z - d0 w) = 0
      have h2 := ap_q (d := d1) (m := n2) h1
      intro j hj
      have a1 := h2 j hj
      have a2 := hz j hj
      have a3 := hdd w j hj
      rw [ap_add] at a1
      have := Int.dvd_sub (Int.dvd_sub a2 a1) a3
      rw [show ap9 d1 n1 z j - 0 - (ap9 d1 n1 z j - (ap9 d1 n1 (ap9 f1 m1 t) j + ap9 d1 n1 (ap9 d0 n0 w) j)) - (ap9 d1 n1 (ap9 d0 n0 w) j - 0) = ap9 d1 n1 (ap9 f1 m1 t) j - 0 by omega] at this
      exact this
    · have a1 := h1 i hi9
      show p ∣ z i - ap9 f1 m1 t i - ap9 d0 n0 w i
      rw [show z i - ap9 f1 m1 t i - ap9 d0 n0 w i = z i - (ap9 f1 m1 t i + ap9 d0 n0 w i) by omega]
      exact a1
  · obtain ⟨c, hc⟩ := sp_ap.mp hb
    obtain ⟨t, ht⟩ := r0 c z (zq_s hc)
    refine sp_ap.mpr ⟨t, ?_⟩
    have h3 : zq9 p n1 (ap9 f1 m1 z) (ap9 f1 m1 (ap9 e0 m0 t)) := zq_t hc (zq_t ht (zq_s (c0 t)))
    have h4 := i1 (fun i => z i + (-1) * ap9 e0 m0 t i) (fun j hj => by
      rw [ap_add, ap_mul]
      have := h3 j hj
      rw [show ap9 f1 m1 z j + -1 * ap9 f1 m1 (ap9 e0 m0 t) j - 0 = ap9 f1 m1 z j - ap9 f1 m1 (ap9 e0 m0 t) j by omega]
      exact this)
    intro i hi9
    have := h4 i hi9
    rw [show z i + -1 * ap9 e0 m0 t i - 0 = z i - ap9 e0 m0 t i by omega] at this
    exact this
/-- f onto from d to e; what f takes to 0 is an image of such, if it is taken to 0 by d -/
theorem sbx9 (hp : pr9 p) (hi : iv9 p) (hdd : ∀ v, zq9 p n2 (ap9 d1 n1 (ap9 d0 n0 v)) (fun _ => 0)) (hee : ∀ v, zq9 p m2 (ap9 e1 m1 (ap9 e0 m0 v)) (fun _ => 0)) (c0 : ∀ v, zq9 p m1 (ap9 f1 n1 (ap9 d0 n0 v)) (ap9 e0 m0 (ap9 f0 n0 v))) (c1 : ∀ v, zq9 p m2 (ap9 f2 n2 (ap9 d1 n1 v)) (ap9 e1 m1 (ap9 f1 n1 v))) (s0 : ∀ u, ∃ v, zq9 p m0 (ap9 f0 n0 v) u) (s1 : ∀ u, ∃ v, zq9 p m1 (ap9 f1 n1 v) u) (r1 : ∀ v, zq9 p m1 (ap9 f1 n1 v) (fun _ => 0) → zq9 p n2 (ap9 d1 n1 v) (fun _ => 0) → ∃ w, zq9 p n1 v (ap9 d0 n0 w)) (r2 : ∀ v, zq9 p m2 (ap9 f2 n2 (ap9 d1 n1 v)) (fun _ => 0) → ∃ w, zq9 p m1 (ap9 f1 n1 w) (fun _ => 0) ∧ zq9 p n2 (ap9 d1 n1 v) (ap9 d1 n1 w)) : m1 + (rk9 p n2 (rwl9 d1 n1) + rk9 p n1 (rwl9 d0 n0)) = n1 + (rk9 p m2 (rwl9 e1 m1) + rk9 p m1 (rwl9 e0 m0)) := by
  have z0 : ∀ {n m : Nat} {d : Nat → vc9} {v : vc9}, zq9 p n v (fun _ => 0) → zq9 p m (ap9 d n v) (fun _ => 0) := fun hv => zq_t (ap_q hv) (fun j _ => by rw [ap_0, Int.sub_self]; exact Int.dvd_zero p)
  refine hd_rk hp hi hee hdd (hd_eq hp hi (F := f1) sub_kr sub_kr (sub_sp _) (sub_sp _) (fun v hv => ?_) (fun v hv => ?_) (fun v hv => ?_) (fun v hv => ?_) (fun z hz => ?_) (fun z hz hb => ?_))
  · obtain ⟨w, hw⟩ := sp_ap.mp hv
    exact zq_t (ap_q hw) (hee w)
  · obtain ⟨w, hw⟩ := sp_ap.mp hv
    exact zq_t (ap_q hw) (hdd w)
  · exact zq_t (zq_s (c1 v)) (z0 hv)
  · obtain ⟨w, hw⟩ := sp_ap.mp hv
    exact sp_ap.mpr ⟨ap9 f0 n0 w, zq_t (ap_q hw) (c0 w)⟩
  · obtain ⟨v, hv⟩ := s1 z
    obtain ⟨w, w1, w2⟩ := r2 v (zq_t (c1 v) (zq_t (ap_q hv) hz))
    refine ⟨fun i => v i + (-1) * w i, fun j hj => ?_, sp_q (fun i hi9 => ?_) sp_0⟩
    · rw [ap_add, ap_mul]
      have := w2 j hj
      rw [show ap9 d1 n1 v j + -1 * ap9 d1 n1 w j - 0 = ap9 d1 n1 v j - ap9 d1 n1 w j by omega]
      exact this
    · have a1 := hv i hi9
      have a2 := w1 i hi9
      rw [ap_add, ap_mul]
      have := Int.dvd_sub a2 a1
      rw [show ap9 f1 n1 w i - 0 - (ap9 f1 n1 v i - z i) = z i - (ap9 f1 n1 v i + -1 * ap9 f1 n1 w i) - 0 by omega] at this
      exact this
  · obtain ⟨c, hc⟩ := sp_ap.mp hb
    obtain ⟨u, hu⟩ := s0 c
    have h1 : zq9 p m1 (ap9 f1 n1 (fun i => z i + (-1) * ap9 d0 n0 u i)) (fun _ => 0) := fun j hj => by
      rw [ap_add, ap_mul]
      have a1 := hc j hj
      have a2 := (zq_t (c0 u) (ap_q hu)) j hj
      have := Int.dvd_sub a1 a2
      rw [show ap9 f1 n1 z j - ap9 e0 m0 c j - (ap9 f1 n1 (ap9 d0 n0 u) j - ap9 e0 m0 c j) = ap9 f1 n1 z j + -1 * ap9 f1 n1 (ap9 d0 n0 u) j - 0 by omega] at this
      exact this
    have h2 : zq9 p n2 (ap9 d1 n1 (fun i => z i + (-1) * ap9 d0 n0 u i)) (fun _ => 0) := fun j hj => by
      rw [ap_add, ap_mul]
      have a1 := hz j hj
      have a2 := dvr9 (-1) (hdd u j hj)
      have := Int.dvd_add a1 a2
      rw [show ap9 d1 n1 z j - 0 + -1 * (ap9 d1 n1 (ap9 d0 n0 u) j - 0) = ap9 d1 n1 z j + -1 * ap9 d1 n1 (ap9 d0 n0 u) j - 0 by omega] at this
      exact this
    obtain ⟨w, hw⟩ := r1 _ h1 h2
    refine sp_q (fun i hi9 => ?_) (sp_a (sp_ap.mpr ⟨w, zq_r⟩) (sp_ap.mpr ⟨u, zq_r⟩))
    have a1 := hw i hi9
    show p ∣ z i - (ap9 d0 n0 w i + ap9 d0 n0 u i)
    rw [show z i - (ap9 d0 n0 w i + ap9 d0 n0 u i) = z i + -1 * ap9 d0 n0 u i - ap9 d0 n0 w i by omega]
    exact a1
end XCH9
