/-! a net within a plane net is plane; planeness of lists of components -/
section SUB
variable {c cA : Nat} {S SA : ow_NP} {b bA : Nat → Bool} {ψ : Nat → Nat}
theorem sub_pl (hv : vn c S) (hb : pn_fl b) (hvA : vn cA SA) (hA : pn_hm S b cA SA bA c ψ) (hi : ∀ u v, u < 2 * cA → v < 2 * cA → ψ u = ψ v → u = v) (hp : pn_pl c S b) : pn_pl cA SA bA := by
  let im := (List.range (2 * cA)).map ψ
  have im_in : ∀ v, v ∈ im ↔ ∃ u, u < 2 * cA ∧ ψ u = v := fun v => by
    rw [List.mem_map]
    exact ⟨fun ⟨u, h1, h2⟩ => ⟨u, List.mem_range.mp h1, h2⟩, fun ⟨u, h1, h2⟩ => ⟨u, List.mem_range.mpr h1, h2⟩⟩
  have im_nd : im.Nodup := nodup_map List.nodup_range (fun x y hx hy e => hi x y (List.mem_range.mp hx) (List.mem_range.mp hy) e)
  have im_mt : ∀ v, v ∈ im → mt v ∈ im := fun v h => by
    obtain ⟨u, u1, u2⟩ := (im_in v).mp h
    exact (im_in _).mpr ⟨mt u, mt_lt u1, by rw [← u2, (hA u u1).2.2.1]⟩
  have im_n : ∀ v, v ∈ im → S.1 v ∈ im := fun v h => by
    obtain ⟨u, u1, u2⟩ := (im_in v).mp h
    exact (im_in _).mpr ⟨SA.1 u, (hvA u u1).1, by rw [← u2, (hA u u1).2.1]⟩
  have im_p : ∀ v, v ∈ im → S.2 v ∈ im := fun v h => by
    obtain ⟨u, u1, u2⟩ := (im_in v).mp h
    obtain ⟨q1, q2, q3, q4⟩ := hvA u u1
    refine (im_in _).mpr ⟨SA.2 u, q2, ?_⟩
    have := (hA _ q2).2.1
    rw [q4, u2] at this
    rw [← this, (hv _ (hA _ q2).1).2.2.1]
  have im_lt : ∀ v, v ∈ im → v < 2 * c := fun v h => by
    obtain ⟨u, u1, u2⟩ := (im_in v).mp h
    rw [← u2]
    exact (hA u u1).1
  let K := (List.range c).filter (fun x => decide (2 * x ∈ im))
  let L := (List.range c).filter (fun x => !decide (2 * x ∈ im))
  have L_in : ∀ x, x ∈ L ↔ x < c ∧ 2 * x ∉ im := fun x => by
    rw [List.mem_filter, List.mem_range, Bool.not_eq_true', decide_eq_false_iff_not]
  have K_in : ∀ x, x ∈ K ↔ x < c ∧ 2 * x ∈ im := fun x => by
    rw [List.mem_filter, List.mem_range, decide_eq_true_iff]
  have hKL : K.length + L.length = c := by
    have := filt_sum (fun x => decide (2 * x ∈ im)) (List.range c)
    rw [List.length_range] at this
    exact this
  have both : ∀ v, v ∈ im ↔ 2 * (v / 2) ∈ im := fun v => by
    by_cases e : v % 2 = 0
    · rw [show 2 * (v / 2) = v by omega]
    · have em : mt v = 2 * (v / 2) := by unfold mt; rw [if_neg e]; omega
      constructor
      · intro h
        rw [← em]
        exact im_mt v h
      · intro h
        have := im_mt _ h
        rw [← em, mt_mt] at this
        exact this
  have hK1 : im.length ≤ 2 * K.length := by
    have := nodup_le im (pm_tw K) im_nd (fun v h => pm_tw_in.mpr ((K_in _).mpr ⟨by have := im_lt v h; omega, (both v).mp h⟩))
    rw [pm_tw_len] at this
    exact this
  have hK2 : 2 * K.length ≤ im.length := by
    have := nodup_le (pm_tw K) im (pm_tw_nd (List.nodup_range.filter _)) (fun v h => (both v).mpr ((K_in _).mp (pm_tw_in.mp h)).2)
    rw [pm_tw_len] at this
    exact this
  have hil : im.length = 2 * cA := by
    show ((List.range (2 * cA)).map ψ).length = _
    rw [List.length_map, List.length_range]
  have Lnd : L.Nodup := List.nodup_range.filter _
  let cB := L.length
  let ψB : Nat → Nat := fun v => 2 * L.getD (v / 2) 0 + v % 2
  let iv : Nat → Nat := fun w => 2 * L.idxOf (w / 2) + w % 2
  have LD : ∀ i, i < cB → L.getD i 0 ∈ L := fun i h => by
    have h : i < L.length := h
    rw [List.getD_eq_getElem?_getD, List.getElem?_eq_getElem h]
    exact List.getElem_mem h
  have bh : ∀ v, ψB v / 2 = L.getD (v / 2) 0 ∧ ψB v % 2 = v % 2 := fun v => by
    show (2 * L.getD (v / 2) 0 + v % 2) / 2 = _ ∧ (2 * L.getD (v / 2) 0 + v % 2) % 2 = _
    omega
  have bin : ∀ v, v < 2 * cB → ψB v < 2 * c ∧ ψB v ∉ im := fun v h => by
    have h1 := (L_in _).mp (LD (v / 2) (by omega))
    obtain ⟨m1, m2⟩ := bh v
    refine ⟨by omega, fun h9 => h1.2 ?_⟩
    have := (both _).mp h9
    rw [m1] at this
    exact this
  have ivb : ∀ w, w < 2 * c → w ∉ im → iv w < 2 * cB ∧ ψB (iv w) = w := fun w h1 h2 => by
    have hL : w / 2 ∈ L := (L_in _).mpr ⟨by omega, fun h9 => h2 ((both w).mpr h9)⟩
    have hx : L.idxOf (w / 2) < L.length := List.idxOf_lt_length_of_mem hL
    refine ⟨by show 2 * L.idxOf (w / 2) + w % 2 < 2 * L.length; omega, ?_⟩
    show 2 * L.getD ((2 * L.idxOf (w / 2) + w % 2) / 2) 0 + (2 * L.idxOf (w / 2) + w % 2) % 2 = w
    rw [show (2 * L.idxOf (w / 2) + w % 2) / 2 = L.idxOf (w / 2) by omega, List.getD_eq_getElem?_getD, List.getElem?_eq_getElem hx, List.getElem_idxOf]
    show 2 * (w / 2) + _ = w
    omega
  have binj : ∀ u v, u < 2 * cB → v < 2 * cB → ψB u = ψB v → u = v := fun u v hu hv9 e => by
    obtain ⟨m1, m2⟩ := bh u
    obtain ⟨n1, n2⟩ := bh v
    rw [e] at m1 m2
    have e2 : L.getD (u / 2) 0 = L.getD (v / 2) 0 := m1.symm.trans n1
    have hu2 : u / 2 < L.length := by show u / 2 < cB; omega
    have hv2 : v / 2 < L.length := by show v / 2 < cB; omega
    rw [List.getD_eq_getElem?_getD, List.getD_eq_getElem?_getD, List.getElem?_eq_getElem hu2, List.getElem?_eq_getElem hv2] at e2
    have e3 : L[u / 2] = L[v / 2] := e2
    have := nodup_at Lnd (List.getElem?_eq_getElem hu2) (by rw [e3]; exact List.getElem?_eq_getElem hv2)
    omega
  have ivp : ∀ v, v < 2 * cB → iv (ψB v) = v := fun v h => by
    obtain ⟨h1, h2⟩ := bin v h
    obtain ⟨q1, q2⟩ := ivb _ h1 h2
    exact binj _ _ q1 h q2
  have out_n : ∀ w, w < 2 * c → w ∉ im → S.1 w ∉ im := fun w h1 h2 h9 => h2 (by
    have := im_p _ h9
    rw [(hv w h1).2.2.1] at this
    exact this)
  have out_p : ∀ w, w < 2 * c → w ∉ im → S.2 w ∉ im := fun w h1 h2 h9 => h2 (by
    have := im_n _ h9
    rw [(hv w h1).2.2.2] at this
    exact this)
  have out_m : ∀ w, w ∉ im → mt w ∉ im := fun w h2 h9 => h2 (by
    have := im_mt _ h9
    rw [mt_mt] at this
    exact this)
  let SB : ow_NP := (fun v => iv (S.1 (ψB v)), fun v => iv (S.2 (ψB v)))
  have s1 : ∀ v, v < 2 * cB → iv (S.1 (ψB v)) < 2 * cB ∧ ψB (iv (S.1 (ψB v))) = S.1 (ψB v) := fun v h => ivb _ (hv _ (bin v h).1).1 (out_n _ (bin v h).1 (bin v h).2)
  have s2 : ∀ v, v < 2 * cB → iv (S.2 (ψB v)) < 2 * cB ∧ ψB (iv (S.2 (ψB v))) = S.2 (ψB v) := fun v h => ivb _ (hv _ (bin v h).1).2.1 (out_p _ (bin v h).1 (bin v h).2)
  have hvB : vn cB SB := fun v h => by
    refine ⟨(s1 v h).1, (s2 v h).1, ?_, ?_⟩
    · show iv (S.2 (ψB (iv (S.1 (ψB v))))) = v
      rw [(s1 v h).2, (hv _ (bin v h).1).2.2.1, ivp v h]
    · show iv (S.1 (ψB (iv (S.2 (ψB v))))) = v
      rw [(s2 v h).2, (hv _ (bin v h).1).2.2.2, ivp v h]
  have mB : ∀ v, v < 2 * cB → mt (ψB v) = ψB (mt v) := fun v h => by
    obtain ⟨m1, m2⟩ := bh v
    obtain ⟨n1, n2⟩ := bh (mt v)
    rw [mt_h2] at n1
    unfold mt at n1 n2 ⊢
    split
    · rename_i e
      rw [m2] at e
      rw [if_pos e] at n1 n2 ⊢
      omega
    · rename_i e
      rw [m2] at e
      rw [if_neg e] at n1 n2 ⊢
      omega
  have hB : pn_hm S b cB SB (fun v => if v < 2 * cB then b (ψB v) else decide (v % 2 = 0)) c ψB := fun v h => by
    refine ⟨(bin v h).1, (s1 v h).2.symm, mB v h, ?_⟩
    show b (ψB v) = if v < 2 * cB then b (ψB v) else _
    rw [if_pos h]
  have hbB : pn_fl (fun v => if v < 2 * cB then b (ψB v) else decide (v % 2 = 0)) := fun v => by
    show (if mt v < 2 * cB then b (ψB (mt v)) else decide (mt v % 2 = 0)) = !(if v < 2 * cB then b (ψB v) else decide (v % 2 = 0))
    by_cases h : v < 2 * cB
    · rw [if_pos h, if_pos (mt_lt h), ← mB v h]
      exact hb _
    · have h2 : ¬ mt v < 2 * cB := fun h9 => h (by have := mt_lt h9; rw [mt_mt] at this; exact this)
      rw [if_neg h, if_neg h2]
      unfold mt
      by_cases e : v % 2 = 0
      · rw [if_pos e, decide_eq_true e, decide_eq_false (by omega)]
        rfl
      · rw [if_neg e, decide_eq_false e, decide_eq_true (by omega)]
        rfl
  have hcB : c = cA + cB := by
    show c = cA + L.length
    omega
  refine un_sub hv hvA hvB hbB hA hB ⟨hcB, hi, binj, fun u v hu hv9 e => (bin v hv9).2 ?_⟩ hp
  rw [← e]
  exact (im_in _).mpr ⟨u, hu, rfl⟩
end SUB
/-! nets that show components -/
def pm1 (T : ow_NT) : Prop := ∀ x, x < T.1 → T.2.2.2 x = 1 ∨ T.2.2.2 x = -1
section LST
variable {A A' : rn_L} {sg sg' : Nat → Bool} {f f' : Nat → Nat} {T T' : ow_NT}
theorem gl_hf {p : vT} (hp : p.2 < 2) : gl f p / 2 = f p.1 ∧ gl f p % 2 = p.2 := by
  unfold gl
  omega
theorem stG_gl (h : isoV A sg f T) (hT : pm1 T) {p : vT} (hp : p ∈ A.flatten) : stG T.2.2.2 (gl f p) = (decide (p.2 = 0) == !sg p.1) := by
  have h2 := (h.1.1.2 p hp).2.1
  obtain ⟨e1, e2⟩ := gl_hf (f := f) h2
  have hx := h.1.2.2.2.1 p hp
  have hs := h.1.2.2.2.2.2.2.1 p hp
  unfold stG
  rw [e1, e2]
  congr 1
  rcases hT _ hx with e | e
  · rw [e] at hs ⊢
    cases hq : sg p.1 with
    | true => exact absurd (hs.mpr hq) (by decide)
    | false => rfl
  · rw [e] at hs ⊢
    cases hq : sg p.1 with
    | true => rfl
    | false =>
      have := hs.mp (by decide)
      rw [hq] at this
      cases this
theorem gl_sur (h : isoV A sg f T) {k : Nat} (hk : k < 2 * T.1) : ∃ p, p ∈ A.flatten ∧ gl f p = k := by
  obtain ⟨v, v1, v2⟩ := lbv_sur (isoS_iff.mp h.1) hk
  exact ⟨vAt A v, vAt_mem v1, v2⟩
theorem gl_mate {p : vT} (hp : p.2 < 2) : mt (gl f p) = gl f (p.1, 1 - p.2) := by
  unfold gl mt
  rcases (show p.2 = 0 ∨ p.2 = 1 by omega) with e | e
  · rw [e, if_pos (by omega)]
    rfl
  · rw [e, if_neg (by omega)]
    show 2 * f p.1 + 1 - 1 = 2 * f p.1 + (1 - 1)
    omega
/-- components of one net among those of another -/
theorem iso_hm (h : isoV A sg f T) (h' : isoV A' sg' f' T') (hT : pm1 T) (hT' : pm1 T') (hL : ∀ L, L ∈ A' → L ≠ [] → L ∈ A) (hs : ∀ p, p ∈ A'.flatten → sg' p.1 = sg p.1) : ∃ ψ, pn_hm T.2.2.1 (stG T.2.2.2) T'.1 T'.2.2.1 (stG T'.2.2.2) T.1 ψ ∧ (∀ u v, u < 2 * T'.1 → v < 2 * T'.1 → ψ u = ψ v → u = v) ∧ ∀ p, p ∈ A'.flatten → ψ (gl f' p) = gl f p := by
  have mem : ∀ p, p ∈ A'.flatten → p ∈ A.flatten := fun p hp => by
    obtain ⟨L, l1, l2⟩ := List.mem_flatten.mp hp
    exact List.mem_flatten.mpr ⟨L, hL L l1 (fun e => by rw [e] at l2; cases l2), l2⟩
  have ex : ∀ v, ∃ u, ∀ p, p ∈ A'.flatten → gl f' p = v → u = gl f p := fun v => by
    by_cases h9 : ∃ p, p ∈ A'.flatten ∧ gl f' p = v
    · obtain ⟨p, p1, p2⟩ := h9
      exact ⟨gl f p, fun q q1 q2 => by rw [gl_gin h'.1 p q p1 q1 (p2.trans q2.symm)]⟩
    · exact ⟨0, fun p p1 p2 => absurd ⟨p, p1, p2⟩ h9⟩
  obtain ⟨ψ, hψ⟩ := Classical.skolem.mp ex
  have at9 : ∀ p, p ∈ A'.flatten → ψ (gl f' p) = gl f p := fun p hp => hψ _ p hp rfl
  refine ⟨ψ, fun v hv => ?_, fun u v hu hv e => ?_, at9⟩
  · obtain ⟨p, p1, rfl⟩ := gl_sur h' hv
    have hp2 := (h'.1.1.2 p p1)
    obtain ⟨L, l1, l2⟩ := List.mem_flatten.mp p1
    have l3 := hL L l1 (fun e => by rw [e] at l2; cases l2)
    have nL := L_nd h'.1.1.1 l1
    rw [at9 p p1]
    refine ⟨gl_lt h (mem p p1), ?_, ?_, ?_⟩
    · rw [(h.2 L l3 p l2).1, (h'.2 L l1 p l2).1]
      exact (at9 _ (List.mem_flatten.mpr ⟨L, l1, sc_in l2 nL⟩)).symm
    · rw [gl_mate hp2.2.1, gl_mate hp2.2.1]
      exact (at9 _ hp2.2.2).symm
    · rw [stG_gl h hT (mem p p1), stG_gl h' hT' p1, hs p p1]
  · obtain ⟨p, p1, rfl⟩ := gl_sur h' hu
    obtain ⟨q, q1, rfl⟩ := gl_sur h' hv
    rw [at9 p p1, at9 q q1] at e
    rw [gl_gin h.1 p q (mem p p1) (mem q q1) e]
theorem pl_sub (h : isoV A sg f T) (h' : isoV A' sg' f' T') (hT : pm1 T) (hT' : pm1 T') (hL : ∀ L, L ∈ A' → L ≠ [] → L ∈ A) (hs : ∀ p, p ∈ A'.flatten → sg' p.1 = sg p.1) (hp : nt_plane T = true) : nt_plane T' = true := by
  obtain ⟨ψ, h1, h2, -⟩ := iso_hm h h' hT hT' hL hs
  have hv := isoV_vn h
  have hv' := isoV_vn h'
  rw [plane_iff hv' h'.1.2.2.1]
  exact sub_pl hv stG_fl hv' h1 h2 ((plane_iff hv h.1.2.2.1).mp hp)
/-- a list of components is plane -/
def plnA (A : rn_L) (sg : Nat → Bool) : Prop := ∀ f T, isoV A sg f T → pm1 T → nt_plane T = true
theorem plnA_of (h : isoV A sg f T) (hT : pm1 T) (hp : nt_plane T = true) : plnA A sg := fun f' T' h' hT' => pl_sub h h' hT hT' (fun L hL _ => hL) (fun p _ => rfl) hp
theorem plnA_sub (h : isoV A sg f T) (hT : pm1 T) (hA : plnA A sg) (hL : ∀ L, L ∈ A' → L ≠ [] → L ∈ A) (hs : ∀ p, p ∈ A'.flatten → sg' p.1 = sg p.1) : plnA A' sg' := fun f' T' h' hT' => pl_sub h h' hT hT' hL hs (hA f T h hT)
/-- the code's list is plane as the net is -/
theorem plnA_two (h : isoV A sg f T) (h' : isoV A' sg' f' T) (hT : pm1 T) (hA : plnA A sg) : plnA A' sg' := plnA_of h' hT (hA f T h hT)
end LST
