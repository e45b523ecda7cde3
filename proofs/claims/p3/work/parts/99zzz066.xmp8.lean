section
/-! 99zzzzzzzzzzzzzzp.xmp8 -/
/-! permutations as the class numbers them: conjugation goes through itself -/
def gSD9 (h o x : Nat) : Bool := decide (cjG (cjG h o) (cjG h x) = cjG h (cjG o x))
def gCA9 (h o : Nat) : Bool := decide (ivC (cjG h o) = cjG h (ivC o)) && decide (cjG (ivC h) (cjG h o) = o) && decide (cjG h (cjG (ivC h) o) = o) && decide (cjG h o < 24) && decide (ivC o < 24) && (decide (24 ≤ h) || decide (h < 6 ∧ o < 6 → cjG h o < 6 ∧ ivC o < 6) && decide (h < 2 ∧ o < 2 → cjG h o < 2 ∧ ivC o < 2) && decide (h < 1 ∧ o < 1 → cjG h o < 1 ∧ ivC o < 1))
theorem sd9_c : ∀ h : Fin 24, ∀ o : Fin 24, ∀ x : Fin 24, gSD9 h.val o.val x.val = true := by decide +kernel
theorem ca9_c : ∀ h : Fin 24, ∀ o : Fin 24, gCA9 h.val o.val = true := by decide +kernel
theorem sd9 {h o x : Nat} (h1 : h < 24) (h2 : o < 24) (h3 : x < 24) : cjG (cjG h o) (cjG h x) = cjG h (cjG o x) := of_decide_eq_true (sd9_c ⟨h, h1⟩ ⟨o, h2⟩ ⟨x, h3⟩)
theorem ca9 {h o : Nat} (h1 : h < 24) (h2 : o < 24) : ivC (cjG h o) = cjG h (ivC o) ∧ cjG (ivC h) (cjG h o) = o ∧ cjG h (cjG (ivC h) o) = o ∧ cjG h o < 24 ∧ ivC o < 24 := by
  have k := ca9_c ⟨h, h1⟩ ⟨o, h2⟩
  unfold gCA9 at k
  rw [Bool.and_eq_true, Bool.and_eq_true, Bool.and_eq_true, Bool.and_eq_true, Bool.and_eq_true] at k
  obtain ⟨⟨⟨⟨⟨k1, k2⟩, k3⟩, k4⟩, k5⟩, -⟩ := k
  exact ⟨of_decide_eq_true k1, of_decide_eq_true k2, of_decide_eq_true k3, of_decide_eq_true k4, of_decide_eq_true k5⟩
theorem ca9_m {m h o : Nat} (hm1 : 1 ≤ m) (hm4 : m ≤ 4) (h1 : h < thM m) (h2 : o < thM m) : cjG h o < thM m ∧ ivC o < thM m := by
  have b := (thM_le m).2
  have k := ca9_c ⟨h, by omega⟩ ⟨o, by omega⟩
  unfold gCA9 at k
  rw [Bool.and_eq_true, Bool.and_eq_true, Bool.and_eq_true, Bool.and_eq_true, Bool.and_eq_true, Bool.or_eq_true, Bool.and_eq_true, Bool.and_eq_true] at k
  obtain ⟨⟨⟨⟨⟨k1, k2⟩, k3⟩, k4⟩, k5⟩, k6⟩ := k
  have q4 : cjG h o < 24 := of_decide_eq_true k4
  have q5 : ivC o < 24 := of_decide_eq_true k5
  rcases k6 with k6 | ⟨⟨k6, k7⟩, k8⟩
  · have k6 : 24 ≤ h := of_decide_eq_true k6
    omega
  have q6 : h < 6 ∧ o < 6 → cjG h o < 6 ∧ ivC o < 6 := of_decide_eq_true k6
  have q7 : h < 2 ∧ o < 2 → cjG h o < 2 ∧ ivC o < 2 := of_decide_eq_true k7
  have q8 : h < 1 ∧ o < 1 → cjG h o < 1 ∧ ivC o < 1 := of_decide_eq_true k8
  have : m = 1 ∨ m = 2 ∨ m = 3 ∨ m = 4 := by omega
  rcases this with rfl | rfl | rfl | rfl
  · exact q8 ⟨h1, h2⟩
  · exact q7 ⟨h1, h2⟩
  · exact q6 ⟨h1, h2⟩
  · exact ⟨q4, q5⟩
end
section
/-! 99zzzzzzzzzzzzzzq.xmp9 -/
/-! maps: the arcs of the reference, crossing by crossing -/
section XM9
theorem vu_inj {A : rn_L} {c u v : Nat} (h : okF A.flatten c) (hu : u < A.flatten.length) (hv : v < A.flatten.length) (e1 : crs A u = crs A v) (e2 : uns A u = uns A v) : u = v := by
  have k1 := vAt_of hu
  have k2 := vAt_of hv
  have e : vAt A u = vAt A v := Prod.ext e1 e2
  rw [e, ← k2] at k1
  exact (List.getElem?_inj hu h.1).mp k1
theorem xp_arc8 {n c a : Nat} {A : rn_L} {sg : Nat → Bool} {y : ow_MS} {ga gb : Nat → Nat} (hn : mw_net n) (hA : oNet y n A sg) (hok : okF A.flatten c) (hR : ∀ u, u < A.flatten.length → y.2.1 59 u = nI (ga u) ∧ (uns A u ≠ 0 → y.2.1 60 u = nI (gb u))) : Tt (fun K i => q_X13_makeArcs K i 8 (nI 0) 0 0 n 0 y) (fun z1 => (∀ u, u < A.flatten.length → (uns A u = 0 → z1.2.1 61 (crs A u) = nI (ga u)) ∧ (uns A u ≠ 0 → z1.2.1 62 (crs A u) = nI (ga u) ∧ z1.2.1 63 (crs A u) = nI (gb u))) ∧ fr (fun g => 61 ≤ g ∧ g ≤ 63) y z1) := by
  have hl := hA.len
  have hmn := net_mod hn
  have hV := okF_len hok
  have oA : ∀ {z : ow_MS}, fr (fun g => 61 ≤ g ∧ g ≤ 63) y z → oNet z n A sg := fun hf => oNet_fr hf (fun g hg => by omega) hA
  have r1 : ∀ {z : ow_MS}, fr (fun g => 61 ≤ g ∧ g ≤ 63) y z → ∀ u, u < A.flatten.length → z.2.1 59 u = nI (ga u) ∧ (uns A u ≠ 0 → z.2.1 60 u = nI (gb u)) := fun hf u hu => by
    rw [(hf 59 (by omega)).2.1, (hf 60 (by omega)).2.1]
    exact hR u hu
  have c8 : ∀ (d v : Nat) (z : ow_MS), v + d = A.flatten.length → fr (fun g => 61 ≤ g ∧ g ≤ 63) y z → (∀ u, u < v → (uns A u = 0 → z.2.1 61 (crs A u) = nI (ga u)) ∧ (uns A u ≠ 0 → z.2.1 62 (crs A u) = nI (ga u) ∧ z.2.1 63 (crs A u) = nI (gb u))) → Tt (fun K i => q_X13_makeArcs K i 8 (nI v) 0 0 n 0 z) (fun z1 => (∀ u, u < A.flatten.length → (uns A u = 0 → z1.2.1 61 (crs A u) = nI (ga u)) ∧ (uns A u ≠ 0 → z1.2.1 62 (crs A u) = nI (ga u) ∧ z1.2.1 63 (crs A u) = nI (gb u))) ∧ fr (fun g => 61 ≤ g ∧ g ≤ 63) y z1) := by
    intro d
    induction d with
    | zero =>
      intro v z hv hf hD
      refine u_X13_makeArcs_8 ?_; unfold qm_X13_makeArcs_8
      exact w_rdF (oA hf).1.V (w_leT (by omega) (by omega) (w_some ⟨fun u hu => hD u (by omega), hf⟩))
    | succ d ih =>
      intro v z hv hf hD
      have hvl : v < A.flatten.length := by omega
      have hO := oA hf
      obtain ⟨c1, c2, c3⟩ := hO.cx hvl
      obtain ⟨ei, hB⟩ := r1 hf v hvl
      refine u_X13_makeArcs_8 ?_; unfold qm_X13_makeArcs_8
      refine w_rdF hO.1.V (w_leF (by omega) hvl (w_rdI (pl4 hn) rfl (by omega) (lk_cu hO.1 hvl).1 (w_rdI (pl5 hn) rfl (by omega) (lk_cu hO.1 hvl).2 (w_eqN (b := 0) (by omega) (by omega) (fun h0 => w_rdI ml59 rfl (by omega) ei (w_wrI ml61 rfl (by omega) ?_)) (fun h0 => ?_)))))
      · refine u_X13_makeArcs_9 ?_; unfold qm_X13_makeArcs_9
        rw [nI_1]
        refine ih (v + 1) _ (by omega) (fr_I2 hf (by omega)) (fun u hu => ⟨fun h9 => ?_, fun h9 => ?_⟩)
        · by_cases huv : u = v
          · rw [huv]
            exact po_usI_at
          · exact rd_ne (fun e => huv (vu_inj hok (by omega) hvl e (h9.trans h0.symm))) ((hD u (by omega)).1 h9)
        · have huv : u ≠ v := fun e => h9 (by rw [e]; exact h0)
          obtain ⟨k1, k2⟩ := (hD u (by omega)).2 h9
          exact ⟨rd_ot (by omega) k1, rd_ot (by omega) k2⟩
      · refine w_rdI ml59 rfl (by omega) ei (w_wrI ml62 rfl (by omega) (w_rdI ml60 rfl (by omega) (rd_ot (by omega) (hB h0)) (w_wrI ml63 rfl (by omega) ?_)))
        refine u_X13_makeArcs_9 ?_; unfold qm_X13_makeArcs_9
        rw [nI_1]
        refine ih (v + 1) _ (by omega) (fr_I2 (fr_I2 hf (by omega)) (by omega)) (fun u hu => ⟨fun h9 => ?_, fun h9 => ?_⟩)
        · have huv : u ≠ v := fun e => h0 (by rw [← e]; exact h9)
          exact rd_ot (by omega) (rd_ot (by omega) ((hD u (by omega)).1 h9))
        · by_cases huv : u = v
          · rw [huv]
            exact ⟨rd_ot (by omega) po_usI_at, po_usI_at⟩
          · have u2 : uns A u < 2 := ((hok.2 _).mp (vAt_mem (A := A) (v := u) (by omega))).2
            have v2 : uns A v < 2 := ((hok.2 _).mp (vAt_mem hvl)).2
            obtain ⟨k1, k2⟩ := (hD u (by omega)).2 h9
            have ne : crs A u ≠ crs A v := fun e => huv (vu_inj hok (by omega) hvl e (by omega))
            exact ⟨rd_ot (by omega) (rd_ne ne k1), rd_ne ne (rd_ot (by omega) k2)⟩
  exact c8 A.flatten.length 0 y (by omega) fr_rf (fun u hu => absurd hu (Nat.not_lt_zero _))
end XM9
end
section
/-! 99zzzzzzzzzzzzzzr.xst7 -/
/-! what is left of the whole: nine cases -/
section XSC
variable {Pc Pr : ow_MS → Prop}
end XSC
end
section
/-! 99zzzzzzzzzzzzzzs.xst8 -/
/-! the nine cases with what is kept so far, and whatever else is wanted -/
section XSD
variable {Qc Qr : ow_MS → Prop}
theorem enW_fr {P : Nat → Prop} {z z1 : ow_MS} (hf : fr P z z1) (hP : ¬ P 98) (h : enW z) : enW z1 := fun n s j n2 n5 hs hj => by
  rw [(hf 98 hP).2.1]
  exact h n s j n2 n5 hs hj
theorem pc_jn {y y1 : ow_MS} (hf : fr jnP y y1) (hs : ∀ D, cOK D → slC y 25000 0 D → slC y1 25000 0 D) (h : cwK y) : cwK y1 := by
  obtain ⟨C, c1, c2, c3⟩ := h
  exact ⟨C, hs C c2 c1, c2, c3.imp id (fun ⟨A, sg, c, q1, q2, q3⟩ => ⟨A, sg, c, q1, q2, cwC_fr hf (by unfold jnP; omega) q3⟩)⟩
theorem cwK_0 {y : ow_MS} (hY : ∀ g, ¬ spc g → y.1 g = 0 ∧ ∀ i, y.2.1 g i = 0) : cwK y := ⟨(0, []), ⟨(hY 25003 (by unfold spc; omega)).2 0, (hY 25002 (by unfold spc; omega)).2 0, fun i a hi => (by rw [List.getElem?_nil] at hi; cases hi)⟩, ⟨Nat.zero_le _, Nat.zero_le _, fun a ha => absurd ha List.not_mem_nil⟩, Or.inl rfl⟩
theorem cwR_0 {z : ow_MS} (hz : ∀ g i, ¬ (73 ≤ g ∧ g ≤ 76 ∨ 97 ≤ g ∧ g ≤ 107) → z.2.1 g i = 0) : cwR z := fun T1 hT => Or.inl (by
  have e := hT.2.2.1
  rw [hz 43 0 (by omega)] at e
  have l := hT.1
  exact List.eq_nil_of_length_eq_zero (nI_inj9 (a := 0) (b := T1.length) (by omega) (by omega) e).symm)
end XSD
end
section
/-! 99zzzzzzzzzzzzzzt.xmpa -/
/-! maps: the reference's tables at the start, and kept -/
section XMA
def epA (z : ow_MS) : Prop := (∀ m, 1 ≤ m → m ≤ 4 → eP9 z m) ∧ ∀ m, m ≤ 4 → z.2.1 73 m = nI (thM m)
theorem epA_fr {P : Nat → Prop} {z z1 : ow_MS} (hf : fr P z z1) (hP : ∀ g, 73 ≤ g → g ≤ 76 → ¬ P g) (h : epA z) : epA z1 := by
  refine ⟨fun m m1 m4 => ⟨fun p a hp ha => ?_, fun o x ho hx hl => ?_⟩, fun m hm => ?_⟩
  · rw [(hf 74 (hP _ (by omega) (by omega))).2.1]
    exact (h.1 m m1 m4).1 p a hp ha
  · rw [(hf 75 (hP _ (by omega) (by omega))).2.1, (hf 76 (hP _ (by omega) (by omega))).2.1]
    exact (h.1 m m1 m4).2 o x ho hx hl
  · rw [(hf 73 (hP _ (by omega) (by omega))).2.1]
    exact h.2 m hm
theorem ep_init {m1 m2 : ow_MS} {b : Nat} (hb : ∀ K, b ≤ K → qe_X13_makeSimples_a K Z13 = some m1 ∧ qe_X13_makePermutations_a K m1 = some m2) : epA (usZ m2 blM) := by
  have h2 : ∀ g i, g ≠ 73 → Z13.2.1 g i = 0 := fun g i hg => by
    show (if g = 73 then fT13 else fun _ => 0) i = 0
    rw [if_neg hg]
  have h73 : ∀ m, m ≤ 4 → Z13.2.1 73 m = nI (thM m) := by
    intro m hm
    have key : ∀ m : Fin 5, fT13 m.val = nI (thM m.val) := by decide +kernel
    exact key ⟨m, by omega⟩
  obtain ⟨r1, ⟨b1, hb1⟩, ⟨-, hf1⟩⟩ := tp_simE (z := Z13) (fun n _ => h2 100 _ (by omega))
  have er1 : r1 = m1 := Option.some.inj ((hb1 (b + b1) (by omega)).symm.trans (hb (b + b1) (by omega)).1)
  subst er1
  obtain ⟨r2, ⟨b2, hb2⟩, ⟨hE, hf2⟩⟩ := tp_permE (z := r1)
  have er2 : r2 = m2 := Option.some.inj ((hb2 (b + b2) (by omega)).symm.trans (hb (b + b2) (by omega)).2)
  subst er2
  refine ⟨fun m m1 m4 => ⟨fun p a hp ha => ?_, fun o x ho hx hl => ?_⟩, fun m hm => ?_⟩
  · rw [show (usZ r2 blM).2.1 74 = r2.2.1 74 from uz_I (m := r2) (by omega)]
    exact (hE m m1 m4).1 p a hp ha
  · rw [show (usZ r2 blM).2.1 75 = r2.2.1 75 from uz_I (m := r2) (by omega), show (usZ r2 blM).2.1 76 = r2.2.1 76 from uz_I (m := r2) (by omega)]
    exact (hE m m1 m4).2 o x ho hx hl
  · rw [show (usZ r2 blM).2.1 73 = r2.2.1 73 from uz_I (m := r2) (by omega), (hf2 73 (by unfold pmP; omega)).2.1, (hf1 73 (by unfold pA; omega)).2.1]
    exact h73 m hm
theorem epA_keep : keepP rfX epA := fun F z z1 hf hF h => epA_fr hf (fun g g1 g2 h9 => hF g h9 (by unfold rfX; omega)) h
end XMA
end
section
/-! 99zzzzzzzzzzzzzzu.xmpb -/
/-! maps: the arcs of the reference, each by its number -/
def aK9 (A : rn_L) : Nat → Nat
  | 0 => 0
  | k + 1 => aK9 A k + max 1 (uN A (rn_b A (k + 1)) - uN A (rn_b A k))
/-- the number of the arc that ends before place u of ring k -/
def gK9 (A : rn_L) (k u : Nat) : Nat := aK9 A k + ((if uN A u = uN A (rn_b A k) then uN A (rn_b A (k + 1)) - uN A (rn_b A k) else uN A u - uN A (rn_b A k)) - 1)
def gA9 (A : rn_L) (v : Nat) : Nat := gK9 A (rn_c A v) v
def gR9 (A : rn_L) (v : Nat) : Nat := gK9 A (rn_c A v) (v + 1)
section XMB
theorem uN_0 {A : rn_L} {b : Nat} : ∀ e, b ≤ e → (∀ u, b ≤ u → u < e → uns A u = 0) → uN A e = uN A b
  | 0, h, _ => by rw [show b = 0 by omega]
  | e + 1, h, hu => by
    by_cases c : b = e + 1
    · rw [c]
    · have ih := uN_0 e (by omega) (fun u h1 h2 => hu u h1 (by omega))
      show uN A e + (if uns A e = 0 then 0 else 1) = _
      rw [if_pos (hu e (by omega) (by omega)), Nat.add_zero, ih]
theorem uN_s1 {A : rn_L} {v : Nat} (h : uns A v = 0) : uN A (v + 1) = uN A v := by
  show uN A v + (if uns A v = 0 then 0 else 1) = _
  rw [if_pos h]
  rfl
theorem uN_s2 {A : rn_L} {v : Nat} (h : uns A v ≠ 0) : uN A (v + 1) = uN A v + 1 := by
  show uN A v + (if uns A v = 0 then 0 else 1) = _
  rw [if_neg h]
theorem gA9_at {A : rn_L} {k v : Nat} (h1 : rn_b A k ≤ v) (h2 : v < rn_b A (k + 1)) : gA9 A v = gK9 A k v := by
  unfold gA9
  rw [rn_c_of A k v h1 h2]
theorem gR9_at {A : rn_L} {k v : Nat} (h1 : rn_b A k ≤ v) (h2 : v < rn_b A (k + 1)) : gR9 A v = gK9 A k (v + 1) := by
  unfold gR9
  rw [rn_c_of A k v h1 h2]
theorem gK9_lt {A : rn_L} {k u : Nat} (h : u ≤ rn_b A (k + 1)) : aK9 A k ≤ gK9 A k u ∧ gK9 A k u < aK9 A (k + 1) := by
  have := uN_mono (A := A) (rn_b A (k + 1)) h
  unfold gK9
  refine ⟨by omega, ?_⟩
  show _ < aK9 A k + max 1 _
  split <;> omega
theorem aK9_mono {A : rn_L} {a : Nat} : ∀ b, a ≤ b → aK9 A a ≤ aK9 A b
  | 0, h => by rw [show a = 0 by omega]; exact Nat.le_refl _
  | b + 1, h => by
    by_cases e : a = b + 1
    · rw [e]; exact Nat.le_refl _
    · have := aK9_mono (A := A) (a := a) b (by omega)
      show aK9 A a ≤ aK9 A b + _
      omega
theorem aK9_le {A : rn_L} : ∀ k, aK9 A k ≤ uN A (rn_b A k) + k
  | 0 => Nat.zero_le _
  | k + 1 => by
    have ih := aK9_le (A := A) k
    have := uN_mono (A := A) (rn_b A (k + 1)) (rn_b_mono A k)
    show aK9 A k + max 1 _ ≤ _
    omega
/-- the arc before a visit is the arc behind the one before it -/
theorem gA9_nx {A : rn_L} {v : Nat} (hv : v < A.flatten.length) : gA9 A (rn_nx A v) = gR9 A v := by
  obtain ⟨c1, c2, c3⟩ := rn_c_in A v hv
  have e := c_nx hv
  unfold gA9 gR9
  rw [e]
  unfold rn_nx
  by_cases h : v + 1 < rn_b A (rn_c A v + 1)
  · rw [if_pos h]
  · rw [if_neg h]
    have ev : v + 1 = rn_b A (rn_c A v + 1) := by omega
    rw [ev]
    unfold gK9
    rw [if_pos rfl]
    by_cases k : uN A (rn_b A (rn_c A v + 1)) = uN A (rn_b A (rn_c A v))
    · rw [if_pos k]
    · rw [if_neg k]
theorem gR9_ov {A : rn_L} {v : Nat} (h : uns A v = 0) : gR9 A v = gA9 A v := by
  unfold gA9 gR9 gK9
  rw [uN_s1 h]
/-- one number: one arc -/
theorem gR9_cn {A : rn_L} {h : Nat → Nat} (hh : ∀ v, v < A.flatten.length → uns A (rn_nx A v) = 0 → h (rn_nx A v) = h v) {v w : Nat} (hv : v < A.flatten.length) (hw : w < A.flatten.length) (e : gR9 A v = gR9 A w) : h v = h w := by
  have key : ∀ v w, v < A.flatten.length → w < A.flatten.length → v ≤ w → gR9 A v = gR9 A w → h v = h w := by
    intro v w hv hw hvw e
    obtain ⟨c1, c2, c3⟩ := rn_c_in A v hv
    obtain ⟨d1, d2, d3⟩ := rn_c_in A w hw
    have l1 := gK9_lt (A := A) (k := rn_c A v) (u := v + 1) (by omega)
    have l2 := gK9_lt (A := A) (k := rn_c A w) (u := w + 1) (by omega)
    have e' : gK9 A (rn_c A v) (v + 1) = gK9 A (rn_c A w) (w + 1) := e
    have ec : rn_c A v = rn_c A w := by
      rcases Nat.lt_trichotomy (rn_c A v) (rn_c A w) with h9 | h9 | h9
      · have := aK9_mono (A := A) (a := rn_c A v + 1) (rn_c A w) (by omega)
        omega
      · exact h9
      · have := aK9_mono (A := A) (a := rn_c A w + 1) (rn_c A v) (by omega)
        omega
    rw [← ec] at d2 d3 e'
    generalize rn_c A v = k at *
    have nx1 : ∀ u, rn_b A k ≤ u → u + 1 < rn_b A (k + 1) → rn_nx A u = u + 1 := fun u h1 h2 => by
      unfold rn_nx
      rw [rn_c_of A k u h1 (by omega), if_pos h2]
    have hb := rn_b_le A (k + 1)
    have st : ∀ d u, rn_b A k ≤ u → u + d < rn_b A (k + 1) → uN A (u + d + 1) = uN A (u + 1) → h (u + d) = h u := by
      intro d
      induction d with
      | zero => exact fun u _ _ _ => rfl
      | succ d ih =>
        intro u h1 h2 h3
        have m1 := uN_mono (A := A) (a := u + 1) (u + d + 1) (by omega)
        have m2 : uN A (u + d + 1) ≤ uN A (u + d + 1 + 1) := uN_mono (A := A) (u + d + 1 + 1) (by omega)
        have h3 : uN A (u + d + 1 + 1) = uN A (u + 1) := h3
        have u0 : uns A (u + d + 1) = 0 := by
          by_cases c : uns A (u + d + 1) = 0
          · exact c
          · have := uN_s2 c
            omega
        have en := nx1 (u + d) (by omega) (by omega)
        have := hh (u + d) (by omega) (by rw [en]; exact u0)
        rw [en] at this
        show h (u + d + 1) = _
        rw [this]
        exact ih u h1 (by omega) (by omega)
    have mv := uN_mono (A := A) (a := rn_b A k) (v + 1) (by omega)
    have mw := uN_mono (A := A) (a := v + 1) (w + 1) (by omega)
    have me := uN_mono (A := A) (a := w + 1) (rn_b A (k + 1)) (by omega)
    by_cases q : uN A (v + 1) = uN A (w + 1)
    · have := st (w - v) v c2 (by omega) (by rw [show v + (w - v) + 1 = w + 1 by omega]; exact q.symm)
      rw [show v + (w - v) = w by omega] at this
      exact this.symm
    · unfold gK9 at e'
      rw [if_neg (show ¬ uN A (w + 1) = uN A (rn_b A k) by omega)] at e'
      by_cases q2 : uN A (v + 1) = uN A (rn_b A k)
      · rw [if_pos q2] at e'
        have qe : uN A (w + 1) = uN A (rn_b A (k + 1)) := by omega
        have s1 := st (rn_b A (k + 1) - 1 - w) w d2 (by omega) (by rw [show w + (rn_b A (k + 1) - 1 - w) + 1 = rn_b A (k + 1) by omega]; exact qe.symm)
        rw [show w + (rn_b A (k + 1) - 1 - w) = rn_b A (k + 1) - 1 by omega] at s1
        have b1 := uN_mono (A := A) (a := rn_b A k + 1) (v + 1) (by omega)
        have b2 : uN A (rn_b A k) ≤ uN A (rn_b A k + 1) := uN_mono (A := A) (rn_b A k + 1) (by omega)
        have s2 := st (v - rn_b A k) (rn_b A k) (Nat.le_refl _) (by omega) (by rw [show rn_b A k + (v - rn_b A k) + 1 = v + 1 by omega]; omega)
        rw [show rn_b A k + (v - rn_b A k) = v by omega] at s2
        have u0 : uns A (rn_b A k) = 0 := by
          by_cases c : uns A (rn_b A k) = 0
          · exact c
          · have := uN_s2 c
            omega
        have en : rn_nx A (rn_b A (k + 1) - 1) = rn_b A k := by
          unfold rn_nx
          rw [rn_c_of A k _ (by omega) (by omega), if_neg (by omega)]
        have := hh (rn_b A (k + 1) - 1) (by omega) (by rw [en]; exact u0)
        rw [en] at this
        rw [s2, this, s1]
      · rw [if_neg q2] at e'
        omega
  rcases Nat.le_total v w with h9 | h9
  · exact key v w hv hw h9 e
  · exact (key w v hw hv h9 e.symm).symm
end XMB
end
