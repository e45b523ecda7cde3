/-! threeChange -/
def rsh (A : rn_L) (G : Nat → Nat × Nat) (k : Nat) : rn_L := (List.range k).map (fun c => (List.range' (rn_b A c) (rlen A c)).map G)
theorem rsh_fl {A : rn_L} {G : Nat → Nat × Nat} : ∀ k, k ≤ A.length → (rsh A G k).flatten = (List.range (rn_b A k)).map G
  | 0, _ => by rw [rn_b0]; rfl
  | k + 1, h => by
    have ih := rsh_fl (A := A) (G := G) k (by omega)
    have hm := rn_b_mono A k
    unfold rsh at ih ⊢
    rw [List.range_succ, List.map_append, List.flatten_append, ih]
    have e : List.range (rn_b A (k + 1)) = List.range (rn_b A k) ++ List.range' (rn_b A k) (rlen A k) := by
      have h1 : rn_b A (k + 1) = rn_b A k + rlen A k := by unfold rlen; omega
      rw [h1, List.range_eq_range', List.range_eq_range']
      have := List.range'_append (s := 0) (m := rn_b A k) (n := rlen A k) (step := 1)
      rw [Nat.zero_add, Nat.one_mul] at this
      exact this.symm
    rw [e, List.map_append]
    simp
theorem rsh_take {A : rn_L} {G : Nat → Nat × Nat} {k c : Nat} (h : c ≤ k) : (rsh A G k).take c = rsh A G c := by
  unfold rsh
  rw [← List.map_take, List.take_range, Nat.min_eq_left h]
theorem At_rsh {z z1 : ow_MS} {n : Nat} {A : rn_L} {G : Nat → Nat × Nat} (h : rn_At z n A []) (e1 : z1.1 (n + 1) = z.1 (n + 1)) (e2 : z1.1 (n + 2) = z.1 (n + 2)) (e3 : z1.2.1 (n + 3) = z.2.1 (n + 3)) (h4 : ∀ v, v < A.flatten.length → z1.2.1 (n + 4) v = nI (G v).1 ∧ z1.2.1 (n + 5) v = nI (G v).2) : rn_At z1 n (rsh A G A.length) [] := by
  obtain ⟨a1, a2, a3, a4⟩ := h
  have hl : (rsh A G A.length).length = A.length := by unfold rsh; rw [List.length_map, List.length_range]
  have hf := rsh_fl (A := A) (G := G) A.length (Nat.le_refl _)
  rw [rn_b_len] at hf
  refine ⟨?_, ?_, fun c hc => ?_, fun v p hv => ?_⟩
  · rw [e1, a1, List.append_nil, List.append_nil, hf, List.length_map, List.length_range]
  · rw [e2, a2, hl]
  · rw [hl] at hc
    rw [e3, a3 c hc, rsh_take hc, rsh_fl c hc, List.length_map, List.length_range]
    rfl
  · rw [List.append_nil, hf, List.getElem?_map] at hv
    by_cases hvl : v < A.flatten.length
    · rw [List.getElem?_range hvl] at hv
      cases hv
      exact h4 v hvl
    · rw [List.getElem?_eq_none (by rw [List.length_range]; omega)] at hv
      cases hv
/-- visits that change places in pairs -/
theorem wkF_sw {A : rn_L} {s : Nat → Nat} (hF : wkF A.flatten) (h1 : ∀ v, v < A.flatten.length → s v < A.flatten.length) (h2 : ∀ v, v < A.flatten.length → s (s v) = v) : wkF (rsh A (fun v => vAt A (s v)) A.length).flatten := by
  have hf := rsh_fl (A := A) (G := fun v => vAt A (s v)) A.length (Nat.le_refl _)
  rw [rn_b_len] at hf
  rw [hf]
  have mem : ∀ p, p ∈ (List.range A.flatten.length).map (fun v => vAt A (s v)) ↔ p ∈ A.flatten := by
    intro p
    rw [List.mem_map]
    constructor
    · rintro ⟨v, hv, e⟩
      rw [← e]
      exact List.mem_of_getElem? (vAt_of (h1 v (List.mem_range.mp hv)))
    · intro hp
      obtain ⟨v, hv, e⟩ := List.getElem_of_mem hp
      refine ⟨s v, List.mem_range.mpr (h1 v hv), ?_⟩
      show vAt A (s (s v)) = p
      rw [h2 v hv, vAt_eq (List.getElem?_eq_getElem hv), e]
  refine ⟨nodup_map List.nodup_range (fun a b ha hb e => ?_), fun p hp => ?_⟩
  · have ha := List.mem_range.mp ha
    have hb := List.mem_range.mp hb
    have := nodup_at hF.1 (vAt_of (h1 a ha)) (by rw [show vAt A (s a) = vAt A (s b) from e]; exact vAt_of (h1 b hb))
    have h9 := congrArg s this
    rw [h2 a ha, h2 b hb] at h9
    exact h9
  · obtain ⟨g1, g2, g3⟩ := hF.2 p ((mem p).mp hp)
    exact ⟨g1, g2, (mem _).mpr g3⟩
def sw2 (a b p : Nat) : Nat := if p = a then b else if p = b then a else p
theorem sw2_inv {a b p : Nat} : sw2 a b (sw2 a b p) = p := by
  unfold sw2
  repeat' split
  all_goals omega
theorem sw2_comm {a b c d p : Nat} (h1 : a ≠ c) (h2 : a ≠ d) (h3 : b ≠ c) (h4 : b ≠ d) : sw2 a b (sw2 c d p) = sw2 c d (sw2 a b p) := by
  unfold sw2
  repeat' split
  all_goals omega
theorem sw2_lt {a b p V : Nat} (h1 : a < V) (h2 : b < V) (h3 : p < V) : sw2 a b p < V := by
  unfold sw2
  repeat' split
  all_goals omega
/-- three pairs, six visits -/
theorem sw_three {v0 w0 v1 w1 v2 w2 V : Nat} (h : v0 < V ∧ w0 < V ∧ v1 < V ∧ w1 < V ∧ v2 < V ∧ w2 < V) (h01 : v0 ≠ v1 ∧ v0 ≠ w1 ∧ w0 ≠ v1 ∧ w0 ≠ w1) (h12 : v1 ≠ v2 ∧ v1 ≠ w2 ∧ w1 ≠ v2 ∧ w1 ≠ w2) (h20 : v2 ≠ v0 ∧ v2 ≠ w0 ∧ w2 ≠ v0 ∧ w2 ≠ w0) : (∀ p, p < V → sw2 v0 w0 (sw2 v1 w1 (sw2 v2 w2 p)) < V) ∧ ∀ p, p < V → sw2 v0 w0 (sw2 v1 w1 (sw2 v2 w2 (sw2 v0 w0 (sw2 v1 w1 (sw2 v2 w2 p))))) = p := by
  refine ⟨fun p hp => sw2_lt h.1 h.2.1 (sw2_lt h.2.2.1 h.2.2.2.1 (sw2_lt h.2.2.2.2.1 h.2.2.2.2.2 hp)), fun p _ => ?_⟩
  rw [sw2_comm (a := v2) (b := w2) (c := v0) (d := w0) h20.1 h20.2.1 h20.2.2.1 h20.2.2.2]
  rw [sw2_comm (a := v1) (b := w1) (c := v0) (d := w0) (fun e => h01.1 e.symm) (fun e => h01.2.2.1 e.symm) (fun e => h01.2.1 e.symm) (fun e => h01.2.2.2 e.symm)]
  rw [sw2_inv]
  rw [sw2_comm (a := v2) (b := w2) (c := v1) (d := w1) (fun e => h12.1 e.symm) (fun e => h12.2.2.1 e.symm) (fun e => h12.2.1 e.symm) (fun e => h12.2.2.2 e.symm)]
  rw [sw2_inv, sw2_inv]
/-- the sides of a face below s -/
def fl (M : Nat → Int32) (f s : Nat) : List Nat := (List.range s).filter (fun t => decide (M t = nI f))
theorem fl_s {M : Nat → Int32} {f s : Nat} : fl M f (s + 1) = fl M f s ++ if M s = nI f then [s] else [] := by
  unfold fl
  rw [List.range_succ, List.filter_append]
  by_cases h : M s = nI f <;> simp [h]
theorem fl_len {M : Nat → Int32} {f : Nat} : ∀ s, (fl M f s).length = cE M (nI f) s
  | 0 => rfl
  | s + 1 => by
    rw [fl_s, List.length_append, fl_len s]
    show _ = cE M (nI f) s + if M s = nI f then 1 else 0
    by_cases h : M s = nI f
    · rw [if_pos h, if_pos h]; rfl
    · rw [if_neg h, if_neg h]; rfl
theorem cE_mono {M : Nat → Int32} {x : Int32} {a b : Nat} (h : a ≤ b) : cE M x a ≤ cE M x b := by
  obtain ⟨d, rfl⟩ : ∃ d, b = a + d := ⟨b - a, by omega⟩
  induction d with
  | zero => exact Nat.le_refl _
  | succ d ih =>
    have := ih (by omega)
    show _ ≤ cE M x (a + d) + _
    omega
/-- a triangle whose corners differ has six visits -/
theorem tri_six {A : rn_L} {sg : Nat → Bool} {s0 s1 s2 : Nat} (hd : rn_ok A.flatten) (h : s0 < 2 * A.flatten.length ∧ s1 < 2 * A.flatten.length ∧ s2 < 2 * A.flatten.length) (hne : s0 ≠ s1 ∧ s0 ≠ s2 ∧ s1 ≠ s2) (hcl : ∀ s, (s = s0 ∨ s = s1 ∨ s = s2) → phi A sg s = s0 ∨ phi A sg s = s1 ∨ phi A sg s = s2) (c01 : crs A (hdv A s0) ≠ crs A (hdv A s1)) (c02 : crs A (hdv A s0) ≠ crs A (hdv A s2)) (c12 : crs A (hdv A s1) ≠ crs A (hdv A s2)) : ∀ i j, (i = s0 ∨ i = s1 ∨ i = s2) → (j = s0 ∨ j = s1 ∨ j = s2) → (i ≠ j → hdv A i ≠ hdv A j ∧ tlv A i ≠ tlv A j) ∧ hdv A i ≠ tlv A j := by
  have lt : ∀ i, (i = s0 ∨ i = s1 ∨ i = s2) → i < 2 * A.flatten.length := fun i hi => by omega
  have cne : ∀ i j, (i = s0 ∨ i = s1 ∨ i = s2) → (j = s0 ∨ j = s1 ∨ j = s2) → i ≠ j → crs A (hdv A i) ≠ crs A (hdv A j) := by
    intro i j hi hj hij
    rcases hi with e | e | e <;> rcases hj with e2 | e2 | e2 <;> rw [e, e2] <;> first | exact absurd (e.trans e2.symm) hij | exact c01 | exact c02 | exact c12 | exact c01.symm | exact c02.symm | exact c12.symm
  have i01 : phi A sg s0 ≠ phi A sg s1 := fun e => hne.1 (phi_inj hd h.1 h.2.1 e)
  have i02 : phi A sg s0 ≠ phi A sg s2 := fun e => hne.2.1 (phi_inj hd h.1 h.2.2 e)
  have i12 : phi A sg s1 ≠ phi A sg s2 := fun e => hne.2.2 (phi_inj hd h.2.1 h.2.2 e)
  have p0 := hcl s0 (Or.inl rfl)
  have p1 := hcl s1 (Or.inr (Or.inl rfl))
  have p2 := hcl s2 (Or.inr (Or.inr rfl))
  have pre : ∀ j, (j = s0 ∨ j = s1 ∨ j = s2) → ∃ i, (i = s0 ∨ i = s1 ∨ i = s2) ∧ phi A sg i = j := by
    intro j hj
    by_cases e0 : phi A sg s0 = j
    · exact ⟨s0, Or.inl rfl, e0⟩
    · by_cases e1 : phi A sg s1 = j
      · exact ⟨s1, Or.inr (Or.inl rfl), e1⟩
      · refine ⟨s2, Or.inr (Or.inr rfl), ?_⟩
        omega
  intro i j hi hj
  obtain ⟨a, ha, ea⟩ := pre i hi
  obtain ⟨b, hb, eb⟩ := pre j hj
  have ti : tlv A i = mtf A (hdv A a) := by rw [← ea]; exact phi_tl hd (lt a ha)
  have tj : tlv A j = mtf A (hdv A b) := by rw [← eb]; exact phi_tl hd (lt b hb)
  have hai := hdv_lt (lt a ha)
  have hbj := hdv_lt (lt b hb)
  refine ⟨fun hij => ⟨fun e => cne i j hi hj hij (by rw [e]), fun e => ?_⟩, fun e => ?_⟩
  · rw [ti, tj] at e
    have hab : a ≠ b := fun e9 => hij (by rw [← ea, ← eb, e9])
    have := congrArg (crs A) e
    rw [crs_mtf hd hai, crs_mtf hd hbj] at this
    exact cne a b ha hb hab this
  · rw [tj] at e
    by_cases hib : i = b
    · rw [hib] at e
      exact mtf_ne hd hbj e.symm
    · have := congrArg (crs A) e
      rw [crs_mtf hd hbj] at this
      exact cne i b hi hb hib this
def ne2 (a b : Nat) : Prop := a ≠ b
def dj4 (a b c d : Nat) : Prop := a ≠ c ∧ a ≠ d ∧ b ≠ c ∧ b ≠ d
theorem tri_pairs {A : rn_L} {sg : Nat → Bool} {s0 s1 s2 : Nat} (hd : rn_ok A.flatten) (h : s0 < 2 * A.flatten.length ∧ s1 < 2 * A.flatten.length ∧ s2 < 2 * A.flatten.length) (hne : s0 ≠ s1 ∧ s0 ≠ s2 ∧ s1 ≠ s2) (hcl : ∀ s, (s = s0 ∨ s = s1 ∨ s = s2) → phi A sg s = s0 ∨ phi A sg s = s1 ∨ phi A sg s = s2) (c01 : crs A (hdv A s0) ≠ crs A (hdv A s1)) (c02 : crs A (hdv A s0) ≠ crs A (hdv A s2)) (c12 : crs A (hdv A s1) ≠ crs A (hdv A s2)) : ne2 (s0 / 2) (rn_nx A (s0 / 2)) ∧ ne2 (s1 / 2) (rn_nx A (s1 / 2)) ∧ ne2 (s2 / 2) (rn_nx A (s2 / 2)) ∧ dj4 (s0 / 2) (rn_nx A (s0 / 2)) (s1 / 2) (rn_nx A (s1 / 2)) ∧ dj4 (s1 / 2) (rn_nx A (s1 / 2)) (s2 / 2) (rn_nx A (s2 / 2)) ∧ dj4 (s2 / 2) (rn_nx A (s2 / 2)) (s0 / 2) (rn_nx A (s0 / 2)) := by
  have six := tri_six (sg := sg) hd h hne hcl c01 c02 c12
  have pr : ∀ s, (s / 2 = hdv A s ∧ rn_nx A (s / 2) = tlv A s ∨ s / 2 = tlv A s ∧ rn_nx A (s / 2) = hdv A s) := by
    intro s
    unfold hdv tlv
    by_cases c : s % 2 = 0
    · rw [if_pos c, if_pos c]; exact Or.inr ⟨rfl, rfl⟩
    · rw [if_neg c, if_neg c]; exact Or.inl ⟨rfl, rfl⟩
  have one : ∀ i, (i = s0 ∨ i = s1 ∨ i = s2) → ne2 (i / 2) (rn_nx A (i / 2)) := by
    intro i hi
    have a3 := (six i i hi hi).2
    unfold ne2
    rcases pr i with ⟨e1, e2⟩ | ⟨e1, e2⟩ <;> rw [e2, e1]
    · exact a3
    · exact fun e => a3 e.symm
  have two : ∀ i j, (i = s0 ∨ i = s1 ∨ i = s2) → (j = s0 ∨ j = s1 ∨ j = s2) → i ≠ j → dj4 (i / 2) (rn_nx A (i / 2)) (j / 2) (rn_nx A (j / 2)) := by
    intro i j hi hj hij
    obtain ⟨b1, b2⟩ := (six i j hi hj).1 hij
    have b3 := (six i j hi hj).2
    have b4 := (six j i hj hi).2
    unfold dj4
    rcases pr i with ⟨e1, e2⟩ | ⟨e1, e2⟩ <;> rcases pr j with ⟨e3, e4⟩ | ⟨e3, e4⟩ <;> rw [e2, e4, e1, e3]
    · exact ⟨b1, b3, fun e => b4 e.symm, b2⟩
    · exact ⟨b3, b1, b2, fun e => b4 e.symm⟩
    · exact ⟨fun e => b4 e.symm, b2, b1, b3⟩
    · exact ⟨b2, fun e => b4 e.symm, b3, b1⟩
  exact ⟨one s0 (Or.inl rfl), one s1 (Or.inr (Or.inl rfl)), one s2 (Or.inr (Or.inr rfl)), two s0 s1 (Or.inl rfl) (Or.inr (Or.inl rfl)) hne.1, two s1 s2 (Or.inr (Or.inl rfl)) (Or.inr (Or.inr rfl)) hne.2.2, two s2 s0 (Or.inr (Or.inr rfl)) (Or.inl rfl) (fun e => hne.2.1 e.symm)⟩
theorem sw2_ne {a b c d p : Nat} (h : dj4 a b c d) (hp : p = c ∨ p = d) : sw2 a b p = p := by
  obtain ⟨h1, h2, h3, h4⟩ := h
  unfold sw2
  rcases hp with hp | hp <;> subst hp
  · rw [if_neg (fun e => h1 e.symm), if_neg (fun e => h3 e.symm)]
  · rw [if_neg (fun e => h2 e.symm), if_neg (fun e => h4 e.symm)]
theorem dj4_sy {a b c d : Nat} (h : dj4 a b c d) : dj4 c d a b := ⟨fun e => h.1 e.symm, fun e => h.2.2.1 e.symm, fun e => h.2.1 e.symm, fun e => h.2.2.2 e.symm⟩
section MV4
variable {X : (Nat → Nat → Int32) → Prop} {bb m n : Nat} {z : ow_MS} {A : rn_L} {sg : Nat → Bool}
theorem u_X13_threeChange_7 {x2 : Int32} {x3 : Int32} {x4 : Int32} {x5 : Int32} {x6 : Int32} {r1 : Nat} {t0 : Int32} {t1 : Int32} {t2 : Int32} {z : ow_MS} {Q : ow_MS → Prop} (H : Tt (fun K k => qm_X13_threeChange_7 K (q_X13_threeChange K k) x2 x3 x4 x5 x6 r1 t0 t1 t2 z) Q) : Tt (fun K k => q_X13_threeChange K k 7 x2 x3 x4 x5 x6 r1 t0 t1 t2 z) Q := w_un (fun _ _ => rfl) H
/-- two visits change places -/
theorem tri_step {Q : ow_MS → Prop} {i s : Nat} {x2 x3 x4 : Int32} {G : Nat → Nat × Nat} {y1 y2 : ow_MS} (hn : mw_net n) (hn3 : n ≠ 3000) (hl : A.flatten.length ≤ 24) (hi : i < 3) (hs9 : s < 2 * A.flatten.length) (h33 : y2.2.1 33 i = nI (s / 2)) (hne2 : ne2 (s / 2) (rn_nx A (s / 2))) (hG1 : G (s / 2) = vAt A (s / 2)) (hG2 : G (rn_nx A (s / 2)) = vAt A (rn_nx A (s / 2))) (o1 : rn_lk y1 n A) (hfy : fr (fun g => 3004 ≤ g ∧ g ≤ 3005) y1 y2) (hGv : ∀ v, v < A.flatten.length → y2.2.1 3004 v = nI (G v).1 ∧ y2.2.1 3005 v = nI (G v).2) (hout : ∀ y3 : ow_MS, fr (fun g => 3004 ≤ g ∧ g ≤ 3005) y1 y3 → (∀ v, v < A.flatten.length → y3.2.1 3004 v = nI (G (sw2 (s / 2) (rn_nx A (s / 2)) v)).1 ∧ y3.2.1 3005 v = nI (G (sw2 (s / 2) (rn_nx A (s / 2)) v)).2) → Tt (fun K i9 => q_X13_threeChange K i9 7 x2 x3 x4 (nI (i + 1)) 0 n 0 0 0 y3) Q) : Tt (fun K i9 => q_X13_threeChange K i9 7 x2 x3 x4 (nI i) 0 n 0 0 0 y2) Q := by
  have hmn := net_mod hn
  have hsl : s / 2 < A.flatten.length := by omega
  have hnl := rn_nx_lt (A := A) hsl
  have o3 : rn_lk y2 n A := fr_lk hfy (fun g hg => by omega) o1
  obtain ⟨v, hv⟩ : ∃ v, v = s / 2 := ⟨_, rfl⟩
  obtain ⟨w, hw⟩ : ∃ w, w = rn_nx A (s / 2) := ⟨_, rfl⟩
  rw [← hw, ← hv] at hne2
  rw [← hw] at hnl hG2 hout
  rw [← hv] at hsl h33 hG1 hout
  have ew : rn_nx A v = w := by rw [hv, hw]
  have hvw : v ≠ w := hne2
  obtain ⟨a4, a5⟩ := lk_cu o3 hsl
  obtain ⟨b4, b5⟩ := lk_cu o3 hnl
  refine u_X13_threeChange_7 ?_; unfold qm_X13_threeChange_7
  rw [nI_1]
  refine w_leF (a := 3) (by omega) (by omega) (w_rdI ml33 rfl (by omega) h33 (w_rdI (pl9 hn) rfl (by omega) ((lk_n o3 hsl).trans (by rw [ew])) (w_rdI (pl4 hn) rfl (by omega) b4 (w_wrI (pl4 pn3) rfl (by omega) (w_rdI (pl5 hn) rfl (by omega) (rd_ot (by omega) b5) (w_wrI (pl5 pn3) rfl (by omega) (w_rdI (pl4 hn) rfl (by omega) (rd_ot (by omega) (rd_ot (by omega) a4)) (w_wrI (pl4 pn3) rfl (by omega) (w_rdI (pl5 hn) rfl (by omega) (rd_ot (by omega) (rd_ot (by omega) (rd_ot (by omega) a5))) (w_wrI (pl5 pn3) rfl (by omega) (hout _ (fr_I2 (fr_I2 (fr_I2 (fr_I2 hfy (by omega)) (by omega)) (by omega)) (by omega)) (fun p hp => ?_))))))))))))
  show (usI (usI (usI (usI y2 3004 v (nI (crs A w))) 3005 v (nI (uns A w))) 3004 w (nI (crs A v))) 3005 w (nI (uns A v))).2.1 3004 p = _ ∧ (usI (usI (usI (usI y2 3004 v (nI (crs A w))) 3005 v (nI (uns A w))) 3004 w (nI (crs A v))) 3005 w (nI (uns A v))).2.1 3005 p = _
  unfold sw2
  by_cases c1 : p = v
  · rw [if_pos c1, hG2, c1]
    exact ⟨rd_ot (by decide) (rd_ne hvw (rd_ot (by decide) po_usI_at)), rd_ne hvw (rd_ot (by decide) po_usI_at)⟩
  · rw [if_neg c1]
    by_cases c2 : p = w
    · rw [if_pos c2, hG1, c2]
      exact ⟨rd_ot (by decide) po_usI_at, po_usI_at⟩
    · rw [if_neg c2]
      exact ⟨rd_ot (by decide) (rd_ne c2 (rd_ot (by decide) (rd_ne c1 (hGv p hp).1))), rd_ne c2 (rd_ot (by decide) (rd_ne c1 (rd_ot (by decide) (hGv p hp).2)))⟩
theorem e_X13_threeChange {r1 : Nat} {z : ow_MS} {Q : ow_MS → Prop} (H : Tt (fun K k => q_X13_threeChange K k 0 0 0 0 0 0 r1 0 0 0 z) Q) : Te (fun K => qe_X13_threeChange K r1 z) Q := w_te H
theorem u_X13_threeChange_0 {x2 : Int32} {x3 : Int32} {x4 : Int32} {x5 : Int32} {x6 : Int32} {r1 : Nat} {t0 : Int32} {t1 : Int32} {t2 : Int32} {z : ow_MS} {Q : ow_MS → Prop} (H : Tt (fun K k => qm_X13_threeChange_0 K (q_X13_threeChange K k) x2 x3 x4 x5 x6 r1 t0 t1 t2 z) Q) : Tt (fun K k => q_X13_threeChange K k 0 x2 x3 x4 x5 x6 r1 t0 t1 t2 z) Q := w_un (fun _ _ => rfl) H
theorem u_X13_threeChange_1 {x2 : Int32} {x3 : Int32} {x4 : Int32} {x5 : Int32} {x6 : Int32} {r1 : Nat} {t0 : Int32} {t1 : Int32} {t2 : Int32} {z : ow_MS} {Q : ow_MS → Prop} (H : Tt (fun K k => qm_X13_threeChange_1 K (q_X13_threeChange K k) x2 x3 x4 x5 x6 r1 t0 t1 t2 z) Q) : Tt (fun K k => q_X13_threeChange K k 1 x2 x3 x4 x5 x6 r1 t0 t1 t2 z) Q := w_un (fun _ _ => rfl) H
theorem u_X13_threeChange_8 {x2 : Int32} {x3 : Int32} {x4 : Int32} {x5 : Int32} {x6 : Int32} {r1 : Nat} {t0 : Int32} {t1 : Int32} {t2 : Int32} {z : ow_MS} {Q : ow_MS → Prop} (H : Tt (fun K k => qm_X13_threeChange_8 K (q_X13_threeChange K k) x2 x3 x4 x5 x6 r1 t0 t1 t2 z) Q) : Tt (fun K k => q_X13_threeChange K k 8 x2 x3 x4 x5 x6 r1 t0 t1 t2 z) Q := w_un (fun _ _ => rfl) H
theorem u_X13_threeChange_2 {x2 : Int32} {x3 : Int32} {x4 : Int32} {x5 : Int32} {x6 : Int32} {r1 : Nat} {t0 : Int32} {t1 : Int32} {t2 : Int32} {z : ow_MS} {Q : ow_MS → Prop} (H : Tt (fun K k => qm_X13_threeChange_2 K (q_X13_threeChange K k) x2 x3 x4 x5 x6 r1 t0 t1 t2 z) Q) : Tt (fun K k => q_X13_threeChange K k 2 x2 x3 x4 x5 x6 r1 t0 t1 t2 z) Q := w_un (fun _ _ => rfl) H
theorem u_X13_threeChange_6 {x2 : Int32} {x3 : Int32} {x4 : Int32} {x5 : Int32} {x6 : Int32} {r1 : Nat} {t0 : Int32} {t1 : Int32} {t2 : Int32} {z : ow_MS} {Q : ow_MS → Prop} (H : Tt (fun K k => qm_X13_threeChange_6 K (q_X13_threeChange K k) x2 x3 x4 x5 x6 r1 t0 t1 t2 z) Q) : Tt (fun K k => q_X13_threeChange K k 6 x2 x3 x4 x5 x6 r1 t0 t1 t2 z) Q := w_un (fun _ _ => rfl) H
theorem u_X13_threeChange_5 {x2 : Int32} {x3 : Int32} {x4 : Int32} {x5 : Int32} {x6 : Int32} {r1 : Nat} {t0 : Int32} {t1 : Int32} {t2 : Int32} {z : ow_MS} {Q : ow_MS → Prop} (H : Tt (fun K k => qm_X13_threeChange_5 K (q_X13_threeChange K k) x2 x3 x4 x5 x6 r1 t0 t1 t2 z) Q) : Tt (fun K k => q_X13_threeChange K k 5 x2 x3 x4 x5 x6 r1 t0 t1 t2 z) Q := w_un (fun _ _ => rfl) H
theorem u_X13_threeChange_4 {x2 : Int32} {x3 : Int32} {x4 : Int32} {x5 : Int32} {x6 : Int32} {r1 : Nat} {t0 : Int32} {t1 : Int32} {t2 : Int32} {z : ow_MS} {Q : ow_MS → Prop} (H : Tt (fun K k => qm_X13_threeChange_4 K (q_X13_threeChange K k) x2 x3 x4 x5 x6 r1 t0 t1 t2 z) Q) : Tt (fun K k => q_X13_threeChange K k 4 x2 x3 x4 x5 x6 r1 t0 t1 t2 z) Q := w_un (fun _ _ => rfl) H
theorem u_X13_threeChange_3 {x2 : Int32} {x3 : Int32} {x4 : Int32} {x5 : Int32} {x6 : Int32} {r1 : Nat} {t0 : Int32} {t1 : Int32} {t2 : Int32} {z : ow_MS} {Q : ow_MS → Prop} (H : Tt (fun K k => qm_X13_threeChange_3 K (q_X13_threeChange K k) x2 x3 x4 x5 x6 r1 t0 t1 t2 z) Q) : Tt (fun K k => q_X13_threeChange K k 3 x2 x3 x4 x5 x6 r1 t0 t1 t2 z) Q := w_un (fun _ _ => rfl) H
theorem tp_three (hn : mw_net n) (hn3 : n ≠ 3000) (hO : oNet z n A sg) (h : oF X bb m 0 z) : Te (fun K => qe_X13_threeChange K n z) (fun z1 => (∃ L2, L2 ≤ 2700 ∧ oF X bb m L2 z1) ∧ fr (fun g => g < 1000 ∧ g ≠ 12 ∧ g ≠ 28 ∨ 3001 ≤ g ∧ g ≤ 3016 ∨ n + 12 ≤ g ∧ g ≤ n + 16) z z1) := by
  have hmn := net_mod hn
  have hl := hO.len
  have hC := hO.2.2.2
  have hd := wkF_ok hO.wk
  refine e_X13_threeChange ?_
  refine u_X13_threeChange_0 ?_; unfold qm_X13_threeChange_0
  refine w_cs0 (tn_walk2 hn (by omega) hd hO.1 hO.2.1) (fun z0 ⟨f0, F, fc, w2⟩ => ?_)
  have f0' : fr (fun g => g < 1000 ∧ g ≠ 12 ∧ g ≠ 28 ∨ 3001 ≤ g ∧ g ≤ 3016 ∨ n + 12 ≤ g ∧ g ≤ n + 16) z z0 := fr_mono (fun g hg => by rcases hg with hg | hg | hg <;> omega) f0
  have hO0 : oNet z0 n A sg := oNet_fr f0 (fun g hg => by rcases hg with hg | hg | hg <;> omega) hO
  have h0 : oF X bb m 0 z0 := oF_3 f0 (fun g hg => by rcases hg with hg | hg | hg <;> omega) h
  obtain ⟨F16, F2, Fm, Fs⟩ := fc
  obtain ⟨M, hM⟩ : ∃ M, M = z0.2.1 (n + 14) := ⟨_, rfl⟩
  rw [← hM] at w2 Fm Fs
  let Q : ow_MS → Prop := fun z1 => (∃ L2, L2 ≤ 2700 ∧ oF X bb m L2 z1) ∧ fr (fun g => g < 1000 ∧ g ≠ 12 ∧ g ≠ 28 ∨ 3001 ≤ g ∧ g ≤ 3016 ∨ n + 12 ≤ g ∧ g ≤ n + 16) z z1
  have oY : ∀ {y : ow_MS}, fr frC z0 y → oNet y n A sg := fun hf => oNet_C hn hn3 hf hO0
  have Q2 : ∀ {y : ow_MS}, fr frC z0 y → fr (fun g => g < 1000 ∧ g ≠ 12 ∧ g ≠ 28 ∨ 3001 ≤ g ∧ g ≤ 3016 ∨ n + 12 ≤ g ∧ g ≤ n + 16) z y := fun hf => fr_tr f0' (fr_mono (fun g hg => by unfold frC at hg; omega) hf)
  have out : ∀ (k f : Nat) (y : ow_MS), f + k = F → fr frC z0 y → (∃ L2, L2 ≤ f ∧ oF X bb m L2 y) → Tt (fun K i => q_X13_threeChange K i 1 (nI f) 0 0 0 0 n 0 0 0 y) Q := by
    intro k
    induction k with
    | zero =>
      intro f y hf9 hf ⟨L2, hL2, ho⟩
      refine u_X13_threeChange_1 ?_; unfold qm_X13_threeChange_1
      exact w_rdF (x := nI F) (by rw [(hf (n + 16) (by unfold frC; omega)).1]; exact F16) (w_leT (by omega) (by omega) (w_some ⟨⟨L2, by omega, ho⟩, Q2 hf⟩))
    | succ k ih =>
      intro f y hf9 hf hLo
      have c8 : ∀ (y2 : ow_MS), fr frC z0 y2 → (∃ L2, L2 ≤ f + 1 ∧ oF X bb m L2 y2) → Tt (fun K i => q_X13_threeChange K i 8 (nI f) 0 0 0 0 n 0 0 0 y2) Q := by
        intro y2 hf2 ho2
        refine u_X13_threeChange_8 ?_; unfold qm_X13_threeChange_8
        rw [nI_1]
        exact ih (f + 1) y2 (by omega) hf2 ho2
      have e15 : y.2.1 (n + 15) f = nI (cE M (nI f) (2 * A.flatten.length)) := by
        rw [(hf (n + 15) (by unfold frC; omega)).2.1]
        exact Fs f (by omega)
      have hce := cE_le (M := M) (x := nI f) (2 * A.flatten.length)
      obtain ⟨L2, hL2, ho⟩ := hLo
      refine u_X13_threeChange_1 ?_; unfold qm_X13_threeChange_1
      refine w_rdF (x := nI F) (by rw [(hf (n + 16) (by unfold frC; omega)).1]; exact F16) (w_leF (by omega) (by omega) (w_rdI (pl15 hn) rfl (by omega) e15 (w_eqN (b := 3) (by omega) (by omega) (fun h3 => ?_) (fun h3 => c8 y hf ⟨L2, by omega, ho⟩))))
      have hlen3 : (fl M f (2 * A.flatten.length)).length = 3 := by rw [fl_len]; exact h3
      -- the three sides are collected
      have col : ∀ (k s : Nat) (x4 : Int32) (y : ow_MS), s + k = 2 * A.flatten.length → fr frC z0 y → oF X bb m L2 y → (∀ i t, (fl M f s)[i]? = some t → y.2.1 33 i = nI (t / 2) ∧ y.2.1 34 i = nI (crs A (hdv A t))) → Tt (fun K i => q_X13_threeChange K i 2 (nI f) (nI (fl M f s).length) x4 (nI s) 0 n 0 0 0 y) Q := by
        intro k
        induction k with
        | zero =>
          intro s x4 y hs hf ho hcol
          have o2 := oY hf
          have hse : s = 2 * A.flatten.length := by omega
          rw [hse] at hcol ⊢
          -- the three of them
          obtain ⟨s0, s1, s2, hfl⟩ : ∃ s0 s1 s2, fl M f (2 * A.flatten.length) = [s0, s1, s2] := by
            match hfl : fl M f (2 * A.flatten.length), hlen3 with
            | [a, b, c], _ => exact ⟨a, b, c, rfl⟩
          have nd : (fl M f (2 * A.flatten.length)).Nodup := nodup_filter List.nodup_range
          have memf : ∀ t, t ∈ fl M f (2 * A.flatten.length) ↔ t < 2 * A.flatten.length ∧ M t = nI f := fun t => by
            unfold fl
            rw [List.mem_filter, List.mem_range, decide_eq_true_iff]
          rw [hfl] at hcol nd memf
          have g0 := hcol 0 s0 rfl
          have g1 := hcol 1 s1 rfl
          have g2 := hcol 2 s2 rfl
          have m0 := (memf s0).mp (by simp)
          have m1 := (memf s1).mp (by simp)
          have m2 := (memf s2).mp (by simp)
          have hnd : s0 ≠ s1 ∧ s0 ≠ s2 ∧ s1 ≠ s2 := by
            simp only [List.nodup_cons, List.mem_cons, List.not_mem_nil, or_false, not_or] at nd
            exact ⟨nd.1.1, nd.1.2, nd.2.1⟩
          have x0 := (o2.cx (hdv_lt m0.1)).1
          have x1 := (o2.cx (hdv_lt m1.1)).1
          have x2 := (o2.cx (hdv_lt m2.1)).1
          have c8' := c8 y hf ⟨L2, by omega, ho⟩
          refine u_X13_threeChange_2 ?_; unfold qm_X13_threeChange_2
          refine w_rdF o2.1.V ?_
          rw [rn_mul2]
          refine w_leT (by omega) (by omega) (w_if (fun _ => c8') (fun _ => w_rdI ml34 nI_0.symm (by omega) g0.2 (w_rdI ml34 (show (1 : Int32) = nI 1 from rfl) (by omega) g1.2 (w_eqN (by omega) (by omega) (fun _ => c8') (fun c01 => w_rdI ml34 nI_0.symm (by omega) g0.2 (w_rdI ml34 (show (2 : Int32) = nI 2 from rfl) (by omega) g2.2 (w_eqN (by omega) (by omega) (fun _ => c8') (fun c02 => w_rdI ml34 (show (1 : Int32) = nI 1 from rfl) (by omega) g1.2 (w_rdI ml34 (show (2 : Int32) = nI 2 from rfl) (by omega) g2.2 (w_eqN (by omega) (by omega) (fun _ => c8') (fun c12 => w_cs0 (tn_copy pn3 hn (fun e => hn3 e.symm) (by omega) (by omega) o2.1.1) (fun y1 hy1 => ?_)))))))))))) 
          obtain ⟨q1, q2, q3⟩ := hy1
          have tp9 := tri_pairs (sg := sg) hd ⟨m0.1, m1.1, m2.1⟩ hnd (fun s hs9 => by
            have hms : s < 2 * A.flatten.length ∧ M s = nI f := by
              rcases hs9 with e | e | e <;> rw [e] <;> assumption
            have hp := (w2 f (by omega) s hms.1).mp hms.2
            have := (memf (phi A sg s)).mpr ⟨phi_lt hd hms.1, hp⟩
            simpa using this) c01 c02 c12
          clear c01 c02 c12 hnd nd memf
          obtain ⟨d0, d1, d2, e01, e12, e20⟩ := tp9
          have n0 := rn_nx_lt (A := A) (v := s0 / 2) (by omega)
          have n1 := rn_nx_lt (A := A) (v := s1 / 2) (by omega)
          have n2 := rn_nx_lt (A := A) (v := s2 / 2) (by omega)
          obtain ⟨sw1, sw2'⟩ := sw_three (v0 := s0 / 2) (w0 := rn_nx A (s0 / 2)) (v1 := s1 / 2) (w1 := rn_nx A (s1 / 2)) (v2 := s2 / 2) (w2 := rn_nx A (s2 / 2)) (V := A.flatten.length) ⟨by omega, n0, by omega, n1, by omega, n2⟩ e01 e12 e20
          have fr1 : fr frC z0 y1 := fr_tr hf (fr_mono (fun g hg => Or.inr (by omega)) q2)
          have o1 : rn_lk y1 n A := (oY fr1).1
          have gv : ∀ v, v < A.flatten.length → y1.2.1 3004 v = nI (vAt A v).1 ∧ y1.2.1 3005 v = nI (vAt A v).2 := fun v hv => q1.2.2.2 v _ (by rw [List.append_nil]; exact vAt_of hv)
          have e33 : ∀ {y2 : ow_MS}, fr (fun g => 3004 ≤ g ∧ g ≤ 3005) y1 y2 → y2.2.1 33 = y.2.1 33 := fun hfy => by rw [(hfy 33 (by omega)).2.1, (q2 33 (by omega)).2.1]
          rw [hfl]
          show Tt (fun K i9 => q_X13_threeChange K i9 7 (nI f) (nI 3) x4 (nI 0) 0 n 0 0 0 y1) Q
          refine tri_step (i := 0) (s := s0) (G := fun v => vAt A v) hn hn3 hl (by omega) m0.1 (by rw [e33 fr_rf]; exact g0.1) d0 rfl rfl o1 fr_rf gv (fun y2 fy2 hy2 => ?_)
          refine tri_step (i := 1) (s := s1) (G := fun v => vAt A (sw2 (s0 / 2) (rn_nx A (s0 / 2)) v)) hn hn3 hl (by omega) m1.1 (by rw [e33 fy2]; exact g1.1) d1 ?_ ?_ o1 fy2 hy2 (fun y3 fy3 hy3 => ?_)
          · show vAt A (sw2 _ _ _) = _
            rw [sw2_ne e01 (Or.inl rfl)]
          · show vAt A (sw2 _ _ _) = _
            rw [sw2_ne e01 (Or.inr rfl)]
          · refine tri_step (i := 2) (s := s2) (G := fun v => vAt A (sw2 (s0 / 2) (rn_nx A (s0 / 2)) (sw2 (s1 / 2) (rn_nx A (s1 / 2)) v))) hn hn3 hl (by omega) m2.1 (by rw [e33 fy3]; exact g2.1) d2 ?_ ?_ o1 fy3 hy3 (fun y4 fy4 hy4 => ?_)
            · show vAt A (sw2 _ _ (sw2 _ _ _)) = _
              rw [sw2_ne e12 (Or.inl rfl), sw2_ne (dj4_sy e20) (Or.inl rfl)]
            · show vAt A (sw2 _ _ (sw2 _ _ _)) = _
              rw [sw2_ne e12 (Or.inr rfl), sw2_ne (dj4_sy e20) (Or.inr rfl)]
            · have fr4 : fr frC z0 y4 := fr_tr fr1 (fr_mono (fun g hg => Or.inr (by omega)) fy4)
              have hA4 : rn_At y4 3000 (rsh A (fun v => vAt A (sw2 (s0 / 2) (rn_nx A (s0 / 2)) (sw2 (s1 / 2) (rn_nx A (s1 / 2)) (sw2 (s2 / 2) (rn_nx A (s2 / 2)) v)))) A.length) [] := At_rsh q1 (fy4 3001 (by omega)).1 (fy4 3002 (by omega)).1 (fy4 3003 (by omega)).2.1 hy4
              have hlF : (rsh A (fun v => vAt A (sw2 (s0 / 2) (rn_nx A (s0 / 2)) (sw2 (s1 / 2) (rn_nx A (s1 / 2)) (sw2 (s2 / 2) (rn_nx A (s2 / 2)) v)))) A.length).flatten = (List.range A.flatten.length).map (fun v => vAt A (sw2 (s0 / 2) (rn_nx A (s0 / 2)) (sw2 (s1 / 2) (rn_nx A (s1 / 2)) (sw2 (s2 / 2) (rn_nx A (s2 / 2)) v)))) := by
                rw [rsh_fl _ (Nat.le_refl _), rn_b_len]
              have hN : mNet y4 3000 := by
                refine ⟨_, sg, hA4, fun p hp => ?_, wkF_sw hO.wk sw1 sw2', ?_, ?_⟩
                · rw [hlF] at hp
                  obtain ⟨v, hv, e⟩ := List.mem_map.mp hp
                  have hvl := sw1 v (List.mem_range.mp hv)
                  rw [← e]
                  obtain ⟨k1, k2, k3⟩ := o2.cx hvl
                  show y4.2.1 3006 (crs A _) = _
                  rw [(fy4 3006 (by omega)).2.1, show y1.2.1 3006 (crs A _) = y.2.1 (n + 6) (crs A _) from q3 _ (by omega)]
                  exact k3
                · rw [hlF, List.length_map, List.length_range]
                  exact hl
                · unfold rsh
                  rw [List.length_map, List.length_range]
                  exact hC
              have ho4 : oF X bb m L2 y4 := oF_3 fy4 (fun g hg => by omega) (oF_3 q2 (fun g hg => by omega) ho)
              refine u_X13_threeChange_7 ?_; unfold qm_X13_threeChange_7
              refine w_leT (a := 3) (by omega) (by omega) (w_cs0 (tm_offer (by omega) ho4 hN) (fun y5 ⟨k1, k2⟩ => c8 y5 (fr_tr fr4 (fr_mono (fun g hg => by unfold frO at hg; unfold frC; omega) k2)) ⟨L2 + 1, by omega, k1⟩))
        | succ k ihc =>
          intro s x4 y hs hf ho hcol
          have o2 := oY hf
          have hsl : s < 2 * A.flatten.length := by omega
          have e14 : y.2.1 (n + 14) s = M s := by rw [(hf (n + 14) (by unfold frC; omega)).2.1, hM]
          have hhl := hdv_lt hsl
          have hnl := rn_nx_lt (A := A) (v := s / 2) (by omega)
          have c6 : ∀ (y2 : ow_MS) (x9 : Int32), fr frC z0 y2 → oF X bb m L2 y2 → (∀ i t, (fl M f (s + 1))[i]? = some t → y2.2.1 33 i = nI (t / 2) ∧ y2.2.1 34 i = nI (crs A (hdv A t))) → Tt (fun K i => q_X13_threeChange K i 6 (nI f) (nI (fl M f (s + 1)).length) x9 (nI s) 0 n 0 0 0 y2) Q := by
            intro y2 x9 hf2 ho2 hcol2
            refine u_X13_threeChange_6 ?_; unfold qm_X13_threeChange_6
            rw [nI_1]
            exact ihc (s + 1) x9 y2 (by omega) hf2 ho2 hcol2
          refine u_X13_threeChange_2 ?_; unfold qm_X13_threeChange_2
          refine w_rdF o2.1.V ?_
          rw [rn_mul2]
          refine w_leF (by omega) (by omega) (w_rdI (pl14 hn) rfl (by omega) e14 (w_if (fun hMs => ?_) (fun hMs => ?_)))
          · have hfs : fl M f (s + 1) = fl M f s ++ [s] := by rw [fl_s, if_pos hMs]
            have hk3 : (fl M f s).length < 3 := by
              have h9 := cE_mono (M := M) (x := nI f) (a := s + 1) (b := 2 * A.flatten.length) (by omega)
              rw [← fl_len, ← fl_len, hfs, List.length_append] at h9
              have : (fl M f s).length + 1 ≤ (fl M f (2 * A.flatten.length)).length := h9
              omega
            rw [rn_shr1 (by omega)]
            refine w_wrI ml33 rfl hk3 ?_
            have f33 : fr (fun g => g = 33) y (usI y 33 (fl M f s).length (nI (s / 2))) := fr_I rfl
            have o3 := oNet_fr f33 (fun g hg => by omega) o2
            have c3 : Tt (fun K i => q_X13_threeChange K i 3 (nI f) (nI (fl M f s).length) x4 (nI s) (nI (s / 2)) n (nI (hdv A s)) 0 (nI (fl M f s).length) (usI y 33 (fl M f s).length (nI (s / 2)))) Q := by
              have f34 : fr (fun g => g = 33 ∨ g = 34) y (usI (usI y 33 (fl M f s).length (nI (s / 2))) 34 (fl M f s).length (nI (crs A (hdv A s)))) := fr_I2 (fr_I (Or.inl rfl)) (Or.inr rfl)
              have o4 := oNet_fr f34 (fun g hg => by omega) o2
              have c5 : ∀ (t0 t1 : Int32), Tt (fun K i => q_X13_threeChange K i 5 (nI f) (nI (fl M f s).length) x4 (nI s) (nI (s / 2)) n t0 t1 0 (usI (usI y 33 (fl M f s).length (nI (s / 2))) 34 (fl M f s).length (nI (crs A (hdv A s))))) Q := by
                intro t0 t1
                have := c6 (usI (usI y 33 (fl M f s).length (nI (s / 2))) 34 (fl M f s).length (nI (crs A (hdv A s)))) (t1 ||| t0) (fr_tr hf (fr_mono (fun g hg => Or.inl (by omega)) f34)) (oF_fr f34 (fun g hg => by unfold per; omega) ho) (by
                  rw [hfs]
                  intro i t hi
                  by_cases hil : i < (fl M f s).length
                  · rw [List.getElem?_append_left hil] at hi
                    obtain ⟨k1, k2⟩ := hcol i t hi
                    exact ⟨rd_ot (by decide) (rd_ne (by omega) k1), rd_ne (by omega) (rd_ot (by decide) k2)⟩
                  · have hie : i = (fl M f s).length := by
                      have := (List.getElem?_eq_some_iff.mp hi).1
                      rw [List.length_append] at this
                      have : i < (fl M f s).length + 1 := this
                      omega
                    subst hie
                    rw [List.getElem?_append_right (Nat.le_refl _), Nat.sub_self] at hi
                    cases hi
                    exact ⟨rd_ot (by decide) po_usI_at, po_usI_at⟩)
                rw [hfs, List.length_append] at this
                refine u_X13_threeChange_5 ?_; unfold qm_X13_threeChange_5
                rw [nI_1]
                exact this
              have c4 : ∀ t0 : Int32, Tt (fun K i => q_X13_threeChange K i 4 (nI f) (nI (fl M f s).length) x4 (nI s) (nI (s / 2)) n t0 0 0 (usI (usI y 33 (fl M f s).length (nI (s / 2))) 34 (fl M f s).length (nI (crs A (hdv A s))))) Q := by
                intro t0
                refine u_X13_threeChange_4 ?_; unfold qm_X13_threeChange_4
                exact c5 _ _
              refine u_X13_threeChange_3 ?_; unfold qm_X13_threeChange_3
              exact w_rdI (pl4 hn) rfl (by omega) (lk_cu o3.1 hhl).1 (w_wrI ml34 rfl hk3 (w_rdI (pl5 hn) rfl (by omega) rfl (w_if (fun _ => w_rdI (pl9 hn) rfl (by omega) (lk_n o4.1 (by omega)) (w_rdI (pl5 hn) rfl (by omega) rfl (w_if (fun _ => c5 _ _) (fun _ => c4 _)))) (fun _ => c4 _))))
            rw [rn_and1 (by omega)]
            refine w_eqN (b := 0) (by omega) (by omega) (fun h9 => w_rdI (pl9 hn) rfl (by omega) (lk_n o3.1 (by omega)) ?_) (fun h9 => ?_)
            · unfold hdv at c3
              rw [if_pos h9] at c3
              exact c3
            · unfold hdv at c3
              rw [if_neg h9] at c3
              exact c3
          · have hfs : fl M f (s + 1) = fl M f s := by rw [fl_s, if_neg hMs, List.append_nil]
            have := c6 y x4 hf ho (by rw [hfs]; exact hcol)
            rw [hfs] at this
            exact this
      exact col _ 0 0 y (Nat.zero_add _) hf ho (fun i t hi => by simp [fl] at hi)
  exact out F 0 z0 (by omega) fr_rf ⟨0, Nat.le_refl _, h0⟩
end MV4
