/-! braids: order, length, meets -/
section XG4
variable {m : N5}
def gpo (a : Gn m) : Prop := ∃ T h, a = gL m T h
def gle (a b : Gn m) : Prop := gpo (gm (gi a) b)
def isM (a b c : Gn m) : Prop := gle c a ∧ gle c b ∧ ∀ z, gle z a → gle z b → gle z c
def szD (m : N5) : Nat := szG m.1 (gNN m.1 - 1)
theorem szT_rp (n : Nat) : ∀ i, szT n (List.replicate i (gNN n - 1)) = i * szG n (gNN n - 1)
  | 0 => (Nat.zero_mul _).symm
  | i + 1 => by
    show szG n (gNN n - 1) + szT n (List.replicate i (gNN n - 1)) = _
    rw [szT_rp n i, Nat.succ_mul, Nat.add_comm]
theorem szT_ov {n : Nat} (h2 : 2 ≤ n) (h5 : n ≤ 5) : ∀ (T : List Nat), okT n T → szT n (T.map (ovG n)) = szT n T
  | [], _ => rfl
  | t :: T, h => by
    obtain ⟨ht, hT⟩ := okT_c.mp h
    show szG n (ovG n t) + szT n (T.map (ovG n)) = szG n t + szT n T
    rw [(f_one h2 h5 ht).2.2.2.1, szT_ov h2 h5 T hT]
def lnR (m : N5) (a : Rw5 m) : Int := a.1.1 * (szD m : Int) + (szT m.1 a.1.2 : Int)
theorem lnR_so {a b : Rw5 m} (h : rq m.1 a.1 b.1) : lnR m a = lnR m b := by
  obtain ⟨i, j, e, h⟩ := h
  have k := szT_eq m.2.1 m.2.2 _ (okT_a.mpr ⟨rp_ok, b.2⟩) (okT_a.mpr ⟨rp_ok, a.2⟩) h
  rw [szT_a, szT_a, szT_rp, szT_rp] at k
  have k' : (i : Int) * (szD m : Int) + (szT m.1 a.1.2 : Int) = (j : Int) * (szD m : Int) + (szT m.1 b.1.2 : Int) := by
    have := congrArg (fun x : Nat => (x : Int)) k
    rw [← Int.natCast_mul, ← Int.natCast_mul, ← Int.natCast_add, ← Int.natCast_add]
    exact this
  unfold lnR
  have ea : a.1.1 = b.1.1 + ((i : Int) - j) := by omega
  rw [ea, Int.add_mul, Int.sub_mul]
  omega
def glen (a : Gn m) : Int := Quot.lift (fun x : Rw5 m => lnR m x) (fun _ _ h => lnR_so h) a
theorem glen_q (a : Rw5 m) : glen (gq m a) = lnR m a := rfl
theorem glen_m (a b : Gn m) : glen (gm a b) = glen a + glen b := by
  obtain ⟨a, rfl⟩ := g_rep a
  obtain ⟨b, rfl⟩ := g_rep b
  rw [gm_q, glen_q, glen_q, glen_q]
  show (a.1.1 + b.1.1) * (szD m : Int) + ((szT m.1 (ovp m.1 b.1.1 a.1.2 ++ b.1.2) : Nat) : Int) = (a.1.1 * (szD m : Int) + (szT m.1 a.1.2 : Int)) + (b.1.1 * (szD m : Int) + (szT m.1 b.1.2 : Int))
  have e : szT m.1 (ovp m.1 b.1.1 a.1.2) = szT m.1 a.1.2 := by
    unfold ovp
    split
    · rfl
    · exact szT_ov m.2.1 m.2.2 _ a.2
  rw [szT_a, e, Int.add_mul, Int.natCast_add]
  omega
theorem glen_L {T : List Nat} {h : okT m.1 T} : glen (gL m T h) = (szT m.1 T : Int) := by
  show (0 : Int) * (szD m : Int) + (szT m.1 T : Int) = _
  rw [Int.zero_mul, Int.zero_add]
theorem glen_D {k : Int} : glen (gD m k) = k * (szD m : Int) := by
  show k * (szD m : Int) + ((0 : Nat) : Int) = _
  exact Int.add_zero _
theorem glen_1 : glen (g1 m) = 0 := by
  rw [g1, glen_D, Int.zero_mul]
theorem glen_i (a : Gn m) : glen (gi a) = - glen a := by
  have := glen_m (gi a) a
  rw [gi_l, glen_1] at this
  omega
theorem gp_L {T : List Nat} {h : okT m.1 T} : gpo (gL m T h) := ⟨T, h, rfl⟩
theorem gp_1 : gpo (g1 m) := ⟨[], okT_n, rfl⟩
theorem gp_m {a b : Gn m} (ha : gpo a) (hb : gpo b) : gpo (gm a b) := by
  obtain ⟨S, hS, rfl⟩ := ha
  obtain ⟨T, hT, rfl⟩ := hb
  rw [gL_m]
  exact gp_L
theorem gp_0 {a : Gn m} (h : gpo a) : 0 ≤ glen a := by
  obtain ⟨S, hS, rfl⟩ := h
  rw [glen_L]
  omega
theorem gp_z {a : Gn m} (h : gpo a) (e : glen a = 0) : a = g1 m := by
  obtain ⟨S, hS, rfl⟩ := h
  rw [glen_L] at e
  rw [← gL_nil (h := okT_n)]
  exact gL_eq (z_szT m.2.1 m.2.2 S hS (by omega))
theorem gp_D (j : Nat) : gpo (gD m (j : Int)) := ⟨_, rp_ok, (gL_rp j).symm⟩
theorem gp_cj {a : Gn m} (k : Int) (h : gpo a) : gpo (gm (gi (gD m k)) (gm a (gD m k))) := by
  obtain ⟨S, hS, rfl⟩ := h
  rw [gL_D, gi_cl]
  exact gp_L
theorem gp_ci {a : Gn m} (k : Int) (h : gpo a) : gpo (gm (gD m k) (gm a (gi (gD m k)))) := by
  have := gp_cj (-k) h
  rw [← gi_D, gi_i] at this
  exact this
theorem gle_1 {a : Gn m} : gle (g1 m) a ↔ gpo a := by
  unfold gle
  rw [gi_1, g1_l]
theorem gle_rf (a : Gn m) : gle a a := by
  unfold gle
  rw [gi_l]
  exact gp_1
theorem gle_tr {a b c : Gn m} (h : gle a b) (h' : gle b c) : gle a c := by
  have := gp_m h h'
  rw [gm_as, gi_cr] at this
  exact this
theorem gle_l (c : Gn m) {a b : Gn m} : gle (gm c a) (gm c b) ↔ gle a b := by
  unfold gle
  rw [gi_m, gm_as, gi_cl]
theorem gle_s (c : Gn m) {a b : Gn m} : gle (gm c a) b ↔ gle a (gm (gi c) b) := by
  unfold gle
  rw [gi_m, gm_as]
theorem gle_rD (k : Int) {a b : Gn m} (h : gle a b) : gle (gm a (gD m k)) (gm b (gD m k)) := by
  have := gp_cj k h
  rw [gm_as] at this
  unfold gle
  rw [gi_m, gm_as]
  exact this
theorem gle_ri (k : Int) {a b : Gn m} (h : gle a b) : gle (gm a (gi (gD m k))) (gm b (gi (gD m k))) := by
  rw [gi_D]
  exact gle_rD (-k) h
theorem gle_ln {a b : Gn m} (h : gle a b) : glen a ≤ glen b ∧ (glen b ≤ glen a → a = b) := by
  have h1 := gp_0 h
  rw [glen_m, glen_i] at h1
  refine ⟨by omega, fun h9 => ?_⟩
  have := gp_z h (by rw [glen_m, glen_i]; omega)
  have e := gi_cr a b
  rw [this, g1_r] at e
  exact e
theorem gle_as {a b : Gn m} (h : gle a b) (h' : gle b a) : a = b := (gle_ln h).2 (gle_ln h').1
theorem gle_p {a b : Gn m} (ha : gpo a) : gle b (gm b a) := by
  unfold gle
  rw [gi_cl]
  exact ha
/-- lists divide as they do -/
theorem gle_L {S T : List Nat} {hS : okT m.1 S} {hT : okT m.1 T} : gle (gL m S hS) (gL m T hT) ↔ dvT m.1 S T := by
  constructor
  · rintro ⟨C, hC, e⟩
    have e2 := gi_cr (gL m S hS) (gL m T hT)
    rw [e, gL_m] at e2
    exact ⟨C, hC, eqT_sy (gL_ex e2)⟩
  · rintro ⟨C, hC, e⟩
    refine ⟨C, hC, ?_⟩
    rw [gL_eq (hT := okT_a.mpr ⟨hS, hC⟩) e, ← gL_m hS hC, gi_cl]
theorem g_up (a : Gn m) : ∃ j : Nat, ∀ i : Nat, j ≤ i → gpo (gm (gD m (i : Int)) a) := by
  obtain ⟨a, rfl⟩ := g_rep a
  refine ⟨(-a.1.1).toNat, fun i hi => ?_⟩
  rw [g_eq, ← gm_as, gD_m]
  obtain ⟨j, hj⟩ : ∃ j : Nat, (i : Int) + a.1.1 = (j : Int) := ⟨((i : Int) + a.1.1).toNat, by omega⟩
  rw [hj]
  exact gp_m (gp_D j) gp_L
theorem gmeet (a b : Gn m) : ∃ c, isM a b c := by
  obtain ⟨ja, hja⟩ := g_up a
  obtain ⟨jb, hjb⟩ := g_up b
  obtain ⟨A, hA, eA⟩ := hja (ja + jb) (by omega)
  obtain ⟨B, hB, eB⟩ := hjb (ja + jb) (by omega)
  obtain ⟨C, hC, c1, c2, c3⟩ := gcd_ex m.2.1 m.2.2 hA hB
  refine ⟨gm (gi (gD m ((ja + jb : Nat) : Int))) (gL m C hC), ?_, ?_, fun z h1 h2 => ?_⟩
  · rw [← gle_l (gD m ((ja + jb : Nat) : Int)), gi_cr, eA]
    exact gle_L.mpr c1
  · rw [← gle_l (gD m ((ja + jb : Nat) : Int)), gi_cr, eB]
    exact gle_L.mpr c2
  · obtain ⟨jz, hjz⟩ := g_up z
    obtain ⟨Z, hZ, eZ⟩ := hjz (jz + (ja + jb)) (by omega)
    have eD : gD m ((jz + (ja + jb) : Nat) : Int) = gm (gD m (jz : Int)) (gD m ((ja + jb : Nat) : Int)) := by
      rw [gD_m]
      congr 1
    have hR : okT m.1 (List.replicate jz (gNN m.1 - 1)) := rp_ok
    have mv : ∀ {x : Gn m} {X : List Nat} {hX : okT m.1 X}, gm (gD m ((ja + jb : Nat) : Int)) x = gL m X hX → gle z x → dvT m.1 Z (List.replicate jz (gNN m.1 - 1) ++ X) := by
      intro x X hX e h
      have := (gle_l (gD m ((jz + (ja + jb) : Nat) : Int))).mpr h
      rw [eZ, eD, gm_as, e, ← gL_rp (h := hR) jz, gL_m] at this
      exact gle_L.mp this
    obtain ⟨C', hC', d1, d2, d3⟩ := gcd_ex m.2.1 m.2.2 (okT_a.mpr ⟨hR, hA⟩) (okT_a.mpr ⟨hR, hB⟩)
    have z1 := d3 Z hZ (mv eA h1) (mv eB h2)
    obtain ⟨E, hE, e1⟩ := d3 _ hR ⟨A, hA, eqT_rf _⟩ ⟨B, hB, eqT_rf _⟩
    have cn : ∀ {X : List Nat}, okT m.1 X → dvT m.1 C' (List.replicate jz (gNN m.1 - 1) ++ X) → dvT m.1 E X := by
      rintro X hX ⟨F, hF, e2⟩
      have e3 := eqT_tr e2 (eqT_ap m.2.1 m.2.2 F hF hC' (okT_a.mpr ⟨hR, hE⟩) e1)
      rw [List.append_assoc] at e3
      exact ⟨F, hF, eqT_cl m.2.1 m.2.2 _ hR hX (okT_a.mpr ⟨hE, hF⟩) e3⟩
    obtain ⟨F, hF, e4⟩ := c3 E hE (cn hA d1) (cn hB d2)
    have z2 : dvT m.1 Z (List.replicate jz (gNN m.1 - 1) ++ C) := by
      refine dvT_tr m.2.1 m.2.2 hZ hC' z1 ⟨F, hF, ?_⟩
      have k1 := eqT_pr m.2.1 m.2.2 hR e4
      have k2 := eqT_ap m.2.1 m.2.2 F hF hC' (okT_a.mpr ⟨hR, hE⟩) e1
      rw [List.append_assoc] at k2
      exact eqT_tr k1 (eqT_sy k2)
    rw [← gle_l (gD m ((jz + (ja + jb) : Nat) : Int)), eZ, eD, gm_as, gi_cr, ← gL_rp (h := hR) jz, gL_m]
    exact gle_L.mpr z2
theorem isM_un {a b c c' : Gn m} (h : isM a b c) (h' : isM a b c') : c = c' := gle_as (h'.2.2 c h.1 h.2.1) (h.2.2 c' h'.1 h'.2.1)
/-- what is positive and not 1 begins with a simple one -/
theorem gp_hd {a : Gn m} (h : gpo a) : a = g1 m ∨ ∃ t h1, t ≠ 0 ∧ t < gNN m.1 ∧ gle (gL m [t] h1) a := by
  obtain ⟨T, hT, rfl⟩ := h
  induction T with
  | nil => exact Or.inl rfl
  | cons t T ih =>
    obtain ⟨ht, hT'⟩ := okT_c.mp hT
    by_cases e : t = 0
    · subst e
      have e2 : gL m (0 :: T) hT = gL m T hT' := gL_eq (eqT_id (X := []) m.2.1 m.2.2 okT_n hT')
      rw [e2]
      exact ih hT'
    · exact Or.inr ⟨t, okT_c.mpr ⟨ht, okT_n⟩, e, ht, gle_L.mpr ⟨T, hT', eqT_rf _⟩⟩
theorem gle_tD {t : Nat} (ht : t < gNN m.1) {h : okT m.1 [t]} : gle (gL m [t] h) (gD m 1) := by
  have h2 := m.2.1
  have h5 := m.2.2
  have x1 := dd_lt h2 h5 ht (dl_lt (n := m.1))
  have e2 := dd_mu h2 h5 ht dl_lt (d_pk h2 h5 ht).2.2.2.2
  have hX : okT m.1 [ddG m.1 t (gNN m.1 - 1)] := okT_c.mpr ⟨x1, okT_n⟩
  rw [← D_t ht x1 e2 (h := okT_c.mpr ⟨ht, hX⟩)]
  exact gle_L.mpr ⟨_, hX, eqT_rf _⟩
theorem gp_D1 {a e : Gn m} (h : gpo a) (he : isM a (gD m 1) e) (h0 : glen e = 0) : a = g1 m := by
  rcases gp_hd h with h9 | ⟨t, h1, t0, ht, h9⟩
  · exact h9
  · exfalso
    have k := he.2.2 _ h9 (gle_tD ht)
    have k1 := (gle_ln k).1
    rw [glen_L, h0] at k1
    have k2 : szT m.1 [t] = szG m.1 t + 0 := rfl
    exact t0 (sz_z m.2.1 m.2.2 ht (by omega))
end XG4
