/-! braids: the group -/
def ovp (n : Nat) (k : Int) (T : List Nat) : List Nat := if k % 2 = 0 then T else T.map (ovG n)
def rq (n : Nat) (a b : Int × List Nat) : Prop := ∃ i j : Nat, a.1 - (i : Int) = b.1 - (j : Int) ∧ eqT n (List.replicate i (gNN n - 1) ++ a.2) (List.replicate j (gNN n - 1) ++ b.2)
def mR (n : Nat) (a b : Int × List Nat) : Int × List Nat := (a.1 + b.1, ovp n b.1 a.2 ++ b.2)
section XG2
variable {n : Nat}
theorem ov_ov (h2 : 2 ≤ n) (h5 : n ≤ 5) {T : List Nat} (h : okT n T) : (T.map (ovG n)).map (ovG n) = T := by
  rw [List.map_map]
  conv => rhs; rw [← List.map_id T]
  exact List.map_congr_left (fun v hv => (d_pk h2 h5 (h v hv)).2.2.1)
theorem ovp_ok (h2 : 2 ≤ n) (h5 : n ≤ 5) {k : Int} {T : List Nat} (h : okT n T) : okT n (ovp n k T) := by
  unfold ovp
  split
  · exact h
  · exact okT_ov h2 h5 h
theorem ovp_ov (h2 : 2 ≤ n) (h5 : n ≤ 5) {k l : Int} {T : List Nat} (h : okT n T) : ovp n k (ovp n l T) = ovp n (k + l) T := by
  unfold ovp
  by_cases a : k % 2 = 0
  · by_cases b : l % 2 = 0
    · rw [if_pos a, if_pos b, if_pos (by omega)]
    · rw [if_pos a, if_neg b, if_neg (by omega)]
  · by_cases b : l % 2 = 0
    · rw [if_neg a, if_pos b, if_neg (by omega)]
    · rw [if_neg a, if_neg b, if_pos (by omega), ov_ov h2 h5 h]
theorem ovp_app {k : Int} {S T : List Nat} : ovp n k (S ++ T) = ovp n k S ++ ovp n k T := by
  unfold ovp
  split
  · rfl
  · exact List.map_append
theorem ovp_D (h2 : 2 ≤ n) (h5 : n ≤ 5) {k : Int} {i : Nat} : ovp n k (List.replicate i (gNN n - 1)) = List.replicate i (gNN n - 1) := by
  unfold ovp
  split
  · rfl
  · rw [List.map_replicate, ov_D h2 h5]
theorem ovp_0 {T : List Nat} : ovp n 0 T = T := if_pos rfl
theorem ovp_nil {k : Int} : ovp n k [] = [] := by
  unfold ovp
  split <;> rfl
theorem eqT_ovp (h2 : 2 ≤ n) (h5 : n ≤ 5) {k : Int} {T F : List Nat} (hT : okT n T) (hF : okT n F) (h : eqT n T F) : eqT n (ovp n k T) (ovp n k F) := by
  unfold ovp
  split
  · exact h
  · exact eqT_ov h2 h5 hT hF h
theorem D_pw (h2 : 2 ≤ n) (h5 : n ≤ 5) : ∀ (i : Nat) {T : List Nat}, okT n T → eqT n (T ++ List.replicate i (gNN n - 1)) (List.replicate i (gNN n - 1) ++ ovp n i T)
  | 0, T, h => by
    show eqT n (T ++ []) ([] ++ ovp n (0 : Int) T)
    rw [List.append_nil, ovp_0]
    exact eqT_rf _
  | i + 1, T, h => by
    have hD : okT n [gNN n - 1] := okT_c.mpr ⟨dl_lt, okT_n⟩
    have ih := D_pw h2 h5 i (okT_ov h2 h5 h)
    have e : ovp n (i : Int) (T.map (ovG n)) = ovp n ((i + 1 : Nat) : Int) T := by
      have : T.map (ovG n) = ovp n 1 T := (if_neg (by decide)).symm
      rw [this, ovp_ov h2 h5 h]
      rfl
    rw [e] at ih
    have k1 := eqT_ap h2 h5 (List.replicate i (gNN n - 1)) rp_ok (okT_a.mpr ⟨h, hD⟩) (okT_c.mpr ⟨dl_lt, okT_ov h2 h5 h⟩) (D_thr h2 h5 T h)
    rw [List.append_assoc] at k1
    exact eqT_tr k1 (eqT_pr (P := [gNN n - 1]) h2 h5 hD ih)
theorem rp_add (i j : Nat) : List.replicate (i + j) (gNN n - 1) = List.replicate i (gNN n - 1) ++ List.replicate j (gNN n - 1) := (List.replicate_append_replicate).symm
theorem rq_rf (a : Int × List Nat) : rq n a a := ⟨0, 0, rfl, eqT_rf _⟩
theorem rq_sy {a b : Int × List Nat} (h : rq n a b) : rq n b a := by
  obtain ⟨i, j, e, h⟩ := h
  exact ⟨j, i, e.symm, eqT_sy h⟩
theorem rq_tr (h2 : 2 ≤ n) (h5 : n ≤ 5) {a b c : Int × List Nat} (h : rq n a b) (h' : rq n b c) : rq n a c := by
  obtain ⟨i, j, e, h⟩ := h
  obtain ⟨i', j', e', h'⟩ := h'
  refine ⟨i' + i, j + j', by omega, ?_⟩
  have k1 := eqT_pr (P := List.replicate i' (gNN n - 1)) h2 h5 rp_ok h
  have k2 := eqT_pr (P := List.replicate j (gNN n - 1)) h2 h5 rp_ok h'
  rw [← List.append_assoc, ← List.append_assoc, ← rp_add, ← rp_add] at k1 k2
  rw [Nat.add_comm i' j] at k1
  exact eqT_tr k1 k2
theorem mR_ok (h2 : 2 ≤ n) (h5 : n ≤ 5) {a b : Int × List Nat} (ha : okT n a.2) (hb : okT n b.2) : okT n (mR n a b).2 := okT_a.mpr ⟨ovp_ok h2 h5 ha, hb⟩
theorem mR_l (h2 : 2 ≤ n) (h5 : n ≤ 5) {a a' b : Int × List Nat} (ha : okT n a.2) (ha' : okT n a'.2) (hb : okT n b.2) (h : rq n a a') : rq n (mR n a b) (mR n a' b) := by
  obtain ⟨i, j, e, h⟩ := h
  refine ⟨i, j, ?_, ?_⟩
  · show a.1 + b.1 - (i : Int) = a'.1 + b.1 - (j : Int)
    omega
  · have k := eqT_ovp (k := b.1) h2 h5 (okT_a.mpr ⟨rp_ok, ha⟩) (okT_a.mpr ⟨rp_ok, ha'⟩) h
    rw [ovp_app, ovp_app, ovp_D h2 h5, ovp_D h2 h5] at k
    have k2 := eqT_ap h2 h5 b.2 hb (okT_a.mpr ⟨rp_ok, ovp_ok h2 h5 ha⟩) (okT_a.mpr ⟨rp_ok, ovp_ok h2 h5 ha'⟩) k
    rw [List.append_assoc, List.append_assoc] at k2
    exact k2
theorem mR_r (h2 : 2 ≤ n) (h5 : n ≤ 5) {a b b' : Int × List Nat} (ha : okT n a.2) (hb : okT n b.2) (hb' : okT n b'.2) (h : rq n b b') : rq n (mR n a b) (mR n a b') := by
  obtain ⟨i, j, e, h⟩ := h
  refine ⟨i, j, ?_, ?_⟩
  · show a.1 + b.1 - (i : Int) = a.1 + b'.1 - (j : Int)
    omega
  · have mv : ∀ (b : Int × List Nat) (i : Nat), okT n b.2 → eqT n (List.replicate i (gNN n - 1) ++ (mR n a b).2) (ovp n (b.1 - i) a.2 ++ (List.replicate i (gNN n - 1) ++ b.2)) := fun b i hb => by
      have ho := ovp_ok (k := b.1 - i) h2 h5 ha
      have k := D_pw h2 h5 i ho
      rw [ovp_ov h2 h5 ha, show (i : Int) + (b.1 - i) = b.1 by omega] at k
      have k2 := eqT_ap h2 h5 b.2 hb (okT_a.mpr ⟨ho, rp_ok⟩) (okT_a.mpr ⟨rp_ok, ovp_ok h2 h5 ha⟩) k
      rw [List.append_assoc, List.append_assoc] at k2
      exact eqT_sy k2
    refine eqT_tr (mv b i hb) (eqT_tr ?_ (eqT_sy (mv b' j hb')))
    rw [e]
    exact eqT_pr h2 h5 (ovp_ok h2 h5 ha) h
theorem mR_as (h2 : 2 ≤ n) (h5 : n ≤ 5) {a b c : Int × List Nat} (ha : okT n a.2) : mR n (mR n a b) c = mR n a (mR n b c) := by
  unfold mR
  rw [ovp_app, ovp_ov h2 h5 ha, List.append_assoc, Int.add_assoc, Int.add_comm c.1 b.1]
end XG2
abbrev N5 : Type := {n : Nat // 2 ≤ n ∧ n ≤ 5}
abbrev Rw5 (m : N5) : Type := {e : Int × List Nat // okT m.1 e.2}
def Gn (m : N5) : Type := Quot (fun a b : Rw5 m => rq m.1 a.1 b.1)
def gq (m : N5) (a : Rw5 m) : Gn m := Quot.mk _ a
theorem gq_so {m : N5} {a b : Rw5 m} (h : rq m.1 a.1 b.1) : gq m a = gq m b := Quot.sound h
theorem gq_ex {m : N5} {a b : Rw5 m} (h : gq m a = gq m b) : rq m.1 a.1 b.1 := by
  let p : Gn m → Prop := Quot.lift (fun b : Rw5 m => rq m.1 a.1 b.1) (fun b c h => propext ⟨fun h1 => rq_tr m.2.1 m.2.2 h1 h, fun h1 => rq_tr m.2.1 m.2.2 h1 (rq_sy h)⟩)
  have h1 : p (gq m a) := rq_rf _
  rw [h] at h1
  exact h1
def gmR {m : N5} (a b : Rw5 m) : Rw5 m := ⟨mR m.1 a.1 b.1, mR_ok m.2.1 m.2.2 a.2 b.2⟩
def gm {m : N5} (a b : Gn m) : Gn m := Quot.lift (fun x : Rw5 m => Quot.lift (fun y : Rw5 m => gq m (gmR x y)) (fun y y' h => gq_so (mR_r m.2.1 m.2.2 x.2 y.2 y'.2 h)) b) (fun x x' h => Quot.ind (β := fun b => Quot.lift (fun y : Rw5 m => gq m (gmR x y)) (fun y y' h => gq_so (mR_r m.2.1 m.2.2 x.2 y.2 y'.2 h)) b = Quot.lift (fun y : Rw5 m => gq m (gmR x' y)) (fun y y' h => gq_so (mR_r m.2.1 m.2.2 x'.2 y.2 y'.2 h)) b) (fun y => gq_so (mR_l m.2.1 m.2.2 x.2 x'.2 y.2 h)) b) a
theorem gm_q {m : N5} (a b : Rw5 m) : gm (gq m a) (gq m b) = gq m (gmR a b) := rfl
theorem g_rep {m : N5} (g : Gn m) : ∃ a, g = gq m a := Quot.ind (β := fun g => ∃ a, g = gq m a) (fun a => ⟨a, rfl⟩) g
/-- a power of delta; a list -/
def gD (m : N5) (k : Int) : Gn m := gq m ⟨(k, []), okT_n⟩
def gL (m : N5) (T : List Nat) (h : okT m.1 T) : Gn m := gq m ⟨(0, T), h⟩
def g1 (m : N5) : Gn m := gD m 0
section XG3
variable {m : N5}
theorem gm_as (a b c : Gn m) : gm (gm a b) c = gm a (gm b c) := by
  obtain ⟨a, rfl⟩ := g_rep a
  obtain ⟨b, rfl⟩ := g_rep b
  obtain ⟨c, rfl⟩ := g_rep c
  rw [gm_q, gm_q, gm_q, gm_q]
  exact congrArg (gq m) (Subtype.ext (mR_as m.2.1 m.2.2 a.2))
theorem g1_l (a : Gn m) : gm (g1 m) a = a := by
  obtain ⟨a, rfl⟩ := g_rep a
  show gq m (gmR _ a) = _
  refine congrArg (gq m) (Subtype.ext ?_)
  show ((0 : Int) + a.1.1, ovp m.1 a.1.1 [] ++ a.1.2) = a.1
  rw [ovp_nil, Int.zero_add]
  rfl
theorem g1_r (a : Gn m) : gm a (g1 m) = a := by
  obtain ⟨a, rfl⟩ := g_rep a
  show gq m (gmR a _) = _
  refine congrArg (gq m) (Subtype.ext ?_)
  show (a.1.1 + (0 : Int), ovp m.1 0 a.1.2 ++ []) = a.1
  rw [ovp_0, Int.add_zero, List.append_nil]
theorem gD_m (k l : Int) : gm (gD m k) (gD m l) = gD m (k + l) := by
  show gq m (gmR _ _) = _
  refine congrArg (gq m) (Subtype.ext ?_)
  show (k + l, ovp m.1 l [] ++ []) = (k + l, [])
  rw [ovp_nil]
  rfl
theorem gL_m {S T : List Nat} (hS : okT m.1 S) (hT : okT m.1 T) : gm (gL m S hS) (gL m T hT) = gL m (S ++ T) (okT_a.mpr ⟨hS, hT⟩) := by
  show gq m (gmR _ _) = _
  refine congrArg (gq m) (Subtype.ext ?_)
  show ((0 : Int) + 0, ovp m.1 0 S ++ T) = (0, S ++ T)
  rw [ovp_0]
  rfl
theorem g_eq (a : Rw5 m) : gq m a = gm (gD m a.1.1) (gL m a.1.2 a.2) := by
  show _ = gq m (gmR _ _)
  refine congrArg (gq m) (Subtype.ext ?_)
  show a.1 = (a.1.1 + 0, ovp m.1 0 [] ++ a.1.2)
  rw [ovp_0, Int.add_zero]
  rfl
theorem gL_D (k : Int) {T : List Nat} (hT : okT m.1 T) : gm (gL m T hT) (gD m k) = gm (gD m k) (gL m (ovp m.1 k T) (ovp_ok m.2.1 m.2.2 hT)) := by
  show gq m (gmR _ _) = gq m (gmR _ _)
  refine congrArg (gq m) (Subtype.ext ?_)
  show ((0 : Int) + k, ovp m.1 k T ++ []) = (k + 0, ovp m.1 0 [] ++ ovp m.1 k T)
  rw [List.append_nil, ovp_0, Int.zero_add, Int.add_zero]
  rfl
theorem gL_eq {S T : List Nat} {hS : okT m.1 S} {hT : okT m.1 T} (h : eqT m.1 S T) : gL m S hS = gL m T hT := gq_so ⟨0, 0, rfl, h⟩
theorem gL_ex {S T : List Nat} {hS : okT m.1 S} {hT : okT m.1 T} (h : gL m S hS = gL m T hT) : eqT m.1 S T := by
  obtain ⟨i, j, e, k⟩ := gq_ex h
  have e : (0 : Int) - i = 0 - j := e
  have e9 : i = j := by omega
  subst e9
  exact eqT_cl m.2.1 m.2.2 _ rp_ok hS hT k
theorem gL_nil {h : okT m.1 []} : gL m [] h = g1 m := rfl
theorem gL_rp (j : Nat) {h : okT m.1 (List.replicate j (gNN m.1 - 1))} : gL m (List.replicate j (gNN m.1 - 1)) h = gD m (j : Int) := by
  refine gq_so ⟨0, j, ?_, ?_⟩
  · show (0 : Int) - (0 : Nat) = (j : Int) - (j : Int)
    omega
  · show eqT m.1 ([] ++ List.replicate j (gNN m.1 - 1)) (List.replicate j (gNN m.1 - 1) ++ [])
    rw [List.append_nil, List.nil_append]
    exact eqT_rf _
/-- inverses -/
def inv9 (a : Gn m) : Prop := ∃ b, gm b a = g1 m ∧ gm a b = g1 m
theorem inv_m {a b : Gn m} (ha : inv9 a) (hb : inv9 b) : inv9 (gm a b) := by
  obtain ⟨x, x1, x2⟩ := ha
  obtain ⟨y, y1, y2⟩ := hb
  refine ⟨gm y x, ?_, ?_⟩
  · rw [gm_as, ← gm_as x a b, x1, g1_l, y1]
  · rw [gm_as, ← gm_as b y x, y2, g1_l, x2]
theorem inv_D (k : Int) : inv9 (gD m k) := ⟨gD m (-k), by rw [gD_m, Int.add_left_neg]; rfl, by rw [gD_m, Int.add_right_neg]; rfl⟩
theorem D_t {a b : Nat} (ha : a < gNN m.1) (hb : b < gNN m.1) (e : muG m.1 a b = gNN m.1 - 1 + 1) {h : okT m.1 [a, b]} : gL m [a, b] h = gD m 1 := by
  have h2 := m.2.1
  have h5 := m.2.2
  have k := eqT_swp (X := []) (Y := []) h2 h5 okT_n okT_n ha hb nn_0 e (mu_r0 h2 h5)
  have k2 := eqT_id (X := [gNN m.1 - 1]) (Y := []) h2 h5 (okT_c.mpr ⟨dl_lt, okT_n⟩) okT_n
  have k3 : eqT m.1 [a, b] (List.replicate 1 (gNN m.1 - 1)) := eqT_tr k k2
  rw [gL_eq (hT := rp_ok) k3]
  exact gL_rp 1
theorem inv_1 {t : Nat} (ht : t < gNN m.1) {h : okT m.1 [t]} : inv9 (gL m [t] h) := by
  have h2 := m.2.1
  have h5 := m.2.2
  have a1 := (f_one h2 h5 ht).2.1
  have e1 := (ta_n h2 h5 ht).2
  have hA : okT m.1 [ahG m.1 t] := okT_c.mpr ⟨a1, okT_n⟩
  have x1 := dd_lt h2 h5 ht (dl_lt (n := m.1))
  have e2 := dd_mu h2 h5 ht dl_lt (d_pk h2 h5 ht).2.2.2.2
  have hX : okT m.1 [ddG m.1 t (gNN m.1 - 1)] := okT_c.mpr ⟨x1, okT_n⟩
  have k1 : gm (gL m [ahG m.1 t] hA) (gL m [t] h) = gD m 1 := by
    rw [gL_m]
    exact D_t a1 ht e1
  have k2 : gm (gL m [t] h) (gL m [ddG m.1 t (gNN m.1 - 1)] hX) = gD m 1 := by
    rw [gL_m]
    exact D_t ht x1 e2
  have l : gm (gm (gD m (-1)) (gL m [ahG m.1 t] hA)) (gL m [t] h) = g1 m := by
    rw [gm_as, k1, gD_m]
    rfl
  have r : gm (gL m [t] h) (gm (gL m [ddG m.1 t (gNN m.1 - 1)] hX) (gD m (-1))) = g1 m := by
    rw [← gm_as, k2, gD_m]
    rfl
  have e : gm (gD m (-1)) (gL m [ahG m.1 t] hA) = gm (gL m [ddG m.1 t (gNN m.1 - 1)] hX) (gD m (-1)) := by
    have := gm_as (gm (gD m (-1)) (gL m [ahG m.1 t] hA)) (gL m [t] h) (gm (gL m [ddG m.1 t (gNN m.1 - 1)] hX) (gD m (-1)))
    rw [l, r, g1_l, g1_r] at this
    exact this.symm
  exact ⟨_, l, by rw [e]; exact r⟩
theorem inv_L : ∀ (T : List Nat) (h : okT m.1 T), inv9 (gL m T h)
  | [], _ => inv_D 0
  | t :: T, h => by
    obtain ⟨ht, hT⟩ := okT_c.mp h
    have := inv_m (inv_1 ht (h := okT_c.mpr ⟨ht, okT_n⟩)) (inv_L T hT)
    rw [gL_m] at this
    exact this
theorem inv_all (a : Gn m) : inv9 a := by
  obtain ⟨a, rfl⟩ := g_rep a
  rw [g_eq]
  exact inv_m (inv_D _) (inv_L _ _)
noncomputable def gi (a : Gn m) : Gn m := Classical.choose (inv_all a)
theorem gi_l (a : Gn m) : gm (gi a) a = g1 m := (Classical.choose_spec (inv_all a)).1
theorem gi_r (a : Gn m) : gm a (gi a) = g1 m := (Classical.choose_spec (inv_all a)).2
theorem gi_cl (a b : Gn m) : gm (gi a) (gm a b) = b := by rw [← gm_as, gi_l, g1_l]
theorem gi_cr (a b : Gn m) : gm a (gm (gi a) b) = b := by rw [← gm_as, gi_r, g1_l]
theorem gi_un {a b : Gn m} (h : gm a b = g1 m) : b = gi a := by
  have := gi_cl a b
  rw [h, g1_r] at this
  exact this.symm
theorem gi_m (a b : Gn m) : gi (gm a b) = gm (gi b) (gi a) := (gi_un (by rw [gm_as, gi_cr, gi_r])).symm
theorem gi_i (a : Gn m) : gi (gi a) = a := (gi_un (gi_l a)).symm
theorem gi_1 : gi (g1 m) = g1 m := (gi_un (g1_l _)).symm
theorem gi_D (k : Int) : gi (gD m k) = gD m (-k) := (gi_un (by rw [gD_m, Int.add_right_neg]; rfl)).symm
end XG3
