/-! the moves of both sides: kinds 0 and 2 -/
/-- what a kind of moves makes on both sides, by nets -/
def mBi (kd : Nat) (A : rn_L) (sg : Nat → Bool) (R : ow_NT) : Prop := (∀ j, j < mv_cnt R.1 kd → (∃ (F P : Nat → Int32) (Q : ow_NT), mv_mk kd R F P ∧ ow_b24 Q.2.2.1 ∧ mv_B kd j Q R F P = true) → ∃ A' sg', OM A sg R.1 kd A' sg' ∧ ∀ (F P : Nat → Int32) (Q : ow_NT), mv_mk kd R F P → ow_b24 Q.2.2.1 → mv_B kd j Q R F P = true ∧ ∃ f, isoV A' sg' f (mv_T kd j Q R F P)) ∧ ∀ A' sg', OM A sg R.1 kd A' sg' → ∃ j, j < mv_cnt R.1 kd ∧ ∀ (F P : Nat → Int32) (Q : ow_NT), mv_mk kd R F P → ow_b24 Q.2.2.1 → mv_B kd j Q R F P = true ∧ ∃ f, isoV A' sg' f (mv_T kd j Q R F P)
def idN (x : Nat) : Nat := x
theorem woA_wox {A : rn_L} {x : Nat} (hu : ∀ p, p ∈ A.flatten → p.2 < 2) (y : Nat) : woA x y A = wox (wox A x) y := by
  unfold woA wox rmv
  rw [List.map_map, List.map_map, List.map_map]
  refine List.map_congr_left (fun L hL => ?_)
  show _ = List.filter _ (List.filter _ (List.filter _ (List.filter _ L)))
  rw [List.filter_filter, List.filter_filter, List.filter_filter]
  refine List.filter_congr (fun p hp => ?_)
  have h2 := hu p (List.mem_flatten.mpr ⟨L, hL, hp⟩)
  have key : ∀ t : Nat, (p.1 ≠ t) ↔ (p ≠ (t, 1) ∧ p ≠ (t, 0)) := by
    intro t
    constructor
    · intro h9
      exact ⟨fun e => h9 (by rw [e]), fun e => h9 (by rw [e])⟩
    · rintro ⟨g1, g2⟩ e
      have : p.2 = 0 ∨ p.2 = 1 := by omega
      rcases this with e2 | e2
      · exact g2 (Prod.ext e e2)
      · exact g1 (Prod.ext e e2)
  rw [Bool.eq_iff_iff]
  simp only [Bool.and_eq_true, decide_eq_true_iff, key, and_assoc, and_comm, and_left_comm]
theorem wox_no {A : rn_L} {x : Nat} (h : ∀ p, p ∈ A.flatten → p.1 ≠ x) : wox A x = A := by
  unfold wox rmv
  rw [List.map_map]
  refine (List.map_congr_left (fun L hL => ?_)).trans (List.map_id _)
  show List.filter _ (List.filter _ L) = L
  have hL9 : ∀ u, (x, u) ∉ L := fun u h9 => h _ (List.mem_flatten.mpr ⟨L, hL, h9⟩) rfl
  rw [fil_n (hL9 0), fil_n (hL9 1)]
theorem woA_sy {A : rn_L} {x y : Nat} : woA x y A = woA y x A := by
  unfold woA
  refine List.map_congr_left (fun L hL => List.filter_congr (fun p hp => Bool.and_comm _ _))
section XP0
variable {A : rn_L} {sg : Nat → Bool} {R Q : ow_NT}
theorem isoV_cpy {f : Nat → Nat} (h : isoV A sg f R) : isoV A sg f (nt_copy Q R) := by
  have key : ∀ {β : Type} (f g : Nat → β) (n k : Nat), k < n → va_cpy f g 0 0 n k = f k := fun f g n k hk => by
    rw [pk_cpy_in (Nat.zero_le k) (by omega), Nat.zero_add, Nat.sub_zero]
  exact isoV_cg h rfl rfl (fun k hk => ⟨key _ _ _ _ hk, key _ _ _ _ hk⟩) (fun x hx => key _ _ _ _ hx)
/-- a visit by its crossing -/
theorem vis_of (h : isoV A sg idN R) {x u : Nat} (hx : x < R.1) (hu : u < 2) : ∃ v, v < A.flatten.length ∧ crs A v = x ∧ uns A v = u ∧ lbv A idN v = 2 * x + u := by
  obtain ⟨v, hv, e⟩ := lbv_sur (isoS_iff.mp h.1) (k := 2 * x + u) (by omega)
  obtain ⟨e1, e2⟩ := lbv_hf (isoS_iff.mp h.1) hv
  have e1 : lbv A idN v / 2 = crs A v := e1
  exact ⟨v, hv, by omega, by omega, e⟩
theorem lb_un (h : isoV A sg idN R) {v : Nat} (hv : v < A.flatten.length) : lbv A idN v = 2 * crs A v + uns A v ∧ uns A v < 2 ∧ crs A v < R.1 ∧ R.2.2.1.1 (lbv A idN v) = lbv A idN (rn_nx A v) ∧ lbv A idN (mtf A v) = mt (lbv A idN v) := by
  have hi := isoS_iff.mp h.1
  obtain ⟨e1, e2⟩ := lbv_hf hi hv
  have h9 := lbv_lt hi hv
  have e1 : lbv A idN v / 2 = crs A v := e1
  exact ⟨rfl, by omega, by omega, hi.2.2.2.2.2.1 v hv, (lbv_mt hi hv).2.2.1⟩
theorem mb_0 (h : isoV A sg idN R) : mBi 0 A sg R := by
  have hi := isoS_iff.mp h.1
  have hd := wkF_ok h.1.1
  have hu : ∀ p, p ∈ A.flatten → p.2 < 2 := fun p hp => (h.1.1.2 p hp).2.1
  have one : ∀ {x : Nat} {Q : ow_NT}, x < R.1 → ∃ f, isoV (woA x x A) sg f (nt_rm (nt_copy Q R) x) := by
    intro x Q hx
    obtain ⟨v, hv, e1, e2, e3⟩ := vis_of h hx (u := 0) (by omega)
    have hm := vAt_mem hv
    have e9 : vAt A v = (x, 0) := Prod.ext e1 e2
    rw [e9] at hm
    obtain ⟨f', k1, -⟩ := iso_rm (isoV_cpy (Q := Q) h) hm
    refine ⟨f', ?_⟩
    rw [woA_wox hu x, wox_no (fun p hp => ((wox_mem hu).mp hp).2)]
    exact k1
  constructor
  · rintro j hj ⟨F, P, Q, hmk, hQ, hB⟩
    have hj : j < R.1 := hj
    have hB : mv_bs R.2.2.1.1 (2 * j) (2 * j + 1) = true := hB
    have hB9 := hB
    refine ⟨woA j j A, sg, ⟨rfl, ?_⟩, fun F' P' Q' _ _ => ⟨hB9, ?_⟩⟩
    · have main : ∀ u, u < 2 → R.2.2.1.1 (2 * j + u) = mt (2 * j + u) → ∃ v, v < A.flatten.length ∧ rn_nx A v = mtf A v ∧ woA j j A = woA (crs A v) (crs A v) A := by
        intro u hu2 e
        obtain ⟨v, hv, e1, e2, e3⟩ := vis_of h hj hu2
        obtain ⟨-, -, -, q4, q5⟩ := lb_un h hv
        refine ⟨v, hv, ?_, by rw [e1]⟩
        refine lbv_inj hi (rn_nx_lt hv) (mtf_lt hd hv) ?_
        show lbv A idN _ = lbv A idN _
        rw [← q4, q5, e3, e]
      unfold mv_bs at hB
      rw [Bool.or_eq_true, decide_eq_true_iff, decide_eq_true_iff] at hB
      rcases hB with hB | hB
      · refine main 0 (by omega) ?_
        rw [Nat.add_zero, hB]
        unfold mt
        rw [if_pos (by omega)]
      · refine main 1 (by omega) ?_
        rw [hB]
        unfold mt
        rw [if_neg (by omega)]
        omega
    · show ∃ f, isoV _ _ f (mv_t0 Q' R j)
      unfold mv_t0
      rw [if_pos hB9]
      exact one hj
  · rintro A' sg' ⟨rfl, v, hv, e, rfl⟩
    obtain ⟨q1, q2, q3, q4, q5⟩ := lb_un h hv
    refine ⟨crs A v, q3, fun F P Q hmk hQ => ?_⟩
    have hB : mv_bs R.2.2.1.1 (2 * crs A v) (2 * crs A v + 1) = true := by
      unfold mv_bs
      rw [Bool.or_eq_true, decide_eq_true_iff, decide_eq_true_iff]
      rw [e, q5, q1] at q4
      unfold mt at q4
      rcases (show uns A v = 0 ∨ uns A v = 1 by omega) with e2 | e2 <;> rw [e2] at q4
      · rw [if_pos (by omega)] at q4
        exact Or.inl q4
      · rw [if_neg (by omega)] at q4
        exact Or.inr q4
    refine ⟨hB, ?_⟩
    obtain ⟨f, hf⟩ := one (Q := Q) q3
    refine ⟨f, ?_⟩
    show isoV _ _ _ (mv_t0 Q R (crs A v))
    unfold mv_t0
    rw [if_pos hB]
    exact hf
theorem mb_2 (h : isoV A sg idN R) (hp : pm1 R) : mBi 2 A sg R := by
  have hi := isoS_iff.mp h.1
  have hd := wkF_ok h.1.1
  have hu : ∀ p, p ∈ A.flatten → p.2 < 2 := fun p hp => (h.1.1.2 p hp).2.1
  have xm : ∀ {x : Nat}, x < R.1 → (x, 0) ∈ A.flatten := by
    intro x hx
    obtain ⟨v, hv, e1, e2, e3⟩ := vis_of h hx (u := 0) (by omega)
    have hm := vAt_mem hv
    rw [show vAt A v = (x, 0) from Prod.ext e1 e2] at hm
    exact hm
  have sgG : ∀ {x : Nat}, x < R.1 → R.2.2.2 x = if sg x then -1 else 1 := fun hx => iso_sg1 h hp (xm hx)
  have sgN9 : ∀ {x y : Nat}, x < R.1 → y < R.1 → (R.2.2.2 x ≠ R.2.2.2 y ↔ sg x ≠ sg y) := by
    intro x y hx hy
    rw [sgG hx, sgG hy]
    cases sg x <;> cases sg y <;> simp
  have two : ∀ {x y : Nat} {Q : ow_NT}, x < R.1 → y < x → ∃ f, isoV (woA x y A) sg f (nt_rm (nt_rm (nt_copy Q R) x) y) := by
    intro x y Q hx hy
    obtain ⟨f', k1, k2⟩ := iso_rm (isoV_cpy (Q := Q) h) (xm hx)
    have k3 := k2 y
    have k3 : f' y = if y = R.1 - 1 then x else y := k3
    rw [if_neg (by omega)] at k3
    obtain ⟨f2, j1, -⟩ := iso_rm k1 (x0 := y) ((wox_mem hu).mpr ⟨xm (by omega), show y ≠ x by omega⟩)
    rw [k3] at j1
    refine ⟨f2, ?_⟩
    rw [woA_wox hu y]
    exact j1
  have bs9 : ∀ {x y u : Nat}, x < R.1 → y < R.1 → u < 2 → mv_bs R.2.2.1.1 (2 * x + u) (2 * y + u) = true → ∃ v w, v < A.flatten.length ∧ w < A.flatten.length ∧ crs A v = x ∧ uns A v = u ∧ crs A w = y ∧ uns A w = u ∧ (rn_nx A v = w ∨ rn_nx A w = v) := by
    intro x y u hx hy hu2 e
    obtain ⟨v, hv, e1, e2, e3⟩ := vis_of h hx hu2
    obtain ⟨w, hw, g1, g2, g3⟩ := vis_of h hy hu2
    refine ⟨v, w, hv, hw, e1, e2, g1, g2, ?_⟩
    unfold mv_bs at e
    rw [Bool.or_eq_true, decide_eq_true_iff, decide_eq_true_iff, ← e3, ← g3] at e
    rw [(lb_un h hv).2.2.2.1, (lb_un h hw).2.2.2.1] at e
    exact e.imp (fun e => lbv_inj hi (rn_nx_lt hv) hw e) (fun e => lbv_inj hi (rn_nx_lt hw) hv e)
  have same : ∀ {v w : Nat}, v < A.flatten.length → w < A.flatten.length → crs A v = crs A w → uns A v = uns A w → v = w := fun hv hw e1 e2 => lbv_inj hi hv hw (by show lbv A idN _ = lbv A idN _; rw [(lb_un h hv).1, (lb_un h hw).1, e1, e2])
  have mtu : ∀ {v : Nat}, v < A.flatten.length → uns A v = 0 → crs A (mtf A v) = crs A v ∧ uns A (mtf A v) = 1 := by
    intro v hv e
    have h1 := lb_un h hv
    have h2 := lb_un h (mtf_lt hd hv)
    have h3 := h1.2.2.2.2
    rw [h1.1, h2.1, e] at h3
    unfold mt at h3
    rw [if_pos (by omega)] at h3
    omega
  have main9 : ∀ {x y : Nat}, x < R.1 → y < x → R.2.2.2 x ≠ R.2.2.2 y → mv_bs R.2.2.1.1 (2 * x) (2 * y) = true → mv_bs R.2.2.1.1 (2 * x + 1) (2 * y + 1) = true → ∃ v, v < A.flatten.length ∧ tw2 A sg v ∧ woA x y A = woA (crs A v) (crs A (rn_nx A v)) A := by
    intro x y hx b1 b2 b3 b4
    have b2 := (sgN9 hx (by omega)).mp b2
    obtain ⟨v, w, hv, hw, e1, e2, e3, e4, e5⟩ := bs9 (u := 0) hx (show y < R.1 by omega) (by omega) b3
    obtain ⟨v', w', hv', hw', g1, g2, g3, g4, g5⟩ := bs9 (u := 1) hx (show y < R.1 by omega) (by omega) b4
    have mv := mtu hv e2
    have mw := mtu hw e4
    have ev : mtf A v = v' := same (mtf_lt hd hv) hv' (by rw [mv.1, e1, g1]) (by rw [mv.2, g2])
    have ew : mtf A w = w' := same (mtf_lt hd hw) hw' (by rw [mw.1, e3, g3]) (by rw [mw.2, g4])
    rcases e5 with e5 | e5
    · refine ⟨v, hv, ?_, by rw [e5, e1, e3]⟩
      unfold tw2
      rw [e5, ev, ew, e1, e3]
      exact ⟨e2, e4, by omega, b2, g5⟩
    · refine ⟨w, hw, ?_, by rw [e5, e1, e3]; exact woA_sy⟩
      unfold tw2
      rw [e5, ev, ew, e1, e3]
      exact ⟨e4, e2, by omega, b2.symm, g5.symm⟩
  constructor
  · rintro j hj ⟨F, P, Q, hmk, hQ, hB⟩
    have hj : j < R.1 * R.1 := hj
    have hB : mv_b2 R (j / R.1) (j % R.1) = true := hB
    have hB9 := hB
    have hc : 0 < R.1 := by
      rcases Nat.eq_zero_or_pos R.1 with e | e
      · rw [e] at hj; omega
      · exact e
    have hx : j / R.1 < R.1 := Nat.div_lt_of_lt_mul hj
    unfold mv_b2 mv_pair at hB
    rw [Bool.and_eq_true, Bool.and_eq_true, Bool.and_eq_true, decide_eq_true_iff, decide_eq_true_iff] at hB
    obtain ⟨b1, ⟨b2, b3⟩, b4⟩ := hB
    refine ⟨woA (j / R.1) (j % R.1) A, sg, ⟨rfl, ?_⟩, fun F' P' Q' _ _ => ⟨hB9, by
      show ∃ f, isoV _ _ f (mv_t2 Q' R (j / R.1) (j % R.1))
      unfold mv_t2
      rw [if_pos hB9]
      exact two hx b1⟩⟩
    exact main9 hx b1 b2 b3 b4
  · rintro A' sg' ⟨rfl, v, hv, ⟨t1, t2, t3, t4, t5⟩, rfl⟩
    obtain ⟨w, hw9⟩ : ∃ w, w = rn_nx A v := ⟨_, rfl⟩
    have hw : w < A.flatten.length := by rw [hw9]; exact rn_nx_lt hv
    rw [← hw9] at t2 t3 t4 t5 ⊢
    have lv := lb_un h hv
    have lw := lb_un h hw
    have mv := mtu hv t1
    have mw := mtu hw t2
    have lmv := lb_un h (mtf_lt hd hv)
    have lmw := lb_un h (mtf_lt hd hw)
    have ob : R.2.2.1.1 (2 * crs A v) = 2 * crs A w := by
      have := lv.2.2.2.1
      rw [← hw9, lv.1, lw.1, t1, t2] at this
      exact this
    have ub : R.2.2.1.1 (2 * crs A v + 1) = 2 * crs A w + 1 ∨ R.2.2.1.1 (2 * crs A w + 1) = 2 * crs A v + 1 := by
      refine t5.imp (fun e => ?_) (fun e => ?_)
      · have := lmv.2.2.2.1
        rw [e, lmv.1, lmw.1, mv.1, mv.2, mw.1, mw.2] at this
        exact this
      · have := lmw.2.2.2.1
        rw [e, lmv.1, lmw.1, mv.1, mv.2, mw.1, mw.2] at this
        exact this
    have fin : ∀ x y, y < x → x < R.1 → sg' x ≠ sg' y → (R.2.2.1.1 (2 * x) = 2 * y ∨ R.2.2.1.1 (2 * y) = 2 * x) → (R.2.2.1.1 (2 * x + 1) = 2 * y + 1 ∨ R.2.2.1.1 (2 * y + 1) = 2 * x + 1) → ∃ j, j < mv_cnt R.1 2 ∧ ∀ (F P : Nat → Int32) (Q : ow_NT), mv_mk 2 R F P → ow_b24 Q.2.2.1 → mv_B 2 j Q R F P = true ∧ ∃ f, isoV (woA x y A) sg' f (mv_T 2 j Q R F P) := by
      intro x y hy hx hs o1 u1
      have d1 : (x * R.1 + y) / R.1 = x := by
        rw [Nat.mul_comm, Nat.mul_add_div (by omega), Nat.div_eq_of_lt (by omega), Nat.add_zero]
      have d2 : (x * R.1 + y) % R.1 = y := by
        rw [Nat.mul_comm, Nat.mul_add_mod, Nat.mod_eq_of_lt (by omega)]
      refine ⟨x * R.1 + y, ?_, fun F P Q hmk hQ => ?_⟩
      · show x * R.1 + y < R.1 * R.1
        have := Nat.mul_le_mul_right R.1 (show x + 1 ≤ R.1 by omega)
        rw [Nat.succ_mul] at this
        omega
      · have hB : mv_b2 R x y = true := by
          unfold mv_b2 mv_pair mv_bs
          rw [Bool.and_eq_true, Bool.and_eq_true, Bool.and_eq_true, Bool.or_eq_true, Bool.or_eq_true, decide_eq_true_iff, decide_eq_true_iff, decide_eq_true_iff, decide_eq_true_iff, decide_eq_true_iff, decide_eq_true_iff]
          exact ⟨hy, ⟨(sgN9 hx (by omega)).mpr hs, o1⟩, u1⟩
        show mv_b2 R ((x * R.1 + y) / R.1) ((x * R.1 + y) % R.1) = true ∧ ∃ f, isoV _ _ f (mv_t2 Q R ((x * R.1 + y) / R.1) ((x * R.1 + y) % R.1))
        rw [d1, d2]
        refine ⟨hB, ?_⟩
        unfold mv_t2
        rw [if_pos hB]
        exact two hx hy
    by_cases hlt : crs A v < crs A w
    · rw [woA_sy]
      exact fin (crs A w) (crs A v) hlt lw.2.2.1 t4.symm (Or.inr ob) ub.symm
    · exact fin (crs A v) (crs A w) (by omega) lv.2.2.1 t4 (Or.inl ob) ub
end XP0
