/-! the moves of both sides: kind 4 -/
def swv (p q r : vT) : vT := if r = p then q else if r = q then p else r
theorem swv_i (p q r : vT) : swv p q (swv p q r) = r := by
  unfold swv
  by_cases e1 : r = p
  · rw [if_pos e1]
    by_cases e2 : q = p
    · rw [if_pos e2, e2, e1]
    · rw [if_neg e2, if_pos rfl, e1]
  · rw [if_neg e1]
    by_cases e2 : r = q
    · rw [if_pos e2, if_pos rfl, e2]
    · rw [if_neg e2, if_neg e1, if_neg e2]
theorem swv_inj {p q a b : vT} (h : swv p q a = swv p q b) : a = b := by
  have := congrArg (swv p q) h
  rw [swv_i, swv_i] at this
  exact this
section XP4
variable {A : rn_L} {sg : Nat → Bool} {f : Nat → Nat} {T R Q : ow_NT} {p q : vT}
theorem swv_mem (hp : p ∈ A.flatten) (hq : q ∈ A.flatten) {r : vT} (hr : r ∈ A.flatten) : swv p q r ∈ A.flatten := by
  unfold swv
  repeat' split
  all_goals assumption
theorem swA_fl : (A.map (List.map (swv p q))).flatten = A.flatten.map (swv p q) := (List.map_flatten ..).symm
theorem swA_pm (hn : A.flatten.Nodup) (hp : p ∈ A.flatten) (hq : q ∈ A.flatten) : (A.map (List.map (swv p q))).flatten.Perm A.flatten := by
  rw [swA_fl]
  refine (List.perm_ext_iff_of_nodup (nodup_map hn (fun a b _ _ e => swv_inj e)) hn).mpr (fun r => ?_)
  rw [List.mem_map]
  constructor
  · rintro ⟨a, ha, rfl⟩
    exact swv_mem hp hq ha
  · intro hr
    exact ⟨swv p q r, swv_mem hp hq hr, swv_i p q r⟩
/-- two visits change places in a net and in its list -/
theorem iso_swv (h : isoV A sg f T) (hp : p ∈ A.flatten) (hq : q ∈ A.flatten) : isoV (A.map (List.map (swv p q))) sg f (nt_swap T (gl f p) (gl f q)) := by
  have hn := h.1.1.1
  have hg := gl_gin h.1
  have pm := swA_pm hn hp hq
  have hv := isoV_vn h
  have key : ∀ r, r ∈ A.flatten → np_sw (gl f r) (gl f p) (gl f q) = gl f (swv p q r) := by
    intro r hr
    unfold np_sw swv
    by_cases e1 : r = p
    · rw [if_pos (by rw [e1]), if_pos e1]
    · rw [if_neg (fun e => e1 (hg r p hr hp e)), if_neg e1]
      by_cases e2 : r = q
      · rw [if_pos (by rw [e2]), if_pos e2]
      · rw [if_neg (fun e => e2 (hg r q hr hq e)), if_neg e2]
  refine isoV_of (isoS_iff.mp ⟨wkF_perm pm h.1.1, by rw [pm.length_eq]; exact h.1.2.1, h.1.2.2.1, fun r h9 => h.1.2.2.2.1 r (pm.mem_iff.mp h9), fun r r' h8 h9 e => h.1.2.2.2.2.1 r r' (pm.mem_iff.mp h8) (pm.mem_iff.mp h9) e, fun L l1 r r1 => ?_, fun r h9 => h.1.2.2.2.2.2.2.1 r (pm.mem_iff.mp h9), by rw [cirs_map]; exact h.1.2.2.2.2.2.2.2⟩) (vD_vn.mp (vD_swap (vD_vn.mpr hv) (gl_lt h hp) (gl_lt h hq)))
  obtain ⟨L0, hL0, rfl⟩ := List.mem_map.mp l1
  obtain ⟨r0, hr0, rfl⟩ := List.mem_map.mp r1
  have hr9 : r0 ∈ A.flatten := List.mem_flatten.mpr ⟨L0, hL0, hr0⟩
  have nL := L_nd hn hL0
  have hs9 : sc L0 r0 ∈ A.flatten := List.mem_flatten.mpr ⟨L0, hL0, sc_in hr0 nL⟩
  show (np_swap T.2.2.1 (gl f p) (gl f q)).1 (gl f (swv p q r0)) = gl f (sc (L0.map (swv p q)) (swv p q r0))
  rw [np_swap_1 (D := fun k => k < 2 * T.1) (vD_vn.mpr hv) (gl_lt h hp) (gl_lt h hq) (gl_lt h (swv_mem hp hq hr9)), key _ (swv_mem hp hq hr9), swv_i, (h.2 L0 hL0 r0 hr0).1, key _ hs9, sc_map nL (fun a b _ _ e => swv_inj e) hr0]
theorem rsh_id : rsh A (vAt A) A.length = A := by
  refine List.ext_getElem? (fun i => ?_)
  unfold rsh
  rw [List.getElem?_map]
  by_cases hi : i < A.length
  · rw [List.getElem?_range hi, List.getElem?_eq_getElem hi]
    have := cmp_seg (A := A) hi
    rw [List.getD_eq_getElem?_getD, List.getElem?_eq_getElem hi] at this
    have e : List.range' (rn_b A i) (rlen A i) = seg (rn_b A i) (rn_b A (i + 1)) := by
      unfold seg rlen
      exact List.range'_eq_map_range ..
    show some ((List.range' (rn_b A i) (rlen A i)).map (vAt A)) = _
    rw [e]
    exact congrArg some this
  · rw [List.getElem?_eq_none (by rw [List.length_range]; omega), List.getElem?_eq_none (by omega)]
    rfl
theorem rsh_cg {G H : Nat → Nat × Nat} (h : ∀ v, v < A.flatten.length → G v = H v) : rsh A G A.length = rsh A H A.length := by
  unfold rsh
  refine List.map_congr_left (fun c hc => List.map_congr_left (fun v hv => h v ?_))
  have hc := List.mem_range.mp hc
  rw [List.mem_range'_1] at hv
  unfold rlen at hv
  have h1 := rn_b_mono A c
  have h2 := rnb_mono2 (A := A) (a := c + 1) (b := A.length) (by omega)
  rw [rn_b_len] at h2
  omega
theorem rsh_map (σ : vT → vT) (G : Nat → Nat × Nat) (k : Nat) : rsh A (fun v => σ (G v)) k = (rsh A G k).map (List.map σ) := by
  unfold rsh
  rw [List.map_map]
  refine List.map_congr_left (fun c hc => ?_)
  show _ = List.map σ (List.map G _)
  rw [List.map_map]
  rfl
theorem vAt_sw (hn : A.flatten.Nodup) {a b v : Nat} (ha : a < A.flatten.length) (hb : b < A.flatten.length) (hv : v < A.flatten.length) : vAt A (sw2 a b v) = swv (vAt A a) (vAt A b) (vAt A v) := by
  have inj : ∀ {x y : Nat}, x < A.flatten.length → y < A.flatten.length → vAt A x = vAt A y → x = y := fun hx hy e => nodup_at hn (vAt_of hx) (by rw [e]; exact vAt_of hy)
  unfold sw2 swv
  by_cases e1 : v = a
  · rw [if_pos e1, if_pos (by rw [e1])]
  · rw [if_neg e1, if_neg (fun e => e1 (inj hv ha e))]
    by_cases e2 : v = b
    · rw [if_pos e2, if_pos (by rw [e2])]
    · rw [if_neg e2, if_neg (fun e => e2 (inj hv hb e))]
theorem t4_swv (hn : A.flatten.Nodup) {a b c : Nat} (ha : a < 2 * A.flatten.length) (hb : b < 2 * A.flatten.length) (hc : c < 2 * A.flatten.length) : t4A A a b c = ((A.map (List.map (swv (vAt A (c / 2)) (vAt A (rn_nx A (c / 2)))))).map (List.map (swv (vAt A (b / 2)) (vAt A (rn_nx A (b / 2)))))).map (List.map (swv (vAt A (a / 2)) (vAt A (rn_nx A (a / 2))))) := by
  have na := rn_nx_lt (A := A) (v := a / 2) (by omega)
  have nb := rn_nx_lt (A := A) (v := b / 2) (by omega)
  have nc := rn_nx_lt (A := A) (v := c / 2) (by omega)
  have e9 : ∀ σ : vT → vT, A.map (List.map σ) = rsh A (fun v => σ (vAt A v)) A.length := fun σ => by rw [rsh_map, rsh_id]
  rw [e9, ← rsh_map, ← rsh_map]
  unfold t4A
  refine rsh_cg (fun v hv => ?_)
  have h1 := sw2_lt (a := c / 2) (b := rn_nx A (c / 2)) (by omega) nc hv
  have h2 := sw2_lt (a := b / 2) (b := rn_nx A (b / 2)) (by omega) nb h1
  rw [vAt_sw hn (by omega) na h2, vAt_sw hn (by omega) nb h1, vAt_sw hn (by omega) nc hv]
def psS (A : rn_L) (s : Nat) : Nat := 2 * lbv A idN (s / 2) + s % 2
theorem ps_sur (h : isoV A sg idN R) {a : Nat} (ha : a < 4 * R.1) : ∃ s, s < 2 * A.flatten.length ∧ psS A s = a := by
  obtain ⟨v, hv, e⟩ := lbv_sur (isoS_iff.mp h.1) (k := a / 2) (by omega)
  refine ⟨2 * v + a % 2, by omega, ?_⟩
  unfold psS
  rw [show (2 * v + a % 2) / 2 = v by omega, show (2 * v + a % 2) % 2 = a % 2 by omega]
  have e : lbv A idN v = a / 2 := e
  omega
theorem ps_lt (h : isoV A sg idN R) {s : Nat} (hs : s < 2 * A.flatten.length) : psS A s < 4 * R.1 := by
  have := lbv_lt (isoS_iff.mp h.1) (v := s / 2) (by omega)
  unfold psS
  omega
theorem ps_inj (h : isoV A sg idN R) {s t : Nat} (hs : s < 2 * A.flatten.length) (ht : t < 2 * A.flatten.length) (e : psS A s = psS A t) : s = t := by
  unfold psS at e
  have := lbv_inj (isoS_iff.mp h.1) (v := s / 2) (w := t / 2) (by omega) (by omega) (show lbv A idN (s / 2) = lbv A idN (t / 2) by omega)
  omega
theorem ps_end (h : isoV A sg idN R) {s : Nat} (hs : s < 2 * A.flatten.length) : fc_end R.2.2.1.1 (psS A s) = lbv A idN (hdv A s) := by
  unfold fc_end psS hdv
  rw [show (2 * lbv A idN (s / 2) + s % 2) % 2 = s % 2 by omega, show (2 * lbv A idN (s / 2) + s % 2) / 2 = lbv A idN (s / 2) by omega]
  by_cases e : s % 2 = 0
  · rw [if_pos e, if_pos e]
    exact (lb_un h (by omega)).2.2.2.1
  · rw [if_neg e, if_neg e]
theorem ps_on (h : isoV A sg idN R) (hp : pm1 R) {s : Nat} (hs : s < 2 * A.flatten.length) : fc_on R.2.2.1 R.2.2.2 (psS A s) = psS A (phi A sg s) := by
  have hi := isoS_iff.mp h.1
  have hh := hdv_lt (A := A) hs
  have hb : stG R.2.2.2 (lbv A idN (hdv A s)) = smv A sg (hdv A s) := smv_b hi hp hh
  obtain ⟨-, -, -, -, m5⟩ := lb_un h hh
  have m1 := mtf_lt (wkF_ok h.1.1) hh
  have m2 := rn_pv_lt (A := A) m1
  have e0 : fc_on R.2.2.1 R.2.2.2 (psS A s) = if (stG R.2.2.2 (fc_end R.2.2.1.1 (psS A s)) == decide (psS A s % 2 = 0)) = true then 2 * mt (fc_end R.2.2.1.1 (psS A s)) else 2 * R.2.2.1.2 (mt (fc_end R.2.2.1.1 (psS A s))) + 1 := rfl
  have e2 : psS A s % 2 = s % 2 := by unfold psS; omega
  rw [e0, ps_end h hs, hb, e2, ← m5]
  have pv : R.2.2.1.2 (lbv A idN (mtf A (hdv A s))) = lbv A idN (rn_pv A (mtf A (hdv A s))) := by
    have h1 := (lb_un h m2).2.2.2.1
    rw [nx_pv m1] at h1
    rw [← h1]
    exact (isoV_vn h _ (lbv_lt hi m2)).2.2.1
  rw [pv]
  unfold phi wyv psS
  rcases (show s % 2 = 0 ∨ s % 2 = 1 by omega) with e | e <;> rw [e] <;> cases smv A sg (hdv A s)
  · rw [if_neg (by decide), if_neg (by decide), show (2 * rn_pv A (mtf A (hdv A s)) + 1) / 2 = rn_pv A (mtf A (hdv A s)) by omega]
    omega
  · rw [if_pos (by decide), if_pos (by decide), show (2 * mtf A (hdv A s)) / 2 = mtf A (hdv A s) by omega]
    omega
  · rw [if_pos (by decide), if_pos (by decide), show (2 * mtf A (hdv A s)) / 2 = mtf A (hdv A s) by omega]
    omega
  · rw [if_neg (by decide), if_neg (by decide), show (2 * rn_pv A (mtf A (hdv A s)) + 1) / 2 = rn_pv A (mtf A (hdv A s)) by omega]
    omega
theorem ps_ov (h : isoV A sg idN R) {s : Nat} (hs : s < 2 * A.flatten.length) : mv_ov R.2.2.1.1 (psS A s) = true ↔ t4o A s := by
  have h1 := lb_un h (v := s / 2) (by omega)
  have h2 := lb_un h (rn_nx_lt (A := A) (v := s / 2) (by omega))
  unfold mv_ov t4o
  have e : psS A s / 2 = lbv A idN (s / 2) := by unfold psS; omega
  rw [Bool.and_eq_true, decide_eq_true_iff, decide_eq_true_iff, e, h1.2.2.2.1, h1.1, h2.1]
  omega
theorem ps_nt (h : isoV A sg idN R) {T : ow_NT} {s : Nat} (hs : s < 2 * A.flatten.length) : nt_sw R T (psS A s) = nt_swap T (gl idN (vAt A (s / 2))) (gl idN (vAt A (rn_nx A (s / 2)))) := by
  have h1 := lb_un h (v := s / 2) (by omega)
  unfold nt_sw
  have e : psS A s / 2 = lbv A idN (s / 2) := by unfold psS; omega
  rw [e, h1.2.2.2.1]
  rfl
theorem ps_b4 (h : isoV A sg idN R) (hp : pm1 R) {s : Nat} (hs : s < 2 * A.flatten.length) : mv_b4 R (psS A s) = true ↔ psS A s < psS A (phi A sg s) ∧ psS A s < psS A (phi A sg (phi A sg s)) ∧ phi A sg (phi A sg (phi A sg s)) = s ∧ (crs A (hdv A s) ≠ crs A (hdv A (phi A sg s)) ∧ crs A (hdv A s) ≠ crs A (hdv A (phi A sg (phi A sg s))) ∧ crs A (hdv A (phi A sg s)) ≠ crs A (hdv A (phi A sg (phi A sg s)))) ∧ (t4o A s ∨ t4o A (phi A sg s) ∨ t4o A (phi A sg (phi A sg s))) := by
  have hd := wkF_ok h.1.1
  have h1 := phi_lt (sg := sg) hd hs
  have h2 := phi_lt (sg := sg) hd h1
  have h3 := phi_lt (sg := sg) hd h2
  have hc : ∀ {t : Nat}, t < 2 * A.flatten.length → lbv A idN (hdv A t) / 2 = crs A (hdv A t) := fun ht => (lbv_hf (isoS_iff.mp h.1) (hdv_lt ht)).1
  unfold mv_b4 mv_pass
  rw [ps_on h hp hs, ps_on h hp h1, ps_on h hp h2, ps_end h hs, ps_end h h1, ps_end h h2, hc hs, hc h1, hc h2]
  simp only [Bool.and_eq_true, Bool.or_eq_true, decide_eq_true_iff, ps_ov h hs, ps_ov h h1, ps_ov h h2]
  constructor
  · rintro ⟨a1, a2, a3, a4, a5, a6, a7⟩
    exact ⟨a1, a2, ps_inj h h3 hs a3, ⟨a4, a6, a5⟩, a7⟩
  · rintro ⟨a1, a2, a3, ⟨a4, a6, a5⟩, a7⟩
    exact ⟨a1, a2, by rw [a3], a4, a5, a6, a7⟩
theorem mb_4 (h : isoV A sg idN R) (hp : pm1 R) : mBi 4 A sg R := by
  have hd := wkF_ok h.1.1
  have hV := h.1.2.1
  have three : ∀ {s : Nat} {Q : ow_NT}, s < 2 * A.flatten.length → mv_b4 R (psS A s) = true → isoV (t4A A s (phi A sg s) (phi A sg (phi A sg s))) sg idN (mv_t4 Q R (psS A s)) := by
    intro s Q hs hB
    have h1 := phi_lt (sg := sg) hd hs
    have h2 := phi_lt (sg := sg) hd h1
    obtain ⟨-, -, b3, b4, -⟩ := (ps_b4 h hp hs).mp hB
    unfold mv_t4
    rw [if_pos hB, ps_on h hp hs, ps_on h hp h1, ps_nt h hs, ps_nt h h1, ps_nt h h2]
    have dj : dj3 A s (phi A sg s) (phi A sg (phi A sg s)) := (tri_pairs (sg := sg) hd ⟨hs, h1, h2⟩ ⟨fun e => b4.1 (by rw [← e]), fun e => b4.2.1 (by rw [← e]), fun e => b4.2.2 (by rw [← e])⟩ (fun t ht => by
      rcases ht with e | e | e <;> rw [e]
      · exact Or.inr (Or.inl rfl)
      · exact Or.inr (Or.inr rfl)
      · exact Or.inl b3) b4.1 b4.2.1 b4.2.2).2.2.2
    rw [t4A_rot dj, t4A_rot (dj3_rot dj), t4A_sw (dj3_rot (dj3_rot dj)), t4_swv h.1.1.1 (by assumption) (by assumption) (by assumption)]
    have m : ∀ {v : Nat}, v < A.flatten.length → vAt A v ∈ A.flatten := fun hv => vAt_mem hv
    have i1 := iso_swv (isoV_cpy (Q := Q) h) (m (v := s / 2) (by omega)) (m (rn_nx_lt (A := A) (v := s / 2) (by omega)))
    have p1 := swA_pm h.1.1.1 (m (v := s / 2) (by omega)) (m (rn_nx_lt (A := A) (v := s / 2) (by omega)))
    have i2 := iso_swv i1 (p1.mem_iff.mpr (m (v := phi A sg s / 2) (by omega))) (p1.mem_iff.mpr (m (rn_nx_lt (A := A) (v := phi A sg s / 2) (by omega))))
    have p2 := (swA_pm i1.1.1.1 (p1.mem_iff.mpr (m (v := phi A sg s / 2) (by omega))) (p1.mem_iff.mpr (m (rn_nx_lt (A := A) (v := phi A sg s / 2) (by omega))))).trans p1
    exact iso_swv i2 (p2.mem_iff.mpr (m (v := phi A sg (phi A sg s) / 2) (by omega))) (p2.mem_iff.mpr (m (rn_nx_lt (A := A) (v := phi A sg (phi A sg s) / 2) (by omega))))
  constructor
  · rintro j hj ⟨F, P, Q, hmk, hQ, hB⟩
    have hj : j < 2 * (2 * R.1) := hj
    have hB : mv_b4 R j = true := hB
    obtain ⟨s, hs, rfl⟩ := ps_sur h (a := j) (by omega)
    obtain ⟨-, -, b3, b4, b5⟩ := (ps_b4 h hp hs).mp hB
    exact ⟨_, sg, ⟨s, hs, rfl, b3, b4, b5, rfl⟩, fun F' P' Q' _ _ => ⟨hB, idN, three hs hB⟩⟩
  · rintro A' sg' ⟨s, hs, rfl, b3, b4, b5, b6⟩
    have main : ∀ t, t < 2 * A.flatten.length → phi A sg' (phi A sg' (phi A sg' t)) = t → t4P A t (phi A sg' t) (phi A sg' (phi A sg' t)) A' → psS A t < psS A (phi A sg' t) → psS A t < psS A (phi A sg' (phi A sg' t)) → ∃ j, j < mv_cnt R.1 4 ∧ ∀ (F P : Nat → Int32) (Q : ow_NT), mv_mk 4 R F P → ow_b24 Q.2.2.1 → mv_B 4 j Q R F P = true ∧ ∃ f, isoV A' sg' f (mv_T 4 j Q R F P) := by
      rintro t ht c1 ⟨c2, c3, rfl⟩ c4 c5
      have hB := (ps_b4 h hp ht).mpr ⟨c4, c5, c1, c2, c3⟩
      have := ps_lt h ht
      exact ⟨psS A t, show psS A t < 2 * (2 * R.1) by omega, fun F P Q hmk hQ => ⟨hB, idN, three ht hB⟩⟩
    obtain ⟨x, hx⟩ : ∃ x, x = phi A sg' s := ⟨_, rfl⟩
    obtain ⟨y, hy⟩ : ∃ y, y = phi A sg' x := ⟨_, rfl⟩
    have hP : t4P A s x y A' := by rw [hy, hx]; exact ⟨b4, b5, b6⟩
    have hxl : x < 2 * A.flatten.length := by rw [hx]; exact phi_lt hd hs
    have hyl : y < 2 * A.flatten.length := by rw [hy]; exact phi_lt hd hxl
    have hys : phi A sg' y = s := by rw [hy, hx]; exact b3
    have nxy : s ≠ x ∧ s ≠ y ∧ x ≠ y := ⟨fun e => hP.1.1 (by rw [← e]), fun e => hP.1.2.1 (by rw [← e]), fun e => hP.1.2.2 (by rw [← e])⟩
    have dj : dj3 A s x y := (tri_pairs (sg := sg') hd ⟨hs, hxl, hyl⟩ nxy (fun t ht => by
      rcases ht with e | e | e <;> rw [e]
      · exact Or.inr (Or.inl hx.symm)
      · exact Or.inr (Or.inr hy.symm)
      · exact Or.inl hys) hP.1.1 hP.1.2.1 hP.1.2.2).2.2.2
    have m1 : psS A s ≠ psS A x := fun e => nxy.1 (ps_inj h hs hxl e)
    have m2 : psS A s ≠ psS A y := fun e => nxy.2.1 (ps_inj h hs hyl e)
    have m3 : psS A x ≠ psS A y := fun e => nxy.2.2 (ps_inj h hxl hyl e)
    have ms := main s hs
    have mx := main x hxl
    have my := main y hyl
    rw [← hx, ← hy, hys] at ms
    rw [← hy, hys, ← hx] at mx
    rw [hys, ← hx, ← hy] at my
    by_cases c1 : psS A s < psS A x ∧ psS A s < psS A y
    · exact ms rfl hP c1.1 c1.2
    · by_cases c2 : psS A x < psS A y ∧ psS A x < psS A s
      · exact mx rfl ((t4P_rot dj).mp hP) c2.1 c2.2
      · exact my rfl ((t4P_rot (dj3_rot dj)).mp ((t4P_rot dj).mp hP)) (by omega) (by omega)
end XP4
