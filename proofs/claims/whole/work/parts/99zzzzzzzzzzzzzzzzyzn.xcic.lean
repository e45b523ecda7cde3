-- CHAIN: the reference's loops by number (made by tools/mkcic.py)
section XCK1
variable {A : rn_L} {sg : Nat → Bool} {st : Int32} {S : ow_NP} {G : Nat → Int32} {b : Nat → Bool} {M : Nat → Nat}
/-- both sides have the same loops -/
theorem loops_iff {f : Nat → Nat} {c ci : Nat} (hi : isoN A sg f (c, ci, S, G)) (hv : vn c S) (hal : ∀ v, v < A.flatten.length → uns A v = 0 → alS sg st (crs A v) = alB G b (f (crs A v))) : ∀ x y, x < A.flatten.length → y < A.flatten.length → (rt (lpA A sg st A.flatten.length) x = rt (lpA A sg st A.flatten.length) y ↔ rt (uPx S G b c) (lbv A f x) = rt (uPx S G b c) (lbv A f y)) := by
  have hd := wkF_ok hi.1
  have hl : A.flatten.length = 2 * c := hi.2.1
  have hS2 : ∀ v, v < A.flatten.length → S.2 (lbv A f v) = lbv A f (rn_pv A v) := by
    intro v hv1
    have h1 := hi.2.2.2.2.2.1 (rn_pv A v) (pv_lt hv1)
    rw [nx_pv hv1] at h1
    have h2 : S.1 (lbv A f (rn_pv A v)) = lbv A f v := h1
    rw [← h2]
    exact (hv _ (lbv_lt hi (pv_lt hv1))).2.2.1
  have cr : ∀ v, v < A.flatten.length → uns A v = 0 → egp S (4 * f (crs A v)) = lbv A f v ∧ egp S (4 * f (crs A v) + 1) = lbv A f (rn_pv A v) ∧ egp S (4 * f (crs A v) + 2) = lbv A f (mtf A v) ∧ egp S (4 * f (crs A v) + 3) = lbv A f (rn_pv A (mtf A v)) := by
    intro v hv1 hu
    obtain ⟨m1, m2, m3, m4⟩ := lbv_mt hi hv1
    have e0 : lbv A f v = 2 * f (crs A v) := by unfold lbv; rw [hu]; rfl
    have e1 : lbv A f (mtf A v) = 2 * f (crs A v) + 1 := by
      rw [m3, e0]
      unfold mt
      rw [if_pos (by omega)]
    refine ⟨?_, ?_, ?_, ?_⟩
    · unfold egp
      rw [if_pos (by omega), e0]
      omega
    · unfold egp
      rw [if_neg (by omega), show (4 * f (crs A v) + 1) / 2 = 2 * f (crs A v) by omega, ← e0]
      exact hS2 v hv1
    · unfold egp
      rw [if_pos (by omega), e1]
      omega
    · unfold egp
      rw [if_neg (by omega), show (4 * f (crs A v) + 3) / 2 = 2 * f (crs A v) + 1 by omega, ← e1]
      exact hS2 _ m1
  -- every crossing has its over visit
  have ov : ∀ x, x < c → ∃ v, v < A.flatten.length ∧ uns A v = 0 ∧ f (crs A v) = x := by
    intro x hx
    obtain ⟨v, v1, v2⟩ := lbv_sur hi (k := 2 * x) (show 2 * x < 2 * c by omega)
    have := uns_lt hi.1 v1
    refine ⟨v, v1, ?_, ?_⟩ <;> (unfold lbv at v2; omega)
  have d1 : ∀ x y, x < A.flatten.length → y < A.flatten.length → rt (lpA A sg st A.flatten.length) x = rt (lpA A sg st A.flatten.length) y → rt (uPx S G b c) (lbv A f x) = rt (uPx S G b c) (lbv A f y) := by
    refine lpA_min (M := fun v => rt (uPx S G b c) (lbv A f v)) hd ?_ _ (Nat.le_refl _)
    intro v hv1 hu
    obtain ⟨k0, k1, k2, k3⟩ := cr v hv1 hu
    obtain ⟨j1, j2⟩ := uPx_j (S := S) (G := G) (b := b) c (f (crs A v)) (hi.2.2.2.1 v hv1)
    have ha := hal v hv1 hu
    unfold ljM
    unfold toI at j1
    unfold toO at j2
    dsimp only
    rw [ha]
    by_cases h2 : alB G b (f (crs A v)) = true
    · rw [if_pos h2] at j1 j2 ⊢
      rw [k1, k2] at j1
      rw [k0, k3] at j2
      exact ⟨j1, j2.symm⟩
    · rw [if_neg h2] at j1 j2 ⊢
      rw [k1, k3] at j1
      rw [k0, k2] at j2
      exact ⟨j1, j2⟩
  obtain ⟨F, hF⟩ : ∃ F : Nat → Nat, ∀ a, a < 2 * c → F a < A.flatten.length ∧ lbv A f (F a) = a := by
    refine ⟨fun a => if ha : a < 2 * c then Classical.choose (lbv_sur hi ha) else 0, fun a ha => ?_⟩
    dsimp only
    rw [dif_pos ha]
    exact Classical.choose_spec (lbv_sur hi ha)
  have hFi : ∀ v, v < A.flatten.length → F (lbv A f v) = v := fun v hv1 => by
    obtain ⟨q1, q2⟩ := hF _ (lbv_lt hi hv1)
    exact lbv_inj hi q1 hv1 q2
  have d2 : ∀ x y, x < 2 * c → y < 2 * c → rt (uPx S G b c) x = rt (uPx S G b c) y → rt (lpA A sg st A.flatten.length) (F x) = rt (lpA A sg st A.flatten.length) (F y) := by
    refine uPx_min (M := fun a => rt (lpA A sg st A.flatten.length) (F a)) hv ?_ c (Nat.le_refl _)
    intro x hx
    obtain ⟨v, v1, hu, rfl⟩ := ov x hx
    obtain ⟨k0, k1, k2, k3⟩ := cr v v1 hu
    have hml := mtf_lt hd v1
    have jj := lpA_jS (A := A) (sg := sg) (st := st) _ v v1 hu
    rw [hal v v1 hu] at jj
    unfold ljM at jj
    unfold toI toO
    by_cases h2 : alB G b (f (crs A v)) = true
    · rw [if_pos h2] at jj
      rw [if_pos h2, if_pos h2, k0, k1, k2, k3, hFi _ v1, hFi _ hml, hFi _ (pv_lt v1), hFi _ (pv_lt hml)]
      exact ⟨jj.1, jj.2.symm⟩
    · rw [if_neg h2] at jj
      rw [if_neg h2, if_neg h2, k0, k1, k2, k3, hFi _ v1, hFi _ hml, hFi _ (pv_lt v1), hFi _ (pv_lt hml)]
      exact ⟨jj.1, jj.2⟩
  intro x y hx hy
  refine ⟨d1 x y hx hy, fun h9 => ?_⟩
  have := d2 _ _ (lbv_lt hi hx) (lbv_lt hi hy) h9
  rw [hFi x hx, hFi y hy] at this
  exact this
end XCK1
def lbR (A : rn_L) (sg : Nat → Bool) (s v : Nat) : Nat := rtsN (lpA A sg (nI s) A.flatten.length) (rt (lpA A sg (nI s) A.flatten.length) v)
noncomputable def LsR (A : rn_L) (sg : Nat → Bool) (s g : Nat) : Nat := @dite _ (∃ v, v < A.flatten.length ∧ gV9 (vAt A v) = g) (Classical.propDecidable _) (fun h => lbR A sg s h.choose) (fun _ => rtsN (lpA A sg (nI s) A.flatten.length) A.flatten.length + cb9 A (g - 1000))
section XCK2
variable {A : rn_L} {sg : Nat → Bool} {c s : Nat} {T : ow_NT} {w : vT → Bool}
theorem rts_lt {p : Nat → Nat} {r r' : Nat} (h : p r = r) (hl : r < r') : rtsN p r < rtsN p r' := by
  have a := rtsN_mono (p := p) (a := r + 1) r' hl
  rw [rtsN_s, if_pos h] at a
  omega
theorem rts_in {p : Nat → Nat} {r r' : Nat} (h : p r = r) (h' : p r' = r') (e : rtsN p r = rtsN p r') : r = r' := by
  rcases Nat.lt_trichotomy r r' with q | q | q
  · have := rts_lt h q
    omega
  · exact q
  · have := rts_lt h' q
    omega
theorem rts_at {p : Nat → Nat} {l : Nat} (V : Nat) : l < rtsN p V → ∃ r, r < V ∧ p r = r ∧ rtsN p r = l := by
  induction V with
  | zero => exact fun h => absurd h (Nat.not_lt_zero _)
  | succ V ih =>
    intro h
    rw [rtsN_s] at h
    rcases Nat.lt_or_ge l (rtsN p V) with q | q
    · obtain ⟨r, a, b⟩ := ih q
      exact ⟨r, by omega, b⟩
    · by_cases e : p V = V
      · rw [if_pos e] at h
        exact ⟨V, by omega, e, by omega⟩
      · rw [if_neg e] at h
        omega
theorem cb_mono {a : Nat} : ∀ b, a ≤ b → cb9 A a ≤ cb9 A b := fun b h => by
  induction b with
  | zero => rw [show a = 0 by omega]; exact Nat.le_refl _
  | succ b ih =>
    rcases Nat.lt_or_ge b a with q | q
    · rw [show a = b + 1 by omega]
      exact Nat.le_refl _
    · exact Nat.le_trans (ih q) (Nat.le_add_right _ _)
theorem cb_s {i : Nat} (h : A[i]? = some []) : cb9 A (i + 1) = cb9 A i + 1 := by
  show cb9 A i + @ite _ (A[i]? = some []) (Classical.propDecidable _) 1 0 = _
  rw [if_pos h]
theorem cb_in {i i' : Nat} (h : A[i]? = some []) (h' : A[i']? = some []) (e : cb9 A i = cb9 A i') : i = i' := by
  rcases Nat.lt_trichotomy i i' with q | q | q
  · have := cb_mono (A := A) i' q
    rw [cb_s h] at this
    omega
  · exact q
  · have := cb_mono (A := A) i q
    rw [cb_s h'] at this
    omega
theorem cb_at {l : Nat} (V : Nat) : l < cb9 A V → ∃ i, i < V ∧ A[i]? = some [] ∧ cb9 A i = l := by
  induction V with
  | zero => exact fun h => absurd h (Nat.not_lt_zero _)
  | succ V ih =>
    intro h
    rcases Nat.lt_or_ge l (cb9 A V) with q | q
    · obtain ⟨r, a, b⟩ := ih q
      exact ⟨r, by omega, b⟩
    · by_cases e : A[V]? = some []
      · rw [cb_s e] at h
        exact ⟨V, by omega, e, by omega⟩
      · have h : l < cb9 A V + @ite _ (A[V]? = some []) (Classical.propDecidable _) 1 0 := h
        rw [if_neg e] at h
        omega
theorem LsR_v (hn : A.flatten.Nodup) (h2 : ∀ p, p ∈ A.flatten → p.2 < 2) {v : Nat} (hv : v < A.flatten.length) : LsR A sg s (gV9 (vAt A v)) = lbR A sg s v := by
  have h : ∃ u, u < A.flatten.length ∧ gV9 (vAt A u) = gV9 (vAt A v) := ⟨v, hv, rfl⟩
  unfold LsR
  rw [dif_pos h]
  have e := gA_inj (h2 _ (vAt_mem h.choose_spec.1)) (h2 _ (vAt_mem hv)) h.choose_spec.2
  rw [(vAt_ij hn h.choose_spec.1 hv).mp e]
theorem LsR_c (hb : bdA A) {i : Nat} : LsR A sg s (1000 + i) = rtsN (lpA A sg (nI s) A.flatten.length) A.flatten.length + cb9 A i := by
  unfold LsR
  rw [dif_neg (fun ⟨v, a, e⟩ => by
    have := gV_lt hb (vAt_mem a)
    omega), Nat.add_sub_cancel_left]
theorem al_R (hN : isoN A sg (fun x => x) T) (hT : pm1 T) (hv : vn T.1 T.2.2.1) (hc : T.1 ≤ 8) (hs : s < 2 ^ T.1) {v : Nat} (hl : v < A.flatten.length) : alS sg (nI s) (crs A v) = alB T.2.2.2 (tb s) (crs A v) := by
  have hV := isoV_of hN hv
  have h256 : 2 ^ T.1 ≤ 256 := two_mono (b := 8) hc
  have m := vAt_mem hl
  have hx : crs A v < T.1 := hV.1.2.2.2.1 _ m
  have hm : nmT A (fun x => x) (fun x => x) T.1 := fun y hy => by
    obtain ⟨x0, e, a, -⟩ := nm_of hV hy
    rw [← e]
    exact ⟨rfl, a⟩
  rw [al_sg hV (fun x hx => by rcases hT x hx with e | e <;> rw [e] <;> decide) hm hx]
  unfold alS
  rw [bit_nI (by omega) (by omega), tb_b]
  rcases bt_01 s (crs A v) with e | e <;> rw [e] <;> cases sg (crs A v) <;> decide
theorem rel_R (hN : isoN A sg (fun x => x) T) (hT : pm1 T) (hv : vn T.1 T.2.2.1) (hc : T.1 ≤ 8) (hs : s < 2 ^ T.1) {x y : Nat} (hx : x < A.flatten.length) (hy : y < A.flatten.length) : relL9 A sg (fun x => x) T.1 (tb s) (gV9 (vAt A x)) (gV9 (vAt A y)) ↔ rt (lpA A sg (nI s) A.flatten.length) x = rt (lpA A sg (nI s) A.flatten.length) y := by
  have hV := isoV_of hN hv
  have hm : nmT A (fun x => x) (fun x => x) T.1 := fun y hy => by
    obtain ⟨x0, e, a, -⟩ := nm_of hV hy
    rw [← e]
    exact ⟨rfl, a⟩
  rw [relL_T hV (fun x hx => by rcases hT x hx with e | e <;> rw [e] <;> decide) hm (vAt_mem hx) (vAt_mem hy)]
  exact (loops_iff (st := nI s) (b := tb s) hN hv (fun v hl _ => al_R hN hT hv hc hs hl) x y hx hy).symm
theorem nm_id (hN : isoN A sg (fun x => x) T) (hv : vn T.1 T.2.2.1) : nmO A (fun x => x) T.1 := by
  have hV := isoV_of hN hv
  exact nm_O (f := fun x => x) hV (fun y hy => by
    obtain ⟨x0, e, a, -⟩ := nm_of hV hy
    rw [← e]
    exact ⟨rfl, a⟩)
theorem LT_R (hN : isoN A sg (fun x => x) T) (hT : pm1 T) (hv : vn T.1 T.2.2.1) (hc : T.1 ≤ 8) (hb : bdA A) (h9 : ∀ s, s < 2 ^ T.1 → LcN A sg s ≤ 9) : LT9 T.1 (gG9 A) (relL9 A sg (fun x => x) T.1) (LsR A sg) (LcN A sg) := fun s hs => by
  have u2 : ∀ p, p ∈ A.flatten → p.2 < 2 := fun p hp => (hb.2.1 p hp).2
  have hO := nm_id hN hv
  have eK : LcN A sg s = rtsN (lpA A sg (nI s) A.flatten.length) A.flatten.length + cb9 A A.length := by
    rw [cb_all, cirs_eC]
    rfl
  have dn9 := lpA_dn (A := A) (sg := sg) (st := nI s) A.flatten.length
  have lb_lt : ∀ v, v < A.flatten.length → lbR A sg s v < rtsN (lpA A sg (nI s) A.flatten.length) A.flatten.length := fun v hv => by
    obtain ⟨r1, r2⟩ := rt_in dn9 v
    exact rts_lt r1 (by omega)
  have vis : ∀ q, q ∈ A.flatten → ∃ v, v < A.flatten.length ∧ vAt A v = q := fun q hq => by
    obtain ⟨v, hv, e⟩ := List.getElem_of_mem hq
    exact ⟨v, hv, vAt_eq (by rw [List.getElem?_eq_getElem hv, e])⟩
  refine ⟨fun g hg => ?_, fun l hl => ?_, fun g g' hg hg' => ?_, by have := h9 s hs; omega⟩
  · rw [eK]
    rcases hg with ⟨q, q1, q2⟩ | ⟨i, i1, i2, i3⟩
    · obtain ⟨v, v1, v2⟩ := vis q q1
      rw [q2, ← v2, LsR_v hb.1 u2 v1]
      have := lb_lt v v1
      omega
    · rw [i3, LsR_c hb]
      have := cb_mono (A := A) A.length i1
      rw [cb_s i2] at this
      omega
  · rw [eK] at hl
    rcases Nat.lt_or_ge l (rtsN (lpA A sg (nI s) A.flatten.length) A.flatten.length) with q | q
    · obtain ⟨r, r1, r2, r3⟩ := rts_at _ q
      refine ⟨gV9 (vAt A r), Or.inl ⟨_, vAt_mem r1, rfl⟩, ?_⟩
      rw [LsR_v hb.1 u2 r1]
      unfold lbR
      rw [rt_root r2]
      exact r3
    · obtain ⟨i, i1, i2, i3⟩ := cb_at (A := A) (l := l - rtsN (lpA A sg (nI s) A.flatten.length) A.flatten.length) A.length (by omega)
      refine ⟨1000 + i, Or.inr ⟨i, i1, i2, rfl⟩, ?_⟩
      rw [LsR_c hb, i3]
      omega
  · rcases hg with ⟨q, q1, q2⟩ | ⟨i, i1, i2, i3⟩
    · obtain ⟨v, v1, v2⟩ := vis q q1
      rcases hg' with ⟨q', q1', q2'⟩ | ⟨i', i1', i2', i3'⟩
      · obtain ⟨v', v1', v2'⟩ := vis q' q1'
        rw [q2, q2', ← v2, ← v2', LsR_v hb.1 u2 v1, LsR_v hb.1 u2 v1', rel_R hN hT hv hc hs v1 v1']
        unfold lbR
        exact ⟨fun e => rts_in (rt_in dn9 v).1 (rt_in dn9 v').1 e, fun e => by rw [e]⟩
      · rw [q2, i3', ← v2, LsR_v hb.1 u2 v1, LsR_c hb]
        have a := lb_lt v v1
        constructor
        · intro e
          omega
        · intro e
          rcases relL_out hb.1 hO e with e2 | ⟨-, p9, b1, b2⟩
          · have := gV_lt hb (vAt_mem v1)
            omega
          · have := gV_lt hb b1
            omega
    · rcases hg' with ⟨q', q1', q2'⟩ | ⟨i', i1', i2', i3'⟩
      · obtain ⟨v', v1', v2'⟩ := vis q' q1'
        rw [i3, q2', ← v2', LsR_v hb.1 u2 v1', LsR_c hb]
        have a := lb_lt v' v1'
        constructor
        · intro e
          omega
        · intro e
          rcases relL_out hb.1 hO e with e2 | ⟨⟨p9, b1, b2⟩, -⟩
          · have := gV_lt hb (vAt_mem v1')
            omega
          · have := gV_lt hb b1
            omega
      · rw [i3, i3', LsR_c hb, LsR_c hb]
        constructor
        · intro e
          have := cb_in i2 i2' (by omega)
          rw [this]
          exact lst_e _ |>.1 _
        · intro e
          rcases relL_out hb.1 hO e with e2 | ⟨⟨p9, b1, b2⟩, -⟩
          · have : i = i' := by omega
            rw [this]
          · have := gV_lt hb b1
            omega
end XCK2
