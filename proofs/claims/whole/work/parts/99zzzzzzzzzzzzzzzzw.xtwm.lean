/-! two: the class's unfold: rings -/
section XTWM
variable {n : Nat} {Wd : wd9} {ov sb : Nat → Bool} {B : rn_L} {f : Nat → Nat} {R Q : ow_NT} {x a b v r : Nat}
theorem bc_ch (x c : Nat) : rn_b (chA B x) c = rn_b B c := by
  unfold rn_b chA
  rw [← List.map_take, fl_map2, List.length_map]
theorem iS_sg (h : isoV B sb f R) (hp : pm1 R) (hv : v < B.flatten.length) : R.2.2.2 (f (crs B v)) = iI (if sb (crs B v) then -1 else 1) := by
  have hN := isoS_iff.mp h.1
  have h1 := hN.2.2.2.1 v hv
  have h2 := hN.2.2.2.2.2.2.1 v hv
  rcases hp _ h1 with e | e
  · rw [e] at h2 ⊢
    cases hs : sb (crs B v) with
    | false => rfl
    | true => exact absurd (h2.mpr hs) (by decide)
  · rw [e] at h2 ⊢
    rw [h2.mp (by decide)]
    rfl
theorem iS_sm (h : isoV B sb f R) (hp : pm1 R) (hs : sm2 B x a b) : ∃ f', isoV (smV B a b) sb f' (nt_rm (ntS (nt_copy Q R) (np_exchange (nt_copy Q R).2.2.1 (2 * f x) (2 * f x + 1))) (f x)) ∧ pm1 (nt_rm (ntS (nt_copy Q R) (np_exchange (nt_copy Q R).2.2.1 (2 * f x) (2 * f x + 1))) (f x)) := by
  obtain ⟨s1, s2, s3, s4⟩ := hs
  have hN := isoS_iff.mp h.1
  have hx : f x < R.1 := by
    rw [← s3]
    exact hN.2.2.2.1 a (by omega)
  rw [← s3] at s4
  obtain ⟨f', k1, k2⟩ := iso_smb (isoV_cpy (Q := Q) h) s1 s2 s4
  rw [s3] at k1 k2
  exact ⟨f', k1, pm1_rm (T := ntS (nt_copy Q R) (np_exchange (nt_copy Q R).2.2.1 (2 * f x) (2 * f x + 1))) (pm1_copy hp) hx⟩
theorem iS_ch (h : isoV B sb f R) (hp : pm1 R) (hv : v < B.flatten.length) (e : crs B v = x) : isoV (chA B x) (chS sb x) f (ntF R (f x)) ∧ pm1 (ntF R (f x)) := by
  have hN := isoS_iff.mp h.1
  have hx : f x < R.1 := by
    rw [← e]
    exact hN.2.2.2.1 v hv
  have inj : ∀ p, p ∈ B.flatten → (f p.1 = f x ↔ p.1 = x) := fun p hp => by
    obtain ⟨u, u1, u2⟩ := mem_vAt hp
    have ep : crs B u = p.1 := by unfold crs; rw [u2]
    refine ⟨fun e9 => ?_, fun e9 => by rw [e9]⟩
    rw [← ep, ← e]
    exact hN.2.2.2.2.1 u v u1 hv (by rw [ep, e, e9])
  have k := iso_flip h hp hx
  have eA : B.map (List.map (flp (fun y => decide (f y = f x)))) = chA B x := by
    unfold chA
    refine List.map_congr_left (fun L hL => List.map_congr_left (fun p hp => ?_))
    have := inj p (List.mem_flatten.mpr ⟨L, hL, hp⟩)
    unfold flp
    show (if decide (f p.1 = f x) = true then (p.1, 1 - p.2) else p) = if decide (p.1 = x) = true then (p.1, 1 - p.2) else p
    rw [show decide (f p.1 = f x) = decide (p.1 = x) from decide_eq_decide.mpr this]
  rw [eA] at k
  refine ⟨isoV_sg k (fun p hp => ?_), pm1_F hp⟩
  unfold chA at hp
  rw [fl_map2] at hp
  obtain ⟨q, hq, e9⟩ := List.mem_map.mp hp
  have ep : p.1 = q.1 := by rw [← e9, flp_1]
  have := inj q hq
  unfold chS
  rw [ep]
  by_cases e8 : q.1 = x
  · rw [if_pos e8, if_pos (this.mpr e8)]
  · rw [if_neg e8, if_neg (fun h9 => e8 (this.mp h9))]
theorem sm2_b2 (hN : isoN B sb f R) (hb : bdF B v) : sm2 B (crs B v) v (mtf B v) := by
  obtain ⟨b1, b2, b3⟩ := bd_lt hN.1 hb
  have h2 := (hN.1.2 _ (vAt_mem hb.1)).2.1
  have hu : uns B v = 1 := by
    have h3 := hb.2.2.1
    unfold uns at h3 ⊢
    omega
  obtain ⟨m1, m2, m3, m4⟩ := lbv_mt hN hb.1
  have e1 : uns B (mtf B v) = 0 := by
    unfold lbv mt at m3
    rw [m2, hu, if_neg (by omega)] at m3
    omega
  exact ⟨b1, b2, rfl, Or.inr ⟨Prod.ext rfl hu, Prod.ext b3 e1⟩⟩
/-- along a component -/
theorem iS_nx (hN : isoN B sb f R) (h1 : rn_b B r ≤ v) (h2 : v < rn_b B (r + 1)) : R.2.2.1.1 (lbv B f v) = if v + 1 < rn_b B (r + 1) then lbv B f (v + 1) else lbv B f (rn_b B r) := by
  have hle := rn_b_le B (r + 1)
  have hc : rn_c B v = r := rn_c_of B r v h1 h2
  rw [hN.2.2.2.2.2.1 v (by omega)]
  unfold rn_nx
  rw [hc]
  split
  · rfl
  · rfl
theorem cir_ap9 (P S : rn_L) : cirs (P ++ S) = cirs P + cirs S := List.countP_append
/-- the first r components have visits -/
def ufG9 (r : Nat) (B : rn_L) : Prop := r ≤ B.length ∧ ∀ i, i < r → rn_b B i < rn_b B (i + 1)
theorem rb_cons (c : List vT) (B : rn_L) (i : Nat) : rn_b (c :: B) (i + 1) = c.length + rn_b B i := by
  unfold rn_b
  rw [List.take_succ_cons, List.flatten_cons, List.length_append]
theorem ufG9_e : ∀ {B : rn_L} {r : Nat}, ufG9 r B → rn_b B r = B.flatten.length → cirs B + r = B.length
  | B, 0, h, e => by
    have e : 0 = B.flatten.length := e
    rw [cirs_n (List.eq_nil_of_length_eq_zero e.symm)]
    rfl
  | [], r + 1, h, _ => absurd h.1 (by rw [List.length_nil]; omega)
  | c :: B, r + 1, h, e => by
    have h0 := h.2 0 (by omega)
    rw [rb_cons] at h0
    have z0 : rn_b B 0 = 0 := rfl
    have z1 : rn_b (c :: B) 0 = 0 := rfl
    have hc : c ≠ [] := fun h9 => by
      rw [z1, h9, z0] at h0
      exact Nat.lt_irrefl _ h0
    rw [rb_cons, List.flatten_cons, List.length_append] at e
    have ih := ufG9_e (B := B) (r := r) ⟨by have := h.1; rw [List.length_cons] at this; omega, fun i hi => by
      have := h.2 (i + 1) (by omega)
      rw [rb_cons, rb_cons] at this
      omega⟩ (by omega)
    rw [cirs_cons, if_neg hc, List.length_cons]
    omega
theorem rb_app {P S : rn_L} {i : Nat} (h : i ≤ P.length) : rn_b (P ++ S) i = rn_b P i := by
  unfold rn_b
  rw [List.take_append_of_le_length h]
theorem rb_mid {P S : rn_L} {c : List vT} : rn_b (P ++ c :: S) (P.length + 1) = P.flatten.length + c.length := by
  unfold rn_b
  rw [List.take_append, List.take_of_length_le (by omega), show P.length + 1 - P.length = 1 by omega, List.take_succ_cons, List.take_zero, List.flatten_append, List.flatten_cons, List.length_append, List.length_append]
  rfl
theorem vA_l {P S : rn_L} {u : Nat} (h : u < P.flatten.length) : vAt (P ++ S) u = vAt P u := by
  unfold vAt
  rw [List.flatten_append, List.getElem?_append_left h]
theorem vA_m {P S : rn_L} {q : vT} {Y : List vT} : vAt (P ++ (q :: Y) :: S) P.flatten.length = q := by
  unfold vAt
  rw [List.flatten_append, List.getElem?_append_right (Nat.le_refl _), Nat.sub_self]
  rfl
/-- another component next, from one of its visits -/
theorem mv_ring (h : isoV B sb f R) (hz : bdz n Wd ov B sb) (hr : r ≤ B.length) (h1 : rn_b B r ≤ v) (h2 : v < B.flatten.length) : ∃ B', isoV B' sb f R ∧ bdz n Wd ov B' sb ∧ B'.length = B.length ∧ (∀ i, i ≤ r → rn_b B' i = rn_b B i) ∧ (∀ u, u < rn_b B r → vAt B' u = vAt B u) ∧ vAt B' (rn_b B r) = vAt B v ∧ rn_b B r < rn_b B' (r + 1) ∧ r + 1 ≤ B.length := by
  obtain ⟨P, S, eB, eP⟩ : ∃ P S, B = P ++ S ∧ P.length = r := ⟨B.take r, B.drop r, (List.take_append_drop r B).symm, by rw [List.length_take]; omega⟩
  have ePf : rn_b B r = P.flatten.length := by
    rw [eB, rb_app (by omega), ← eP]
    exact rn_b_len P
  have hm : vAt B v ∈ S.flatten := by
    have h3 := vAt_of h2
    rw [eB, List.flatten_append, List.getElem?_append_right (by omega)] at h3
    rw [← eB] at h3
    exact List.mem_of_getElem? h3
  generalize vAt B v = q at hm ⊢
  obtain ⟨c, hc, hq⟩ := List.mem_flatten.mp hm
  obtain ⟨M, Po, rfl⟩ := spl_m hc
  obtain ⟨X, Y, rfl⟩ := spl_m hq
  subst eB
  have nd := h.1.1.1
  have prm : (P ++ ((q :: Y) ++ X) :: (M ++ Po)).flatten.Perm (P ++ (M ++ (X ++ q :: Y) :: Po)).flatten := by
    rw [List.flatten_append, List.flatten_append]
    refine List.Perm.append_left _ ?_
    have p1 : (M ++ (X ++ q :: Y) :: Po).flatten.Perm ((X ++ q :: Y) :: (M ++ Po)).flatten := (List.perm_middle (l₁ := M) (a := X ++ q :: Y) (l₂ := Po)).flatten
    refine List.Perm.trans ?_ p1.symm
    rw [List.flatten_cons, List.flatten_cons]
    exact List.Perm.append_right _ List.perm_append_comm
  have ndX : (X ++ q :: Y).Nodup := by
    have := nd
    rw [List.nodup_iff_pairwise_ne, List.pairwise_flatten] at this
    exact this.1 _ (List.mem_append_right _ (List.mem_append_right _ List.mem_cons_self))
  have ci : cirs (P ++ ((q :: Y) ++ X) :: (M ++ Po)) = cirs (P ++ (M ++ (X ++ q :: Y) :: Po)) := by
    have e1 : (X ++ q :: Y) ≠ [] := fun h9 => by
      have := congrArg List.length h9
      rw [List.length_append, List.length_cons, List.length_nil] at this
      omega
    rw [cir_ap9, cirs_cons, if_neg (by simp), cir_ap9, cir_ap9, cir_ap9, cirs_cons, if_neg e1]
    omega
  have iso : isoV (P ++ ((q :: Y) ++ X) :: (M ++ Po)) sb f R := isoV_lists h prm ci (fun K hK p hp => by
    rcases List.mem_append.mp hK with k | k
    · exact ⟨K, List.mem_append_left _ k, hp, rfl⟩
    · rcases List.mem_cons.mp k with k | k
      · rw [k] at hp ⊢
        have hp2 : p ∈ X ++ q :: Y := by
          rcases List.mem_append.mp hp with k9 | k9
          · exact List.mem_append_right _ k9
          · exact List.mem_append_left _ k9
        exact ⟨X ++ q :: Y, List.mem_append_right _ (List.mem_append_right _ List.mem_cons_self), hp2, sc_rot ndX hp2⟩
      · rcases List.mem_append.mp k with k | k
        · exact ⟨K, List.mem_append_right _ (List.mem_append_left _ k), hp, rfl⟩
        · exact ⟨K, List.mem_append_right _ (List.mem_append_right _ (List.mem_cons_of_mem _ k)), hp, rfl⟩)
  refine ⟨_, iso, bd_iso (N := R.2.2.1.1) (lab := gl f) hz h.1.2.2.2.2.2.1 iso.1.2.2.2.2.2.1 iso.1.1.1 nd (fun p => prm.mem_iff) (fun p p' hp hp' e => ?_) ci, ?_, fun i hi => ?_, fun u hu => ?_, ?_, ?_, ?_⟩
  · have e : 2 * f p.1 + p.2 = 2 * f p'.1 + p'.2 := e
    have a1 := (iso.1.1.2 _ hp).2.1
    have a2 := (iso.1.1.2 _ hp').2.1
    exact Prod.ext (iso.1.2.2.2.2.1 p p' hp hp' (by omega)) (by omega)
  · simp only [List.length_append, List.length_cons]
    omega
  · rw [rb_app (by omega), rb_app (by omega)]
  · rw [ePf] at hu
    rw [vA_l hu, vA_l hu]
  · rw [ePf]
    exact vA_m (Y := Y ++ X)
  · rw [ePf, ← eP, rb_mid, List.cons_append, List.length_cons]
    omega
  · rw [List.length_append, List.length_append, List.length_cons]
    omega
end XTWM
