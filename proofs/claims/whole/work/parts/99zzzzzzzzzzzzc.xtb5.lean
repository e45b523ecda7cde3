/-! moves are taken back: kind 4 -/
section XTB5
variable {A A' : rn_L} {sg sg' : Nat → Bool} {R RB Q : ow_NT} {f : Nat → Nat} {p q r r' : vT}
theorem swv_l : swv p q p = q := if_pos rfl
theorem swv_r : swv p q q = p := by
  unfold swv
  by_cases e : q = p
  · rw [if_pos e, e]
  · rw [if_neg e, if_pos rfl]
theorem swv_n (h1 : r ≠ p) (h2 : r ≠ q) : swv p q r = r := by
  unfold swv
  rw [if_neg h1, if_neg h2]
theorem swv_c : swv p q r = swv q p r := by
  unfold swv
  by_cases e1 : r = p
  · by_cases e2 : r = q
    · rw [if_pos e1, if_pos e2, ← e1, ← e2]
    · rw [if_pos e1, if_neg e2, if_pos e1]
  · by_cases e2 : r = q
    · rw [if_neg e1, if_pos e2, if_pos e2]
    · rw [if_neg e1, if_neg e2, if_neg e2, if_neg e1]
theorem map3 (f g h : vT → vT) : ((A.map (List.map f)).map (List.map g)).map (List.map h) = A.map (List.map (fun p => h (g (f p)))) := by
  simp [List.map_map, Function.comp_def]
theorem bs_map {σ : vT → vT} (hn : A.flatten.Nodup) (hi : ∀ a b, σ a = σ b → a = b) (hb : bsA A r r') : bsA (A.map (List.map σ)) (σ r) (σ r') := by
  obtain ⟨L, hL, hr, e⟩ := hb
  refine ⟨L.map σ, List.mem_map.mpr ⟨L, hL, rfl⟩, List.mem_map.mpr ⟨r, hr, rfl⟩, ?_⟩
  rw [sc_map (L_nd hn hL) (fun a b _ _ => hi a b) hr, e]
theorem bs_pv (h : isoV A sg f R) (hb : bsA A r r') : R.2.2.1.2 (gl f r') = gl f r := by
  obtain ⟨L, hL, hr, e⟩ := hb
  rw [← e]
  exact (h.2 L hL r hr).2
/-- the visits of a side -/
def s4p (A : rn_L) (t : Nat) : vT := vAt A (t / 2)
def s4q (A : rn_L) (t : Nat) : vT := vAt A (rn_nx A (t / 2))
/-- the side of the net that the move has made -/
def s4n (A : rn_L) (f : Nat → Nat) (t : Nat) : Nat := 2 * gl f (s4q A t) + (1 - t % 2)
theorem s4_e {t : Nat} : vAt A (hdv A t) = if t % 2 = 0 then s4q A t else s4p A t := by
  unfold hdv s4p s4q
  by_cases e : t % 2 = 0
  · rw [if_pos e, if_pos e]
  · rw [if_neg e, if_neg e]
/-- the sides go on as before, in the other way -/
theorem s4_on (hF : wkF A.flatten) (hV : isoV A' sg f RB) (hp : pm1 RB) (hm : ∀ {p : vT}, p ∈ A.flatten → p ∈ A'.flatten) {t : Nat} (ht : t < 2 * A.flatten.length) (h1 : bsA A' (s4q A t) (s4p A t)) (h2 : bsA A' (s4q A (phi A sg t)) (s4p A (phi A sg t))) : fc_end RB.2.2.1.1 (s4n A f t) = gl f (vAt A (hdv A t)) ∧ fc_on RB.2.2.1 RB.2.2.2 (s4n A f t) = s4n A f (phi A sg t) := by
  have hd := wkF_ok hF
  have hh := hdv_lt (A := A) ht
  have n1 := bs_nx hV h1
  have v2 := bs_pv hV h2
  have e1 : s4n A f t / 2 = gl f (s4q A t) := by unfold s4n; omega
  have e2 : s4n A f t % 2 = 1 - t % 2 := by unfold s4n; omega
  have en : fc_end RB.2.2.1.1 (s4n A f t) = gl f (vAt A (hdv A t)) := by
    unfold fc_end
    rw [e1, e2, s4_e]
    by_cases e : t % 2 = 0
    · rw [if_pos e, if_neg (by omega)]
    · rw [if_neg e, if_pos (by omega), n1]
  refine ⟨en, ?_⟩
  have hmE := hm (vAt_mem hh)
  have hu2 := (hF.2 _ (vAt_mem hh)).2.1
  have hsg := iso_sg1 hV hp hmE
  obtain ⟨E, hE⟩ : ∃ E, E = vAt A (hdv A t) := ⟨_, rfl⟩
  have hst : stG RB.2.2.2 (gl f E) = smv A sg (hdv A t) := by
    have e3 : uns A (hdv A t) = E.2 := by rw [hE]; rfl
    have e4 : crs A (hdv A t) = E.1 := by rw [hE]; rfl
    rw [← hE] at hsg hu2
    unfold smv
    rw [e3, e4]
    have e5 : stG RB.2.2.2 (gl f E) = (decide (gl f E % 2 = 0) == decide (0 < RB.2.2.2 (gl f E / 2))) := rfl
    have e6 : gl f E % 2 = E.2 := by
      show (2 * f E.1 + E.2) % 2 = _
      omega
    have e7 : gl f E / 2 = f E.1 := by
      show (2 * f E.1 + E.2) / 2 = _
      omega
    rw [e5, e6, e7, hsg]
    rcases (show E.2 = 0 ∨ E.2 = 1 by omega) with e | e <;> rw [e] <;> cases sg E.1 <;> decide
  have hmt : mt (gl f E) = gl f (E.1, 1 - E.2) := by
    rw [← hE] at hu2
    show mt (2 * f E.1 + E.2) = 2 * f E.1 + (1 - E.2)
    unfold mt
    rcases (show E.2 = 0 ∨ E.2 = 1 by omega) with e | e <;> rw [e]
    · rw [if_pos (by omega)]
    · rw [if_neg (by omega)]
      omega
  have em : vAt A (mtf A (hdv A t)) = (E.1, 1 - E.2) := by rw [vAt_mtf hF hh, hE]
  have m1 := mtf_lt hd hh
  have e0 : fc_on RB.2.2.1 RB.2.2.2 (s4n A f t) = if (stG RB.2.2.2 (fc_end RB.2.2.1.1 (s4n A f t)) == decide (s4n A f t % 2 = 0)) = true then 2 * mt (fc_end RB.2.2.1.1 (s4n A f t)) else 2 * RB.2.2.1.2 (mt (fc_end RB.2.2.1.1 (s4n A f t))) + 1 := rfl
  rw [e0, en, ← hE, hst, e2, hmt, ← em]
  have key0 : wyv A sg t = 0 → 2 * RB.2.2.1.2 (gl f (vAt A (mtf A (hdv A t)))) + 1 = s4n A f (phi A sg t) := by
    intro hw
    have ep : phi A sg t = 2 * mtf A (hdv A t) := by
      unfold phi
      rw [if_pos hw]
    have q1 : s4p A (phi A sg t) = vAt A (mtf A (hdv A t)) := by
      unfold s4p
      rw [ep, show 2 * mtf A (hdv A t) / 2 = mtf A (hdv A t) by omega]
    rw [← q1, v2]
    unfold s4n
    rw [show phi A sg t % 2 = 0 by rw [ep]; omega]
  have key1 : wyv A sg t ≠ 0 → 2 * gl f (vAt A (mtf A (hdv A t))) = s4n A f (phi A sg t) := by
    intro hw
    have ep : phi A sg t = 2 * rn_pv A (mtf A (hdv A t)) + 1 := by
      unfold phi
      rw [if_neg hw]
    have q1 : s4q A (phi A sg t) = vAt A (mtf A (hdv A t)) := by
      unfold s4q
      rw [ep, show (2 * rn_pv A (mtf A (hdv A t)) + 1) / 2 = rn_pv A (mtf A (hdv A t)) by omega, nx_pv m1]
    rw [← q1]
    unfold s4n
    rw [show phi A sg t % 2 = 1 by rw [ep]; omega]
    omega
  unfold wyv at key0 key1
  rcases (show t % 2 = 0 ∨ t % 2 = 1 by omega) with e | e <;> rw [e] at key0 key1 ⊢ <;> cases hs : smv A sg (hdv A t) <;> rw [hs] at key0 key1
  · rw [if_pos (by decide)]
    exact key1 (by decide)
  · rw [if_neg (by decide)]
    exact key0 (by decide)
  · rw [if_neg (by decide)]
    exact key0 (by decide)
  · rw [if_pos (by decide)]
    exact key1 (by decide)
/-- what kind 4 makes, kind 4 takes back -/
theorem tb_44 (hR : isoV A sg idN R) (hO : OM A sg R.1 4 A' sg') (hV : isoV A' sg' f RB) (hp : pm1 RB) : tBk 4 A sg RB := by
  obtain ⟨s, hs, rfl, b3, b4, b5, b6⟩ := hO
  have hF := hR.1.1
  have hd := wkF_ok hF
  have hn := hF.1
  have hu : ∀ p, p ∈ A.flatten → p.2 < 2 := fun p hp => (hF.2 p hp).2.1
  have main : ∀ t, t < 2 * A.flatten.length → phi A sg' (phi A sg' (phi A sg' t)) = t → t4P A t (phi A sg' t) (phi A sg' (phi A sg' t)) A' → dj3 A t (phi A sg' t) (phi A sg' (phi A sg' t)) → s4n A f t < s4n A f (phi A sg' t) → s4n A f t < s4n A f (phi A sg' (phi A sg' t)) → tBk 4 A sg' RB := by
    rintro t ht c1 ⟨c2, c3, c4⟩ dj l1 l2
    have htb := phi_lt (sg := sg') hd ht
    have htd := phi_lt (sg := sg') hd htb
    obtain ⟨u, hu9⟩ : ∃ u, u = phi A sg' t := ⟨_, rfl⟩
    obtain ⟨w, hw9⟩ : ∃ w, w = phi A sg' u := ⟨_, rfl⟩
    have c1 : phi A sg' w = t := by rw [hw9, hu9]; exact c1
    rw [← hu9] at c2 c3 c4 dj l1 l2 htb htd
    rw [← hw9] at c2 c3 c4 dj l2 htd
    have nl : ∀ {k : Nat}, k < 2 * A.flatten.length → k / 2 < A.flatten.length ∧ rn_nx A (k / 2) < A.flatten.length := fun {k} hk => ⟨by omega, rn_nx_lt (by omega)⟩
    obtain ⟨t1, t2⟩ := nl ht
    obtain ⟨u1, u2⟩ := nl htb
    obtain ⟨w1, w2⟩ := nl htd
    have vne : ∀ {a b : Nat}, a < A.flatten.length → b < A.flatten.length → a ≠ b → vAt A a ≠ vAt A b := fun ha hb h9 e => h9 ((vAt_ij hn ha hb).mp e)
    obtain ⟨⟨x1, x2, x3, x4⟩, ⟨y1, y2, y3, y4⟩, z1, z2, z3, z4⟩ := dj
    obtain ⟨σ, hσ⟩ : ∃ σ : vT → vT, σ = fun r => swv (s4p A t) (s4q A t) (swv (s4p A u) (s4q A u) (swv (s4p A w) (s4q A w) r)) := ⟨_, rfl⟩
    have eA : A' = A.map (List.map σ) := by
      rw [c4, t4_swv hn ht htb htd, map3, hσ]
      rfl
    have hin : ∀ a b, σ a = σ b → a = b := fun a b e => by
      rw [hσ] at e
      exact swv_inj (swv_inj (swv_inj e))
    have st : σ (s4p A t) = s4q A t ∧ σ (s4q A t) = s4p A t := by
      rw [hσ]
      constructor
      · show swv _ _ (swv _ _ (swv _ _ (s4p A t))) = _
        unfold s4p s4q
        rw [swv_n (vne t1 w1 (fun e => z1 e.symm)) (vne t1 w2 (fun e => z3 e.symm)), swv_n (vne t1 u1 x1) (vne t1 u2 x2), swv_l]
      · show swv _ _ (swv _ _ (swv _ _ (s4q A t))) = _
        unfold s4p s4q
        rw [swv_n (vne t2 w1 (fun e => z2 e.symm)) (vne t2 w2 (fun e => z4 e.symm)), swv_n (vne t2 u1 x3) (vne t2 u2 x4), swv_r]
    have su9 : σ (s4p A u) = s4q A u ∧ σ (s4q A u) = s4p A u := by
      rw [hσ]
      constructor
      · show swv _ _ (swv _ _ (swv _ _ (s4p A u))) = _
        unfold s4p s4q
        rw [swv_n (vne u1 w1 y1) (vne u1 w2 y2), swv_l, swv_n (vne u2 t1 (fun e => x2 e.symm)) (vne u2 t2 (fun e => x4 e.symm))]
      · show swv _ _ (swv _ _ (swv _ _ (s4q A u))) = _
        unfold s4p s4q
        rw [swv_n (vne u2 w1 y3) (vne u2 w2 y4), swv_r, swv_n (vne u1 t1 (fun e => x1 e.symm)) (vne u1 t2 (fun e => x3 e.symm))]
    have sw9 : σ (s4p A w) = s4q A w ∧ σ (s4q A w) = s4p A w := by
      rw [hσ]
      constructor
      · show swv _ _ (swv _ _ (swv _ _ (s4p A w))) = _
        unfold s4p s4q
        rw [swv_l, swv_n (vne w2 u1 (fun e => y2 e.symm)) (vne w2 u2 (fun e => y4 e.symm)), swv_n (vne w2 t1 z3) (vne w2 t2 z4)]
      · show swv _ _ (swv _ _ (swv _ _ (s4q A w))) = _
        unfold s4p s4q
        rw [swv_r, swv_n (vne w1 u1 (fun e => y1 e.symm)) (vne w1 u2 (fun e => y3 e.symm)), swv_n (vne w1 t1 z1) (vne w1 t2 z2)]
    have bt : bsA A' (s4q A t) (s4p A t) := by
      have := bs_map hn hin (bs_v hn t1)
      rw [← eA] at this
      have this : bsA A' (σ (s4p A t)) (σ (s4q A t)) := this
      rw [st.1, st.2] at this
      exact this
    have bu : bsA A' (s4q A u) (s4p A u) := by
      have := bs_map hn hin (bs_v hn u1)
      rw [← eA] at this
      have this : bsA A' (σ (s4p A u)) (σ (s4q A u)) := this
      rw [su9.1, su9.2] at this
      exact this
    have bw : bsA A' (s4q A w) (s4p A w) := by
      have := bs_map hn hin (bs_v hn w1)
      rw [← eA] at this
      have this : bsA A' (σ (s4p A w)) (σ (s4q A w)) := this
      rw [sw9.1, sw9.2] at this
      exact this
    have mT : ∀ {v : Nat}, v < A.flatten.length → vAt A v ∈ A.flatten := fun hv => vAt_mem hv
    have pmA : A'.flatten.Perm A.flatten := by
      rw [c4, t4_swv hn ht htb htd]
      have q1 := swA_pm hn (mT w1) (mT w2)
      have nn1 := q1.nodup_iff.mpr hn
      have q2 := swA_pm nn1 (q1.mem_iff.mpr (mT u1)) (q1.mem_iff.mpr (mT u2))
      have q3 := swA_pm (q2.nodup_iff.mpr nn1) ((q2.trans q1).mem_iff.mpr (mT t1)) ((q2.trans q1).mem_iff.mpr (mT t2))
      exact q3.trans (q2.trans q1)
    have hm : ∀ {p : vT}, p ∈ A.flatten → p ∈ A'.flatten := fun h9 => pmA.mem_iff.mpr h9
    obtain ⟨ent, ont⟩ := s4_on hF hV hp hm ht bt (by rw [← hu9]; exact bu)
    obtain ⟨enu, onu⟩ := s4_on hF hV hp hm htb bu (by rw [← hw9]; exact bw)
    obtain ⟨enw, onw⟩ := s4_on hF hV hp hm htd bw (by rw [c1]; exact bt)
    rw [← hu9] at ont
    rw [← hw9] at onu
    rw [c1] at onw
    have cr : ∀ {k : Nat}, k < 2 * A.flatten.length → gl f (vAt A (hdv A k)) / 2 = f (crs A (hdv A k)) := fun {k} hk => by
      have := hu _ (vAt_mem (hdv_lt (A := A) hk))
      show (2 * f (vAt A (hdv A k)).1 + (vAt A (hdv A k)).2) / 2 = f (vAt A (hdv A k)).1
      omega
    have fne : ∀ {k m : Nat}, k < 2 * A.flatten.length → m < 2 * A.flatten.length → crs A (hdv A k) ≠ crs A (hdv A m) → f (crs A (hdv A k)) ≠ f (crs A (hdv A m)) := fun {k m} hk hm9 h9 e9 => h9 (hV.1.2.2.2.2.1 _ _ (hm (vAt_mem (hdv_lt hk))) (hm (vAt_mem (hdv_lt hm9))) e9)
    have ov : ∀ {k : Nat}, k < 2 * A.flatten.length → bsA A' (s4q A k) (s4p A k) → t4o A k → mv_ov RB.2.2.1.1 (s4n A f k) = true := by
      rintro k hk hbk ⟨o1, o2⟩
      have n1 := bs_nx hV hbk
      unfold mv_ov
      rw [show s4n A f k / 2 = gl f (s4q A k) by unfold s4n; omega, n1, Bool.and_eq_true, decide_eq_true_iff, decide_eq_true_iff]
      have o1 : (s4p A k).2 = 0 := o1
      have o2 : (s4q A k).2 = 0 := o2
      constructor
      · show (2 * f (s4q A k).1 + (s4q A k).2) % 2 = 0
        omega
      · show (2 * f (s4p A k).1 + (s4p A k).2) % 2 = 0
        omega
    have hB : mv_b4 RB (s4n A f t) = true := by
      unfold mv_b4 mv_pass
      rw [ont, onu, onw, ent, enu, enw, cr ht, cr htb, cr htd]
      simp only [Bool.and_eq_true, Bool.or_eq_true, decide_eq_true_iff]
      refine ⟨l1, l2, trivial, fne ht htb c2.1, fne htb htd c2.2.2, fne ht htd c2.2.1, ?_⟩
      rcases c3 with h9 | h9 | h9
      · exact Or.inl (ov ht bt h9)
      · exact Or.inr (Or.inl (ov htb bu h9))
      · exact Or.inr (Or.inr (ov htd bw h9))
    have hlt : s4n A f t < 2 * (2 * RB.1) := by
      have h1 := hV.1.2.2.2.1 _ (hm (mT t2))
      have h2 := hu _ (mT t2)
      have : gl f (s4q A t) < 2 * RB.1 := by
        show 2 * f (vAt A (rn_nx A (t / 2))).1 + (vAt A (rn_nx A (t / 2))).2 < _
        omega
      unfold s4n
      omega
    refine ⟨s4n A f t, hlt, fun F P Q hmk hQ => ⟨hB, f, ?_⟩⟩
    show isoV A sg' f (mv_t4 Q RB (s4n A f t))
    unfold mv_t4
    rw [if_pos hB, ont, onu]
    have nsw : ∀ (T : ow_NT) {k : Nat}, bsA A' (s4q A k) (s4p A k) → nt_sw RB T (s4n A f k) = nt_swap T (gl f (s4q A k)) (gl f (s4p A k)) := fun T {k} hbk => by
      unfold nt_sw
      rw [show s4n A f k / 2 = gl f (s4q A k) by unfold s4n; omega, bs_nx hV hbk]
    rw [nsw _ bt, nsw _ bu, nsw _ bw]
    have i1 := iso_swv (isoV_cpy (Q := Q) hV) (hm (mT t2)) (hm (mT t1))
    have p1 := swA_pm hV.1.1.1 (hm (mT t2)) (hm (mT t1))
    have i2 := iso_swv i1 (p1.mem_iff.mpr (hm (mT u2))) (p1.mem_iff.mpr (hm (mT u1)))
    have p2 := (swA_pm i1.1.1.1 (p1.mem_iff.mpr (hm (mT u2))) (p1.mem_iff.mpr (hm (mT u1)))).trans p1
    have i3 := iso_swv i2 (p2.mem_iff.mpr (hm (mT w2))) (p2.mem_iff.mpr (hm (mT w1)))
    rw [map3] at i3
    have eid : A'.map (List.map (fun r => swv (vAt A (rn_nx A (w / 2))) (vAt A (w / 2)) (swv (vAt A (rn_nx A (u / 2))) (vAt A (u / 2)) (swv (vAt A (rn_nx A (t / 2))) (vAt A (t / 2)) r)))) = A := by
      rw [eA, List.map_map]
      refine (List.map_congr_left (fun L hL => ?_)).trans (List.map_id _)
      show List.map _ (List.map σ L) = L
      rw [List.map_map]
      refine (List.map_congr_left (fun r hr => ?_)).trans (List.map_id _)
      show swv _ _ (swv _ _ (swv _ _ (σ r))) = r
      rw [hσ]
      show swv _ _ (swv _ _ (swv _ _ (swv (vAt A (t / 2)) (vAt A (rn_nx A (t / 2))) (swv (vAt A (u / 2)) (vAt A (rn_nx A (u / 2))) (swv (vAt A (w / 2)) (vAt A (rn_nx A (w / 2))) r))))) = r
      rw [swv_c (p := vAt A (rn_nx A (t / 2))), swv_i, swv_c (p := vAt A (rn_nx A (u / 2))), swv_i, swv_c (p := vAt A (rn_nx A (w / 2))), swv_i]
    rw [eid] at i3
    exact i3
  obtain ⟨x, hx⟩ : ∃ x, x = phi A sg' s := ⟨_, rfl⟩
  obtain ⟨y, hy⟩ : ∃ y, y = phi A sg' x := ⟨_, rfl⟩
  have hP : t4P A s x y A' := by rw [hy, hx]; exact ⟨b4, b5, b6⟩
  have hxl : x < 2 * A.flatten.length := by rw [hx]; exact phi_lt hd hs
  have hyl : y < 2 * A.flatten.length := by rw [hy]; exact phi_lt hd hxl
  have hys : phi A sg' y = s := by rw [hy, hx]; exact b3
  have nxy : s ≠ x ∧ s ≠ y ∧ x ≠ y := ⟨fun e => hP.1.1 (by rw [← e]), fun e => hP.1.2.1 (by rw [← e]), fun e => hP.1.2.2 (by rw [← e])⟩
  have dj : dj3 A s x y := (tri_pairs (sg := sg') hd ⟨hs, hxl, hyl⟩ nxy (fun t ht => by
    rcases ht with e | e | e <;> rw [e]
    · exact Or.inr (Or.inl hx.symm)
    · exact Or.inr (Or.inr hy.symm)
    · exact Or.inl hys) hP.1.1 hP.1.2.1 hP.1.2.2).2.2.2
  have pmA : ∀ {p : vT}, p ∈ A.flatten → p ∈ A'.flatten := fun {p} h9 => by
    have nl : ∀ {k : Nat}, k < 2 * A.flatten.length → vAt A (k / 2) ∈ A.flatten ∧ vAt A (rn_nx A (k / 2)) ∈ A.flatten := fun {k} hk => ⟨vAt_mem (by omega), vAt_mem (rn_nx_lt (by omega))⟩
    rw [hP.2.2, t4_swv hn hs hxl hyl]
    have q1 := swA_pm hn (nl hyl).1 (nl hyl).2
    have nn1 := q1.nodup_iff.mpr hn
    have q2 := swA_pm nn1 (q1.mem_iff.mpr (nl hxl).1) (q1.mem_iff.mpr (nl hxl).2)
    have q3 := swA_pm (q2.nodup_iff.mpr nn1) ((q2.trans q1).mem_iff.mpr (nl hs).1) ((q2.trans q1).mem_iff.mpr (nl hs).2)
    exact (q3.trans (q2.trans q1)).mem_iff.mpr h9
  have inj9 : ∀ {a b : Nat}, a < 2 * A.flatten.length → b < 2 * A.flatten.length → rn_nx A (a / 2) ≠ rn_nx A (b / 2) → s4n A f a ≠ s4n A f b := by
    intro a b ha hb h9 e9
    unfold s4n at e9
    have h1 : vAt A (rn_nx A (a / 2)) ∈ A.flatten := vAt_mem (rn_nx_lt (by omega))
    have h2 : vAt A (rn_nx A (b / 2)) ∈ A.flatten := vAt_mem (rn_nx_lt (by omega))
    have := gl_gin hV.1 _ _ (pmA h1) (pmA h2) (show gl f (s4q A a) = gl f (s4q A b) by omega)
    exact h9 ((vAt_ij hn (rn_nx_lt (by omega)) (rn_nx_lt (by omega))).mp this)
  have m1 := inj9 hs hxl dj.1.2.2.2
  have m2 := inj9 hs hyl (fun e => dj.2.2.2.2.2 e.symm)
  have m3 := inj9 hxl hyl dj.2.1.2.2.2
  have ms := main s hs
  have mx := main x hxl
  have my := main y hyl
  rw [← hx, ← hy, hys] at ms
  rw [← hy, hys, ← hx] at mx
  rw [hys, ← hx, ← hy] at my
  by_cases c1 : s4n A f s < s4n A f x ∧ s4n A f s < s4n A f y
  · exact ms rfl hP dj c1.1 c1.2
  · by_cases c2 : s4n A f x < s4n A f y ∧ s4n A f x < s4n A f s
    · exact mx rfl ((t4P_rot dj).mp hP) (dj3_rot dj) c2.1 c2.2
    · exact my rfl ((t4P_rot (dj3_rot dj)).mp ((t4P_rot dj).mp hP)) (dj3_rot (dj3_rot dj)) (by omega) (by omega)
end XTB5
