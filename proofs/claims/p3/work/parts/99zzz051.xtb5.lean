section
/-! 99zzzzzzzzzzzzc.xtb5 -/
/-! moves are taken back: kind 4 -/
section XTB5
variable {A A' : rn_L} {sg sg' : Nat → Bool} {R RB Q : ow_NT} {f : Nat → Nat} {p q r r' : vT}
theorem swv_l : swv p q p = q := if_pos rfl
theorem swv_r : swv p q q = p := by
  unfold swv
  by_cases e : q = p
  · rw [if_pos e, e]
  · rw [if_neg e, if_pos rfl]
theorem swv_n (h1 : r ≠ p) (h2 : r ≠ q) : swv p q r = r := by
  unfold swv
  rw [if_neg h1, if_neg h2]
theorem swv_c : swv p q r = swv q p r := by
  unfold swv
  by_cases e1 : r = p
  · by_cases e2 : r = q
    · rw [if_pos e1, if_pos e2, ← e1, ← e2]
    · rw [if_pos e1, if_neg e2, if_pos e1]
  · by_cases e2 : r = q
    · rw [if_neg e1, if_pos e2, if_pos e2]
    · rw [if_neg e1, if_neg e2, if_neg e2, if_neg e1]
theorem map3 (f g h : vT → vT) : ((A.map (List.map f)).map (List.map g)).map (List.map h) = A.map (List.map (fun p => h (g (f p)))) := by
  simp [List.map_map, Function.comp_def]
theorem bs_map {σ : vT → vT} (hn : A.flatten.Nodup) (hi : ∀ a b, σ a = σ b → a = b) (hb : bsA A r r') : bsA (A.map (List.map σ)) (σ r) (σ r') := by
  obtain ⟨L, hL, hr, e⟩ := hb
  refine ⟨L.map σ, List.mem_map.mpr ⟨L, hL, rfl⟩, List.mem_map.mpr ⟨r, hr, rfl⟩, ?_⟩
  rw [sc_map (L_nd hn hL) (fun a b _ _ => hi a b) hr, e]
theorem bs_pv (h : isoV A sg f R) (hb : bsA A r r') : R.2.2.1.2 (gl f r') = gl f r := by
  obtain ⟨L, hL, hr, e⟩ := hb
  rw [← e]
  exact (h.2 L hL r hr).2
/-- the visits of a side -/
def s4p (A : rn_L) (t : Nat) : vT := vAt A (t / 2)
def s4q (A : rn_L) (t : Nat) : vT := vAt A (rn_nx A (t / 2))
/-- the side of the net that the move has made -/
def s4n (A : rn_L) (f : Nat → Nat) (t : Nat) : Nat := 2 * gl f (s4q A t) + (1 - t % 2)
theorem s4_e {t : Nat} : vAt A (hdv A t) = if t % 2 = 0 then s4q A t else s4p A t := by
  unfold hdv s4p s4q
  by_cases e : t % 2 = 0
  · rw [if_pos e, if_pos e]
  · rw [if_neg e, if_neg e]
/-- the sides go on as before, in the other way -/
theorem s4_on (hF : wkF A.flatten) (hV : isoV A' sg f RB) (hp : pm1 RB) (hm : ∀ {p : vT}, p ∈ A.flatten → p ∈ A'.flatten) {t : Nat} (ht : t < 2 * A.flatten.length) (h1 : bsA A' (s4q A t) (s4p A t)) (h2 : bsA A' (s4q A (phi A sg t)) (s4p A (phi A sg t))) : fc_end RB.2.2.1.1 (s4n A f t) = gl f (vAt A (hdv A t)) ∧ fc_on RB.2.2.1 RB.2.2.2 (s4n A f t) = s4n A f (phi A sg t) := by
  have hd := wkF_ok hF
  have hh := hdv_lt (A := A) ht
  have n1 := bs_nx hV h1
  have v2 := bs_pv hV h2
  have e1 : s4n A f t / 2 = gl f (s4q A t) := by unfold s4n; omega
  have e2 : s4n A f t % 2 = 1 - t % 2 := by unfold s4n; omega
  have en : fc_end RB.2.2.1.1 (s4n A f t) = gl f (vAt A (hdv A t)) := by
    unfold fc_end
    rw [e1, e2, s4_e]
    by_cases e : t % 2 = 0
    · rw [if_pos e, if_neg (by omega)]
    · rw [if_neg e, if_pos (by omega), n1]
  refine ⟨en, ?_⟩
  have hmE := hm (vAt_mem hh)
  have hu2 := (hF.2 _ (vAt_mem hh)).2.1
  have hsg := iso_sg1 hV hp hmE
  obtain ⟨E, hE⟩ : ∃ E, E = vAt A (hdv A t) := ⟨_, rfl⟩
  have hst : stG RB.2.2.2 (gl f E) = smv A sg (hdv A t) := by
    have e3 : uns A (hdv A t) = E.2 := by rw [hE]; rfl
    have e4 : crs A (hdv A t) = E.1 := by rw [hE]; rfl
    rw [← hE] at hsg hu2
    unfold smv
    rw [e3, e4]
    have e5 : stG RB.2.2.2 (gl f E) = (decide (gl f E % 2 = 0) == decide (0 < RB.2.2.2 (gl f E / 2))) := rfl
    have e6 : gl f E % 2 = E.2 := by
      show (2 * f E.1 + E.2) % 2 = _
      omega
    have e7 : gl f E / 2 = f E.1 := by
      show (2 * f E.1 + E.2) / 2 = _
      omega
    rw [e5, e6, e7, hsg]
    rcases (show E.2 = 0 ∨ E.2 = 1 by omega) with e | e <;> rw [e] <;> cases sg E.1 <;> decide
  have hmt : mt (gl f E) = gl f (E.1, 1 - E.2) := by
    rw [← hE] at hu2
    show mt (2 * f E.1 + E.2) = 2 * f E.1 + (1 - E.2)
    unfold mt
    rcases (show E.2 = 0 ∨ E.2 = 1 by omega) with e | e <;> rw [e]
    · rw [if_pos (by omega)]
    · rw [if_neg (by omega)]
      omega
  have em : vAt A (mtf A (hdv A t)) = (E.1, 1 - E.2) := by rw [vAt_mtf hF hh, hE]
  have m1 := mtf_lt hd hh
  have e0 : fc_on RB.2.2.1 RB.2.2.2 (s4n A f t) = if (stG RB.2.2.2 (fc_end RB.2.2.1.1 (s4n A f t)) == decide (s4n A f t % 2 = 0)) = true then 2 * mt (fc_end RB.2.2.1.1 (s4n A f t)) else 2 * RB.2.2.1.2 (mt (fc_end RB.2.2.1.1 (s4n A f t))) + 1 := rfl
  rw [e0, en, ← hE, hst, e2, hmt, ← em]
  have key0 : wyv A sg t = 0 → 2 * RB.2.2.1.2 (gl f (vAt A (mtf A (hdv A t)))) + 1 = s4n A f (phi A sg t) := by
    intro hw
    have ep : phi A sg t = 2 * mtf A (hdv A t) := by
      unfold phi
      rw [if_pos hw]
    have q1 : s4p A (phi A sg t) = vAt A (mtf A (hdv A t)) := by
      unfold s4p
      rw [ep, show 2 * mtf A (hdv A t) / 2 = mtf A (hdv A t) by omega]
    rw [← q1, v2]
    unfold s4n
    rw [show phi A sg t % 2 = 0 by rw [ep]; omega]
  have key1 : wyv A sg t ≠ 0 → 2 * gl f (vAt A (mtf A (hdv A t))) = s4n A f (phi A sg t) := by
    intro hw
    have ep : phi A sg t = 2 * rn_pv A (mtf A (hdv A t)) + 1 := by
      unfold phi
      rw [if_neg hw]
    have q1 : s4q A (phi A sg t) = vAt A (mtf A (hdv A t)) := by
      unfold s4q
      rw [ep, show (2 * rn_pv A (mtf A (hdv A t)) + 1) / 2 = rn_pv A (mtf A (hdv A t)) by omega, nx_pv m1]
    rw [← q1]
    unfold s4n
    rw [show phi A sg t % 2 = 1 by rw [ep]; omega]
    omega
  unfold wyv at key0 key1
  rcases (show t % 2 = 0 ∨ t % 2 = 1 by omega) with e | e <;> rw [e] at key0 key1 ⊢ <;> cases hs : smv A sg (hdv A t) <;> rw [hs] at key0 key1
  · rw [if_pos (by decide)]
    exact key1 (by decide)
  · rw [if_neg (by decide)]
    exact key0 (by decide)
  · rw [if_neg (by decide)]
    exact key0 (by decide)
  · rw [if_pos (by decide)]
    exact key1 (by decide)
/-- what kind 4 makes, kind 4 takes back -/
theorem tb_44 (hR : isoV A sg idN R) (hO : OM A sg R.1 4 A' sg') (hV : isoV A' sg' f RB) (hp : pm1 RB) : tBk 4 A sg RB := by
  obtain ⟨s, hs, rfl, b3, b4, b5, b6⟩ := hO
  have hF := hR.1.1
  have hd := wkF_ok hF
  have hn := hF.1
  have hu : ∀ p, p ∈ A.flatten → p.2 < 2 := fun p hp => (hF.2 p hp).2.1
  have main : ∀ t, t < 2 * A.flatten.length → phi A sg' (phi A sg' (phi A sg' t)) = t → t4P A t (phi A sg' t) (phi A sg' (phi A sg' t)) A' → dj3 A t (phi A sg' t) (phi A sg' (phi A sg' t)) → s4n A f t < s4n A f (phi A sg' t) → s4n A f t < s4n A f (phi A sg' (phi A sg' t)) → tBk 4 A sg' RB := by
    rintro t ht c1 ⟨c2, c3, c4⟩ dj l1 l2
    have htb := phi_lt (sg := sg') hd ht
    have htd := phi_lt (sg := sg') hd htb
    obtain ⟨u, hu9⟩ : ∃ u, u = phi A sg' t := ⟨_, rfl⟩
    obtain ⟨w, hw9⟩ : ∃ w, w = phi A sg' u := ⟨_, rfl⟩
    have c1 : phi A sg' w = t := by rw [hw9, hu9]; exact c1
    rw [← hu9] at c2 c3 c4 dj l1 l2 htb htd
    rw [← hw9] at c2 c3 c4 dj l2 htd
    have nl : ∀ {k : Nat}, k < 2 * A.flatten.length → k / 2 < A.flatten.length ∧ rn_nx A (k / 2) < A.flatten.length := fun {k} hk => ⟨by omega, rn_nx_lt (by omega)⟩
    obtain ⟨t1, t2⟩ := nl ht
    obtain ⟨u1, u2⟩ := nl htb
    obtain ⟨w1, w2⟩ := nl htd
    have vne : ∀ {a b : Nat}, a < A.flatten.length → b < A.flatten.length → a ≠ b → vAt A a ≠ vAt A b := fun ha hb h9 e => h9 ((vAt_ij hn ha hb).mp e)
    obtain ⟨⟨x1, x2, x3, x4⟩, ⟨y1, y2, y3, y4⟩, z1, z2, z3, z4⟩ := dj
    obtain ⟨σ, hσ⟩ : ∃ σ : vT → vT, σ = fun r => swv (s4p A t) (s4q A t) (swv (s4p A u) (s4q A u) (swv (s4p A w) (s4q A w) r)) := ⟨_, rfl⟩
    have eA : A' = A.map (List.map σ) := by
      rw [c4, t4_swv hn ht htb htd, map3, hσ]
      rfl
    have hin : ∀ a b, σ a = σ b → a = b := fun a b e => by
      rw [hσ] at e
      exact swv_inj (swv_inj (swv_inj e))
    have st : σ (s4p A t) = s4q A t ∧ σ (s4q A t) = s4p A t := by
      rw [hσ]
      constructor
      · show swv _ _ (swv _ _ (swv _ _ (s4p A t))) = _
        unfold s4p s4q
        rw [swv_n (vne t1 w1 (fun e => z1 e.symm)) (vne t1 w2 (fun e => z3 e.symm)), swv_n (vne t1 u1 x1) (vne t1 u2 x2), swv_l]
      · show swv _ _ (swv _ _ (swv _ _ (s4q A t))) = _
        unfold s4p s4q
        rw [swv_n (vne t2 w1 (fun e => z2 e.symm)) (vne t2 w2 (fun e => z4 e.symm)), swv_n (vne t2 u1 x3) (vne t2 u2 x4), swv_r]
    have su9 : σ (s4p A u) = s4q A u ∧ σ (s4q A u) = s4p A u := by
      rw [hσ]
      constructor
      · show swv _ _ (swv _ _ (swv _ _ (s4p A u))) = _
        unfold s4p s4q
        rw [swv_n (vne u1 w1 y1) (vne u1 w2 y2), swv_l, swv_n (vne u2 t1 (fun e => x2 e.symm)) (vne u2 t2 (fun e => x4 e.symm))]
      · show swv _ _ (swv _ _ (swv _ _ (s4q A u))) = _
        unfold s4p s4q
        rw [swv_n (vne u2 w1 y3) (vne u2 w2 y4), swv_r, swv_n (vne u1 t1 (fun e => x1 e.symm)) (vne u1 t2 (fun e => x3 e.symm))]
    have sw9 : σ (s4p A w) = s4q A w ∧ σ (s4q A w) = s4p A w := by
      rw [hσ]
      constructor
      · show swv _ _ (swv _ _ (swv _ _ (s4p A w))) = _
        unfold s4p s4q
        rw [swv_l, swv_n (vne w2 u1 (fun e => y2 e.symm)) (vne w2 u2 (fun e => y4 e.symm)), swv_n (vne w2 t1 z3) (vne w2 t2 z4)]
      · show swv _ _ (swv _ _ (swv _ _ (s4q A w))) = _
        unfold s4p s4q
        rw [swv_r, swv_n (vne w1 u1 (fun e => y1 e.symm)) (vne w1 u2 (fun e => y3 e.symm)), swv_n (vne w1 t1 z1) (vne w1 t2 z2)]
    have bt : bsA A' (s4q A t) (s4p A t) := by
      have := bs_map hn hin (bs_v hn t1)
      rw [← eA] at this
      have this : bsA A' (σ (s4p A t)) (σ (s4q A t)) := this
      rw [st.1, st.2] at this
      exact this
    have bu : bsA A' (s4q A u) (s4p A u) := by
      have := bs_map hn hin (bs_v hn u1)
      rw [← eA] at this
      have this : bsA A' (σ (s4p A u)) (σ (s4q A u)) := this
      rw [su9.1, su9.2] at this
      exact this
    have bw : bsA A' (s4q A w) (s4p A w) := by
      have := bs_map hn hin (bs_v hn w1)
      rw [← eA] at this
      have this : bsA A' (σ (s4p A w)) (σ (s4q A w)) := this
      rw [sw9.1, sw9.2] at this
      exact this
    have mT : ∀ {v : Nat}, v < A.flatten.length → vAt A v ∈ A.flatten := fun hv => vAt_mem hv
    have pmA : A'.flatten.Perm A.flatten := by
      rw [c4, t4_swv hn ht htb htd]
      have q1 := swA_pm hn (mT w1) (mT w2)
      have nn1 := q1.nodup_iff.mpr hn
      have q2 := swA_pm nn1 (q1.mem_iff.mpr (mT u1)) (q1.mem_iff.mpr (mT u2))
      have q3 := swA_pm (q2.nodup_iff.mpr nn1) ((q2.trans q1).mem_iff.mpr (mT t1)) ((q2.trans q1).mem_iff.mpr (mT t2))
      exact q3.trans (q2.trans q1)
    have hm : ∀ {p : vT}, p ∈ A.flatten → p ∈ A'.flatten := fun h9 => pmA.mem_iff.mpr h9
    obtain ⟨ent, ont⟩ := s4_on hF hV hp hm ht bt (by rw [← hu9]; exact bu)
    obtain ⟨enu, onu⟩ := s4_on hF hV hp hm htb bu (by rw [← hw9]; exact bw)
    obtain ⟨enw, onw⟩ := s4_on hF hV hp hm htd bw (by rw [c1]; exact bt)
    rw [← hu9] at ont
    rw [← hw9] at onu
    rw [c1] at onw
    have cr : ∀ {k : Nat}, k < 2 * A.flatten.length → gl f (vAt A (hdv A k)) / 2 = f (crs A (hdv A k)) := fun {k} hk => by
      have := hu _ (vAt_mem (hdv_lt (A := A) hk))
      show (2 * f (vAt A (hdv A k)).1 + (vAt A (hdv A k)).2) / 2 = f (vAt A (hdv A k)).1
      omega
    have fne : ∀ {k m : Nat}, k < 2 * A.flatten.length → m < 2 * A.flatten.length → crs A (hdv A k) ≠ crs A (hdv A m) → f (crs A (hdv A k)) ≠ f (crs A (hdv A m)) := fun {k m} hk hm9 h9 e9 => h9 (hV.1.2.2.2.2.1 _ _ (hm (vAt_mem (hdv_lt hk))) (hm (vAt_mem (hdv_lt hm9))) e9)
    have ov : ∀ {k : Nat}, k < 2 * A.flatten.length → bsA A' (s4q A k) (s4p A k) → t4o A k → mv_ov RB.2.2.1.1 (s4n A f k) = true := by
      rintro k hk hbk ⟨o1, o2⟩
      have n1 := bs_nx hV hbk
      unfold mv_ov
      rw [show s4n A f k / 2 = gl f (s4q A k) by unfold s4n; omega, n1, Bool.and_eq_true, decide_eq_true_iff, decide_eq_true_iff]
      have o1 : (s4p A k).2 = 0 := o1
      have o2 : (s4q A k).2 = 0 := o2
      constructor
      · show (2 * f (s4q A k).1 + (s4q A k).2) % 2 = 0
        omega
      · show (2 * f (s4p A k).1 + (s4p A k).2) % 2 = 0
        omega
    have hB : mv_b4 RB (s4n A f t) = true := by
      unfold mv_b4 mv_pass
      rw [ont, onu, onw, ent, enu, enw, cr ht, cr htb, cr htd]
      simp only [Bool.and_eq_true, Bool.or_eq_true, decide_eq_true_iff]
      refine ⟨l1, l2, trivial, fne ht htb c2.1, fne htb htd c2.2.2, fne ht htd c2.2.1, ?_⟩
      rcases c3 with h9 | h9 | h9
      · exact Or.inl (ov ht bt h9)
      · exact Or.inr (Or.inl (ov htb bu h9))
      · exact Or.inr (Or.inr (ov htd bw h9))
    have hlt : s4n A f t < 2 * (2 * RB.1) := by
      have h1 := hV.1.2.2.2.1 _ (hm (mT t2))
      have h2 := hu _ (mT t2)
      have : gl f (s4q A t) < 2 * RB.1 := by
        show 2 * f (vAt A (rn_nx A (t / 2))).1 + (vAt A (rn_nx A (t / 2))).2 < _
        omega
      unfold s4n
      omega
    refine ⟨s4n A f t, hlt, fun F P Q hmk hQ => ⟨hB, f, ?_⟩⟩
    show isoV A sg' f (mv_t4 Q RB (s4n A f t))
    unfold mv_t4
    rw [if_pos hB, ont, onu]
    have nsw : ∀ (T : ow_NT) {k : Nat}, bsA A' (s4q A k) (s4p A k) → nt_sw RB T (s4n A f k) = nt_swap T (gl f (s4q A k)) (gl f (s4p A k)) := fun T {k} hbk => by
      unfold nt_sw
      rw [show s4n A f k / 2 = gl f (s4q A k) by unfold s4n; omega, bs_nx hV hbk]
    rw [nsw _ bt, nsw _ bu, nsw _ bw]
    have i1 := iso_swv (isoV_cpy (Q := Q) hV) (hm (mT t2)) (hm (mT t1))
    have p1 := swA_pm hV.1.1.1 (hm (mT t2)) (hm (mT t1))
    have i2 := iso_swv i1 (p1.mem_iff.mpr (hm (mT u2))) (p1.mem_iff.mpr (hm (mT u1)))
    have p2 := (swA_pm i1.1.1.1 (p1.mem_iff.mpr (hm (mT u2))) (p1.mem_iff.mpr (hm (mT u1)))).trans p1
    have i3 := iso_swv i2 (p2.mem_iff.mpr (hm (mT w2))) (p2.mem_iff.mpr (hm (mT w1)))
    rw [map3] at i3
    have eid : A'.map (List.map (fun r => swv (vAt A (rn_nx A (w / 2))) (vAt A (w / 2)) (swv (vAt A (rn_nx A (u / 2))) (vAt A (u / 2)) (swv (vAt A (rn_nx A (t / 2))) (vAt A (t / 2)) r)))) = A := by
      rw [eA, List.map_map]
      refine (List.map_congr_left (fun L hL => ?_)).trans (List.map_id _)
      show List.map _ (List.map σ L) = L
      rw [List.map_map]
      refine (List.map_congr_left (fun r hr => ?_)).trans (List.map_id _)
      show swv _ _ (swv _ _ (swv _ _ (σ r))) = r
      rw [hσ]
      show swv _ _ (swv _ _ (swv _ _ (swv (vAt A (t / 2)) (vAt A (rn_nx A (t / 2))) (swv (vAt A (u / 2)) (vAt A (rn_nx A (u / 2))) (swv (vAt A (w / 2)) (vAt A (rn_nx A (w / 2))) r))))) = r
      rw [swv_c (p := vAt A (rn_nx A (t / 2))), swv_i, swv_c (p := vAt A (rn_nx A (u / 2))), swv_i, swv_c (p := vAt A (rn_nx A (w / 2))), swv_i]
    rw [eid] at i3
    exact i3
  obtain ⟨x, hx⟩ : ∃ x, x = phi A sg' s := ⟨_, rfl⟩
  obtain ⟨y, hy⟩ : ∃ y, y = phi A sg' x := ⟨_, rfl⟩
  have hP : t4P A s x y A' := by rw [hy, hx]; exact ⟨b4, b5, b6⟩
  have hxl : x < 2 * A.flatten.length := by rw [hx]; exact phi_lt hd hs
  have hyl : y < 2 * A.flatten.length := by rw [hy]; exact phi_lt hd hxl
  have hys : phi A sg' y = s := by rw [hy, hx]; exact b3
  have nxy : s ≠ x ∧ s ≠ y ∧ x ≠ y := ⟨fun e => hP.1.1 (by rw [← e]), fun e => hP.1.2.1 (by rw [← e]), fun e => hP.1.2.2 (by rw [← e])⟩
  have dj : dj3 A s x y := (tri_pairs (sg := sg') hd ⟨hs, hxl, hyl⟩ nxy (fun t ht => by
    rcases ht with e | e | e <;> rw [e]
    · exact Or.inr (Or.inl hx.symm)
    · exact Or.inr (Or.inr hy.symm)
    · exact Or.inl hys) hP.1.1 hP.1.2.1 hP.1.2.2).2.2.2
  have pmA : ∀ {p : vT}, p ∈ A.flatten → p ∈ A'.flatten := fun {p} h9 => by
    have nl : ∀ {k : Nat}, k < 2 * A.flatten.length → vAt A (k / 2) ∈ A.flatten ∧ vAt A (rn_nx A (k / 2)) ∈ A.flatten := fun {k} hk => ⟨vAt_mem (by omega), vAt_mem (rn_nx_lt (by omega))⟩
    rw [hP.2.2, t4_swv hn hs hxl hyl]
    have q1 := swA_pm hn (nl hyl).1 (nl hyl).2
    have nn1 := q1.nodup_iff.mpr hn
    have q2 := swA_pm nn1 (q1.mem_iff.mpr (nl hxl).1) (q1.mem_iff.mpr (nl hxl).2)
    have q3 := swA_pm (q2.nodup_iff.mpr nn1) ((q2.trans q1).mem_iff.mpr (nl hs).1) ((q2.trans q1).mem_iff.mpr (nl hs).2)
    exact (q3.trans (q2.trans q1)).mem_iff.mpr h9
  have inj9 : ∀ {a b : Nat}, a < 2 * A.flatten.length → b < 2 * A.flatten.length → rn_nx A (a / 2) ≠ rn_nx A (b / 2) → s4n A f a ≠ s4n A f b := by
    intro a b ha hb h9 e9
    unfold s4n at e9
    have h1 : vAt A (rn_nx A (a / 2)) ∈ A.flatten := vAt_mem (rn_nx_lt (by omega))
    have h2 : vAt A (rn_nx A (b / 2)) ∈ A.flatten := vAt_mem (rn_nx_lt (by omega))
    have := gl_gin hV.1 _ _ (pmA h1) (pmA h2) (show gl f (s4q A a) = gl f (s4q A b) by omega)
    exact h9 ((vAt_ij hn (rn_nx_lt (by omega)) (rn_nx_lt (by omega))).mp this)
  have m1 := inj9 hs hxl dj.1.2.2.2
  have m2 := inj9 hs hyl (fun e => dj.2.2.2.2.2 e.symm)
  have m3 := inj9 hxl hyl dj.2.1.2.2.2
  have ms := main s hs
  have mx := main x hxl
  have my := main y hyl
  rw [← hx, ← hy, hys] at ms
  rw [← hy, hys, ← hx] at mx
  rw [hys, ← hx, ← hy] at my
  by_cases c1 : s4n A f s < s4n A f x ∧ s4n A f s < s4n A f y
  · exact ms rfl hP dj c1.1 c1.2
  · by_cases c2 : s4n A f x < s4n A f y ∧ s4n A f x < s4n A f s
    · exact mx rfl ((t4P_rot dj).mp hP) (dj3_rot dj) c2.1 c2.2
    · exact my rfl ((t4P_rot (dj3_rot dj)).mp ((t4P_rot dj).mp hP)) (dj3_rot (dj3_rot dj)) (by omega) (by omega)
end XTB5
end
section
/-! 99zzzzzzzzzzzzd.xnet -/
/-! nets that show one list -/
section XNT
variable {A B E : rn_L} {sg sB sE : Nat → Bool} {T T2 R : ow_NT} {f g h k : Nat → Nat}
theorem iso_vis (hV : isoV A sg f T) {y u : Nat} (hy : y < T.1) (hu : u < 2) : ∃ x, ((x, u) : vT) ∈ A.flatten ∧ f x = y := by
  have hi := isoS_iff.mp hV.1
  obtain ⟨v, hv, e⟩ := lbv_sur hi (k := 2 * y + u) (by omega)
  obtain ⟨e1, e2⟩ := lbv_hf hi hv
  rw [e] at e1 e2
  refine ⟨crs A v, ?_, by omega⟩
  have := vAt_mem hv
  rw [show vAt A v = (crs A v, u) from Prod.ext rfl (by show uns A v = u; omega)] at this
  exact this
/-- what shows a list shows what that list shows -/
theorem iso_tr (hB : isoV B sB g T) (hE : isoV E sE h T) (hR : isoV E sE k R) : ∃ g', isoV B sB g' R := by
  have ex : ∀ y, ∃ x, y < T.1 → ((x, 0) : vT) ∈ E.flatten ∧ ((x, 1) : vT) ∈ E.flatten ∧ h x = y := fun y => by
    by_cases hy : y < T.1
    · obtain ⟨x, x1, x2⟩ := iso_vis hE hy (u := 0) (by omega)
      obtain ⟨x', y1, y2⟩ := iso_vis hE hy (u := 1) (by omega)
      have := hE.1.2.2.2.2.1 _ _ x1 y1 (x2.trans y2.symm)
      have this : x = x' := this
      rw [← this] at y1
      exact ⟨x, fun _ => ⟨x1, y1, x2⟩⟩
    · exact ⟨0, fun h9 => absurd h9 hy⟩
  obtain ⟨τ, hτ⟩ := Classical.axiomOfChoice ex
  have hu : ∀ {p : vT}, p ∈ B.flatten → p.2 < 2 := fun {p} hp => (hB.1.1.2 p hp).2.1
  have huE : ∀ {p : vT}, p ∈ E.flatten → p.2 < 2 := fun {p} hp => (hE.1.1.2 p hp).2.1
  have tB : ∀ {p : vT}, p ∈ B.flatten → ((τ (g p.1), p.2) : vT) ∈ E.flatten ∧ h (τ (g p.1)) = g p.1 := fun {p} hp => by
    obtain ⟨a1, a2, a3⟩ := hτ (g p.1) (hB.1.2.2.2.1 p hp)
    refine ⟨?_, a3⟩
    have := hu hp
    rcases (show p.2 = 0 ∨ p.2 = 1 by omega) with e | e <;> rw [e]
    · exact a1
    · exact a2
  have tE : ∀ {q : vT}, q ∈ E.flatten → τ (h q.1) = q.1 := fun {q} hq => by
    obtain ⟨a1, a2, a3⟩ := hτ (h q.1) (hE.1.2.2.2.1 q hq)
    have := hE.1.2.2.2.2.1 _ _ a1 hq a3
    exact this
  refine ⟨fun x => k (τ (g x)), ⟨hB.1.1, ?_, hR.1.2.2.1, fun p hp => hR.1.2.2.2.1 _ (tB hp).1, fun p q hp hq e => ?_, fun L hL p hp => ?_, fun p hp => ?_, ?_⟩, fun L hL p hp => ?_⟩
  · rw [hB.1.2.1, ← hE.1.2.1, hR.1.2.1]
  · have e1 := hR.1.2.2.2.2.1 _ _ (tB hp).1 (tB hq).1 e
    have e1 : τ (g p.1) = τ (g q.1) := e1
    have e2 : g p.1 = g q.1 := by rw [← (tB hp).2, ← (tB hq).2, e1]
    exact hB.1.2.2.2.2.1 p q hp hq e2
  · have hpB : p ∈ B.flatten := List.mem_flatten.mpr ⟨L, hL, hp⟩
    have hsB : sc L p ∈ B.flatten := List.mem_flatten.mpr ⟨L, hL, sc_in hp (L_nd hB.1.1.1 hL)⟩
    obtain ⟨m1, m2⟩ := tB hpB
    obtain ⟨M, hM, hq⟩ := List.mem_flatten.mp m1
    have hsE : sc M (τ (g p.1), p.2) ∈ E.flatten := List.mem_flatten.mpr ⟨M, hM, sc_in hq (L_nd hE.1.1.1 hM)⟩
    have a1 := (hB.2 L hL p hp).1
    have a2 := (hE.2 M hM _ hq).1
    have a3 := (hR.2 M hM _ hq).1
    have e0 : gl h (τ (g p.1), p.2) = gl g p := by
      show 2 * h (τ (g p.1)) + p.2 = 2 * g p.1 + p.2
      rw [m2]
    rw [e0, a1] at a2
    have a2 : 2 * g (sc L p).1 + (sc L p).2 = 2 * h (sc M (τ (g p.1), p.2)).1 + (sc M (τ (g p.1), p.2)).2 := a2
    have u1 := hu hsB
    have u2 := huE hsE
    have e1 : g (sc L p).1 = h (sc M (τ (g p.1), p.2)).1 := by omega
    have e2 : (sc L p).2 = (sc M (τ (g p.1), p.2)).2 := by omega
    show R.2.2.1.1 (gl k (τ (g p.1), p.2)) = 2 * k (τ (g (sc L p).1)) + (sc L p).2
    rw [a3, e1, tE hsE, e2]
    rfl
  · obtain ⟨m1, m2⟩ := tB hp
    have a1 := hR.1.2.2.2.2.2.2.1 _ m1
    have a2 := hE.1.2.2.2.2.2.2.1 _ m1
    have a3 := hB.1.2.2.2.2.2.2.1 p hp
    have a2 : T.2.2.2 (h (τ (g p.1))) < 0 ↔ sE (τ (g p.1)) = true := a2
    rw [m2] at a2
    exact a1.trans (a2.symm.trans a3)
  · rw [hB.1.2.2.2.2.2.2.2, ← hE.1.2.2.2.2.2.2.2, hR.1.2.2.2.2.2.2.2]
  · have hpB : p ∈ B.flatten := List.mem_flatten.mpr ⟨L, hL, hp⟩
    have hsB : sc L p ∈ B.flatten := List.mem_flatten.mpr ⟨L, hL, sc_in hp (L_nd hB.1.1.1 hL)⟩
    obtain ⟨m1, m2⟩ := tB hpB
    obtain ⟨M, hM, hq⟩ := List.mem_flatten.mp m1
    have hsE : sc M (τ (g p.1), p.2) ∈ E.flatten := List.mem_flatten.mpr ⟨M, hM, sc_in hq (L_nd hE.1.1.1 hM)⟩
    have a1 := (hB.2 L hL p hp).1
    have a2 := (hE.2 M hM _ hq).1
    have a3 := (hR.2 M hM _ hq)
    have e0 : gl h (τ (g p.1), p.2) = gl g p := by
      show 2 * h (τ (g p.1)) + p.2 = 2 * g p.1 + p.2
      rw [m2]
    rw [e0, a1] at a2
    have a2 : 2 * g (sc L p).1 + (sc L p).2 = 2 * h (sc M (τ (g p.1), p.2)).1 + (sc M (τ (g p.1), p.2)).2 := a2
    have u1 := hu hsB
    have u2 := huE hsE
    have e1 : g (sc L p).1 = h (sc M (τ (g p.1), p.2)).1 := by omega
    have e2 : (sc L p).2 = (sc M (τ (g p.1), p.2)).2 := by omega
    have e3 : gl (fun x => k (τ (g x))) (sc L p) = gl k (sc M (τ (g p.1), p.2)) := by
      show 2 * k (τ (g (sc L p).1)) + (sc L p).2 = 2 * k (sc M (τ (g p.1), p.2)).1 + (sc M (τ (g p.1), p.2)).2
      rw [e1, tE hsE, e2]
    rw [e3]
    exact a3
/-- a net with the list's own numbers -/
theorem net_id (hV : isoV A sg f T) (ho : okF A.flatten T.1) (h6 : A.length ≤ 6) (hp : pm1 T) : ∃ R, isoV A sg idN R ∧ nv R ∧ pm1 R ∧ R.1 = T.1 := by
  have hc := hV.1.2.2.1
  have hvn := isoV_vn hV
  have fl : ∀ {x : Nat}, x < T.1 → f x < T.1 := fun {x} hx => hV.1.2.2.2.1 (x, 0) ((ho.2 _).mpr ⟨hx, by show 0 < 2; omega⟩)
  have fi : ∀ {x y : Nat}, x < T.1 → y < T.1 → f x = f y → x = y := fun {x y} hx hy e => hV.1.2.2.2.2.1 (x, 0) (y, 0) ((ho.2 _).mpr ⟨hx, by show 0 < 2; omega⟩) ((ho.2 _).mpr ⟨hy, by show 0 < 2; omega⟩) e
  have ex : ∀ y, ∃ x, y < T.1 → x < T.1 ∧ f x = y := fun y => by
    by_cases hy : y < T.1
    · obtain ⟨x, x1, x2⟩ := iso_vis hV hy (u := 0) (by omega)
      exact ⟨x, fun _ => ⟨((ho.2 _).mp x1).1, x2⟩⟩
    · exact ⟨0, fun h9 => absurd h9 hy⟩
  obtain ⟨τ, hτ⟩ := Classical.axiomOfChoice ex
  have tf : ∀ {x : Nat}, x < T.1 → τ (f x) = x := fun {x} hx => by
    obtain ⟨a1, a2⟩ := hτ (f x) (fl hx)
    exact fi a1 hx a2
  let cv : (Nat → Nat) → Nat → Nat := fun N q => if q < 2 * T.1 then 2 * τ (N (2 * f (q / 2) + q % 2) / 2) + N (2 * f (q / 2) + q % 2) % 2 else 0
  have cvp : ∀ {N : Nat → Nat} {p q : vT}, p ∈ A.flatten → q ∈ A.flatten → N (gl f p) = gl f q → cv N (gl idN p) = gl idN q := by
    intro N p q hpA hqA e
    have p1 := (ho.2 p).mp hpA
    have q1 := (ho.2 q).mp hqA
    have eN : gl idN p = 2 * p.1 + p.2 := rfl
    show (if gl idN p < 2 * T.1 then _ else _) = _
    rw [if_pos (by omega), eN, show (2 * p.1 + p.2) / 2 = p.1 by omega, show (2 * p.1 + p.2) % 2 = p.2 by omega]
    have e : N (2 * f p.1 + p.2) = 2 * f q.1 + q.2 := e
    rw [e, show (2 * f q.1 + q.2) / 2 = f q.1 by omega, show (2 * f q.1 + q.2) % 2 = q.2 by omega, tf q1.1]
    rfl
  let R : ow_NT := (T.1, T.2.1, (cv T.2.2.1.1, cv T.2.2.1.2), fun x => T.2.2.2 (f x))
  have hS : shP R.2.2.1 (gl idN) A := fun L hL p hp9 => by
    have hpA : p ∈ A.flatten := List.mem_flatten.mpr ⟨L, hL, hp9⟩
    have hsA : sc L p ∈ A.flatten := List.mem_flatten.mpr ⟨L, hL, sc_in hp9 (L_nd ho.1 hL)⟩
    obtain ⟨a1, a2⟩ := hV.2 L hL p hp9
    exact ⟨cvp hpA hsA a1, cvp hsA hpA a2⟩
  have hI : isoV A sg idN R := iso_mk (c := T.1) ho hc rfl (fun x hx => hx) (fun x y _ _ e => e) hS (fun x hx => hV.1.2.2.2.2.2.2.1 (x, 0) ((ho.2 _).mpr ⟨hx, by show 0 < 2; omega⟩)) hV.1.2.2.2.2.2.2.2
  have b24 : ∀ {N : Nat → Nat}, (∀ q, q < 2 * T.1 → N q < 2 * T.1) → ∀ q, cv N q < 24 := by
    intro N hN q
    show (if q < 2 * T.1 then _ else _) < 24
    by_cases hq : q < 2 * T.1
    · rw [if_pos hq]
      have h1 := fl (x := q / 2) (by omega)
      have h2 := hN (2 * f (q / 2) + q % 2) (by omega)
      have h3 := (hτ (N (2 * f (q / 2) + q % 2) / 2) (by omega)).1
      omega
    · rw [if_neg hq]
      omega
  have hvR := isoV_vn hI
  have hrg := iso_rge (isoS_iff.mp hI.1) hvR
  exact ⟨R, hI, ⟨hvR, hc, ⟨b24 (fun q hq => (hvn q hq).1), b24 (fun q hq => (hvn q hq).2.1)⟩, by omega⟩, fun x hx => hp _ (fl hx), rfl⟩
/-- every net has a code -/
theorem cp_ex (hT : nv T) : ∃ Cs os, cpZ T (np_parts T.1 T.2.2.1.1).2 Cs os := by
  let y : ow_MS := (fun g => if g = 4008 then nI T.1 else nI T.2.1, fun g v => if g = 4001 then nI (T.2.2.1.1 v) else if g = 4002 then nI (T.2.2.1.2 v) else if g = 4003 then T.2.2.2 v else 0, fun _ _ => 0)
  have hy : cAt y 4000 T := ⟨rfl, rfl, fun _ => rfl, fun _ => rfl, fun _ => rfl⟩
  have hb : ∀ g, g = 8001 ∨ g = 9001 ∨ g = 10001 → byR y g := fun g hg i => by
    rcases hg with rfl | rfl | rfl <;> rfl
  obtain ⟨r, -, ⟨Cs, os, h1, -⟩, -⟩ := tc_encode (vl := fun _ => 0) (k := 7000) (h := 4000) (Or.inl rfl) nH4 hy hT (hb 8001 (Or.inl rfl)) (hb 9001 (Or.inr (Or.inl rfl))) (hb 10001 (Or.inr (Or.inr rfl)))
  exact ⟨Cs, os, h1⟩
/-- nets that show one list have one code -/
theorem cd_same {Cs Ds : List cdT} {os qs : List Nat} (h1 : isoV A sg f T) (h2 : isoV A sg g T2) (h6 : A.length ≤ 6) (n1 : nv T) (n2 : nv T2) (z1 : cpZ T (np_parts T.1 T.2.2.1.1).2 Cs os) (z2 : cpZ T2 (np_parts T2.1 T2.2.2.1.1).2 Ds qs) : enC T Cs os = enC T2 Ds qs := by
  obtain ⟨m, P, hk⟩ := mk_ex A
  obtain ⟨A1, s1, a1, a2, a3, -⟩ := enc_pk (isoS_iff.mp h1.1) h6 n1 hk z1
  obtain ⟨A2, s2, b1, b2, b3, -⟩ := enc_pk (isoS_iff.mp h2.1) h6 n2 hk z2
  rw [a3, b3]
  exact (clC_tk a2 b2).mpr (a1.symm.trans b1)
end XNT
end
section
/-! 99zzzzzzzzzzzze.xway1 -/
/-! way: both sides ask for the same -/
def rvK (kd : Nat) : Nat := if kd = 0 then 1 else if kd = 1 then 0 else if kd = 2 then 3 else if kd = 3 then 2 else 4
section XW1
variable {A A' B E : rn_L} {sg sg' sgB sgE : Nat → Bool} {R RB T : ow_NT} {f : Nat → Nat} {kd c cE : Nat}
theorem tb_all (hk : kd < 5) (hR : isoV A sg idN R) (hO : OM A sg R.1 kd A' sg') (hV : isoV A' sg' f RB) (hp : pm1 RB) (hpl : nt_plane RB = true) (hA : plnA A sg) : tBk (rvK kd) A sg RB := by
  have hM : mM3 RB := m3_meet (isoV_vn hV) hV.1.2.2.1 hpl
  rcases (show kd = 0 ∨ kd = 1 ∨ kd = 2 ∨ kd = 3 ∨ kd = 4 by omega) with rfl | rfl | rfl | rfl | rfl
  · exact tb_01 hR hO hV
  · exact tb_10 (isoV_ok hR) hO hV
  · exact tb_23 hR hO hV hp hM hA
  · exact tb_32 (isoV_ok hR) hO hV hp
  · exact tb_44 hR hO hV hp
theorem rvK_5 (hk : kd < 5) : rvK kd < 5 := by
  rcases (show kd = 0 ∨ kd = 1 ∨ kd = 2 ∨ kd = 3 ∨ kd = 4 by omega) with rfl | rfl | rfl | rfl | rfl <;> decide
/-- the list is that of its own code -/
def nrm (A : rn_L) (sg : Nat → Bool) : Prop := ∃ T g Ds qs, nv T ∧ pm1 T ∧ isoV A sg g T ∧ cpZ T (np_parts T.1 T.2.2.1.1).2 Ds qs ∧ enC T Ds qs = clC sg A
/-- a code and a row of one list, which is that of its own code -/
def crN (C : cdT) (r : List Nat) : Prop := ∃ A sg c, okL A c ∧ C = clC sg A ∧ r = tk sg A ∧ A ≠ [] ∧ plnA A sg ∧ nrm A sg
theorem nx_iso (h : nxC A sg c R) (hpl : plnA A sg) : isoV A sg idN R ∧ pm1 R ∧ nt_plane R = true ∧ R.1 = c := by
  obtain ⟨k1, k2, k3, k4⟩ := h
  have hV : isoV A sg idN R := isoV_of k2 k3.1
  have hp : pm1 R := fun x hx => by
    rw [k4.2 x (by have := k4.1; omega)]
    cases sg x
    · exact Or.inl rfl
    · exact Or.inr rfl
  exact ⟨hV, hp, hpl _ _ hV hp, k4.1⟩
theorem jnN9 {F P : Nat → Int32} {Q : ow_NT} {j : Nat} {Ds : List cdT} {qs : List Nat} {r : List Nat} (hR : nv R) (hp : pm1 R) (hpl : nt_plane R = true) (h6 : A.length ≤ 6) (hne : A ≠ []) (hk : kd < 5) (hO : OM A sg R.1 kd A' sg') (hj : j < mv_cnt R.1 kd) (hmk : mv_mk kd R F P) (hQ : ow_b24 Q.2.2.1) (hB : mv_B kd j Q R F P = true) (hi : isoV A' sg' f (mv_T kd j Q R F P)) (hZ : cpZ (mv_T kd j Q R F P) (np_parts (mv_T kd j Q R F P).1 (mv_T kd j Q R F P).2.2.1.1).2 Ds qs) (hr : nfR A' sg' r) : crN (enC (mv_T kd j Q R F P) Ds qs) r := by
  obtain ⟨m, Pp, hmk9, rfl⟩ := hr
  have hl9 := OM_len hO
  have hnv := (mv_nv hR hk F P Q j hmk hQ hj).2 hB
  obtain ⟨A2, sg2, e1, e2, e3, e4, f', e5⟩ := enc_iso (isoS_iff.mp hi.1) (by omega) hnv hmk9 hZ
  have hpp := mv_pl hR hp hpl hk hQ hj hB
  refine ⟨A2, sg2, _, e2, e3, e1, fun e => ?_, plnA_of e5 hpp.2 hpp.1, _, f', Ds, qs, hnv, hpp.2, e5, hZ, e3⟩
  rw [e] at e4
  have : A.length ≠ 0 := fun e9 => hne (List.eq_nil_of_length_eq_zero e9)
  have e4 : 0 = _ := e4
  omega
/-- what stands near a code, on the class's side -/
def surC (A : rn_L) (sg : Nat → Bool) (c : Nat) (X : List cdT) : Prop := (∀ C, C ∈ X → ∃ kd R j, kd < 5 ∧ nxC A sg c R ∧ j < mv_cnt R.1 kd ∧ mvD kd R j C) ∧ ∀ kd, kd < 5 → ∃ R, nxC A sg c R ∧ ∀ j, j < mv_cnt R.1 kd → mvN kd R j ∨ ∃ C, mvD kd R j C ∧ C ∈ X
/-- and on the reference's -/
def nerR (A : rn_L) (sg : Nat → Bool) (c : Nat) (N : List (List Nat)) : Prop := (∀ r, r ∈ N → ∃ kd A' sg', kd < 5 ∧ OM A sg c kd A' sg' ∧ nfR A' sg' r) ∧ ∀ kd A' sg', kd < 5 → OM A sg c kd A' sg' → ∃ r, r ∈ N ∧ nfR A' sg' r
theorem w_rc {X : List cdT} {N : List (List Nat)} (hA : okL A c) (hne : A ≠ []) (hpl : plnA A sg) (hX : surC A sg c X) (hN : ∀ r, r ∈ N → ∃ kd A' sg', kd < 5 ∧ OM A sg c kd A' sg' ∧ nfR A' sg' r) : ∀ r, r ∈ N → ∃ C, C ∈ X ∧ crN C r := by
  intro r hr
  obtain ⟨kd, A', sg', hk, hO, hn⟩ := hN r hr
  obtain ⟨R, hR, hall⟩ := hX.2 kd hk
  obtain ⟨hV, hp, hpn, ec⟩ := nx_iso hR hpl
  have mb := mb_all hV hp hA.2.2.2.2 hpn hk
  rw [← ec] at hO
  obtain ⟨j, hj, hj2⟩ := mb.2 A' sg' hO
  rcases hall j hj with ⟨F, P, Q, d1, d2, d3⟩ | ⟨C, hD, hCX⟩
  · have := (hj2 F P Q d1 d2).1
    rw [d3] at this
    cases this
  · obtain ⟨F, P, Q, Ds, qs, d1, d2, d3, d4, rfl⟩ := hD
    obtain ⟨-, f, hf⟩ := hj2 F P Q d1 d2
    exact ⟨_, hCX, jnN9 hR.2.2.1 hp hpn hA.2.2.2.2 hne hk hO hj d1 d2 d3 hf d4 hn⟩
theorem w_cr {X : List cdT} {N : List (List Nat)} (hA : okL A c) (hne : A ≠ []) (hpl : plnA A sg) (hX : surC A sg c X) (hN : nerR A sg c N) : ∀ C, C ∈ X → ∃ r, r ∈ N ∧ crN C r := by
  intro C hC
  obtain ⟨kd, R, j, hk, hR, hj, F, P, Q, Ds, qs, d1, d2, d3, d4, rfl⟩ := hX.1 C hC
  obtain ⟨hV, hp, hpn, ec⟩ := nx_iso hR hpl
  have mb := mb_all hV hp hA.2.2.2.2 hpn hk
  obtain ⟨A', sg', hO, hall⟩ := mb.1 j hj ⟨F, P, Q, d1, d2, d3⟩
  obtain ⟨-, f, hf⟩ := hall F P Q d1 d2
  obtain ⟨r, r1, r2⟩ := hN.2 kd A' sg' hk (by rw [← ec]; exact hO)
  exact ⟨r, r1, jnN9 hR.2.2.1 hp hpn hA.2.2.2.2 hne hk hO hj d1 d2 d3 hf d4 r2⟩
theorem mk9 (kd : Nat) (R : ow_NT) : mv_mk kd R (np_faces R.1 R.2.2.1 R.2.2.2).1 (np_parts R.1 R.2.2.1.1).1 := fun _ => ⟨fun _ _ => rfl, fun _ _ => rfl⟩
/-- a row of a normal list, and the list of which it is the normal form, show one net -/
theorem nf_show (hV : isoV A' sg' f T) (h6 : A'.length ≤ 6) (hT : nv T) (hE : okL E cE) (hn : nfR A' sg' (tk sgE E)) : ∃ f', isoV E sgE f' T := by
  obtain ⟨m, P, hk, e⟩ := hn
  obtain ⟨Cs, os, hZ⟩ := cp_ex hT
  obtain ⟨A2, sg2, e1, e2, -, -, f', e5⟩ := enc_iso (isoS_iff.mp hV.1) h6 hT hk hZ
  obtain ⟨q1, q2⟩ := tk_inj E A2 (okL_u hE) (okL_u e2) (e.trans e1)
  subst q1
  exact ⟨f', isoV_sg e5 q2⟩
def kdm (a b kd : Nat) : Prop := kd = 0 ∧ a + 1 = b ∨ kd = 1 ∧ a = b + 1 ∨ kd = 2 ∧ a + 2 = b ∨ kd = 3 ∧ a = b + 2 ∨ kd = 4 ∧ a = b
theorem mvT_1 {F P : Nat → Int32} {Q : ow_NT} {j : Nat} (hk : kd < 5) (hj : j < mv_cnt R.1 kd) (hB : mv_B kd j Q R F P = true) : kdm (mv_T kd j Q R F P).1 R.1 kd := by
  rcases (show kd = 0 ∨ kd = 1 ∨ kd = 2 ∨ kd = 3 ∨ kd = 4 by omega) with rfl | rfl | rfl | rfl | rfl
  · have hj : j < R.1 := hj
    have hB : mv_bs R.2.2.1.1 (2 * j) (2 * j + 1) = true := hB
    have e : (mv_T 0 j Q R F P).1 = R.1 - 1 := by
      show (mv_t0 Q R j).1 = _
      unfold mv_t0
      rw [if_pos hB]
      rfl
    exact Or.inl ⟨rfl, by omega⟩
  · have hB : mv_b1 R (j / 4) = true := hB
    have e : (mv_T 1 j Q R F P).1 = R.1 + 1 := by
      show (mv_t1 Q R (j / 4) (j % 4)).1 = _
      unfold mv_t1
      rw [if_pos hB, nt_pair_c]
      rfl
    exact Or.inr (Or.inl ⟨rfl, e⟩)
  · have hj : j < R.1 * R.1 := hj
    have hB : mv_b2 R (j / R.1) (j % R.1) = true := hB
    have hc : 0 < R.1 := by
      rcases Nat.eq_zero_or_pos R.1 with e | e
      · rw [e] at hj
        omega
      · exact e
    have h1 : j / R.1 < R.1 := Nat.div_lt_of_lt_mul hj
    have h2 : j % R.1 < j / R.1 := by
      unfold mv_b2 at hB
      exact of_decide_eq_true (Bool.and_eq_true_iff.mp hB).1
    have e : (mv_T 2 j Q R F P).1 = R.1 - 1 - 1 := by
      show (mv_t2 Q R (j / R.1) (j % R.1)).1 = _
      unfold mv_t2
      rw [if_pos hB]
      rfl
    exact Or.inr (Or.inr (Or.inl ⟨rfl, by omega⟩))
  · have hB : (mv_b3 R F P (j / 4 / (2 * R.1 + 2)) (j / 4 % (2 * R.1 + 2)) && nt_plane (mv_t3b Q R (j / 4 / (2 * R.1 + 2)) (j / 4 % (2 * R.1 + 2)) (j % 4))) = true := hB
    have e : (mv_T 3 j Q R F P).1 = R.1 + 2 := by
      show (mv_t3 Q R F P (j / 4 / (2 * R.1 + 2)) (j / 4 % (2 * R.1 + 2)) (j % 4)).1 = _
      unfold mv_t3
      rw [if_pos (Bool.and_eq_true_iff.mp hB).1, t3b_1]
    exact Or.inr (Or.inr (Or.inr (Or.inl ⟨rfl, e⟩)))
  · have hB : mv_b4 R j = true := hB
    have e : (mv_T 4 j Q R F P).1 = R.1 := by
      show (mv_t4 Q R j).1 = _
      unfold mv_t4
      rw [if_pos hB]
      rfl
    exact Or.inr (Or.inr (Or.inr (Or.inr ⟨rfl, e⟩)))
theorem way_fw {X XE : List cdT} {N : List (List Nat)} (hA : okL A c) (hne : A ≠ []) (hpl : plnA A sg) (hX : surC A sg c X) (hN : nerR A sg c N) (hE : okL E cE) (hEp : plnA E sgE) (hXE : surC E sgE cE XE) (h : ∃ r B sgB cB kd B' sg', r ∈ N ∧ nxR r B sgB cB ∧ kd < 5 ∧ OM B sgB cB kd B' sg' ∧ nfR B' sg' (tk sgE E)) : ∃ C, C ∈ X ∧ C ∈ XE := by
  obtain ⟨r, B, sgB, cB, kd, B', sg', hr, ⟨n1, n2, n3, n4⟩, hk, hO, hnf⟩ := h
  obtain ⟨C, hC, B2, sB, c2, o1, o2, o3, o4, o5, T2, g2, Ds2, qs2, t1, t2, t3, t4, t5⟩ := w_rc hA hne hpl hX hN.1 r hr
  obtain ⟨q1, q2⟩ := tk_inj B2 B (okL_u o1) (fun p hp => ((n2.2 p).mp hp).2) (o3.symm.trans n1)
  subst q1
  have t3' : isoV B2 sgB g2 T2 := isoV_sg t3 (fun p hp => (q2 p hp).symm)
  have l1 := okF_len n2
  have l2 := t3.1.2.1
  have ecB : cB = T2.1 := by omega
  subst ecB
  obtain ⟨RB, i1, i2, i3, i4⟩ := net_id t3' n2 n4 t2
  have hplB : plnA B2 sgB := fun f9 T9 h9 hp9 => o5 f9 T9 (isoV_sg h9 q2) hp9
  have hpnB : nt_plane RB = true := hplB _ _ i1 i3
  have mb := mb_all i1 i3 n4 hpnB hk
  have hO9 := hO
  rw [← i4] at hO
  obtain ⟨j, hj, hall⟩ := mb.2 B' sg' hO
  obtain ⟨b1, f1, b2⟩ := hall _ _ RB (mk9 kd RB) i2.2.2.1
  have nT3 := (mv_nv i2 hk _ _ RB j (mk9 kd RB) i2.2.2.1 hj).2 b1
  have l3 := OM_len hO
  obtain ⟨f3, b3⟩ := nf_show b2 (by omega) nT3 hE hnf
  obtain ⟨RE, hRE, hallE⟩ := hXE.2 (rvK kd) (rvK_5 hk)
  obtain ⟨v1, v2, v3, v4⟩ := nx_iso hRE hEp
  obtain ⟨f4, b4⟩ := iso_tr b2 b3 v1
  obtain ⟨j', hj', hall'⟩ := tb_all hk i1 hO b4 v2 v3 hplB
  rcases hallE j' hj' with ⟨F, P, Q, d1, d2, d3⟩ | ⟨C', ⟨F, P, Q, Ds, qs, d1, d2, d3, d4, rfl⟩, hCX⟩
  · have := (hall' F P Q d1 d2).1
    rw [d3] at this
    cases this
  · obtain ⟨w1, f5, w2⟩ := hall' F P Q d1 d2
    have nT5 := (mv_nv hRE.2.2.1 (rvK_5 hk) F P Q j' d1 d2 hj').2 w1
    refine ⟨C, hC, ?_⟩
    rw [o2, ← t5, cd_same t3' w2 n4 t1 nT5 t4 d4]
    exact hCX
theorem way_bw {X XE : List cdT} {N : List (List Nat)} (hA : okL A c) (hne : A ≠ []) (hpl : plnA A sg) (hX : surC A sg c X) (hN : nerR A sg c N) (hE : okL E cE) (hEp : plnA E sgE) (hEm : nrm E sgE) (hXE : surC E sgE cE XE) (h : ∃ C, C ∈ X ∧ C ∈ XE) : ∃ r, r ∈ N ∧ ∀ B sgB cB, nxR r B sgB cB → ∃ kd B' sg', kdm cE cB kd ∧ OM B sgB cB kd B' sg' ∧ ∀ r', nfR B' sg' r' → r' = tk sgE E := by
  obtain ⟨C, hC, hCE⟩ := h
  obtain ⟨r, hr, B, sB, cB, o1, o2, o3, o4, o5, T2, g2, Ds2, qs2, t1, t2, t3, t4, t5⟩ := w_cr hA hne hpl hX hN C hC
  refine ⟨r, hr, ?_⟩
  rintro B9 sgB cB9 ⟨n1, n2, n3, n4⟩
  obtain ⟨p1, p2⟩ := tk_inj B B9 (okL_u o1) (fun p hp => ((n2.2 p).mp hp).2) (o3.symm.trans n1)
  subst p1
  have t3' : isoV B sgB g2 T2 := isoV_sg t3 (fun p hp => (p2 p hp).symm)
  have hplB : plnA B sgB := fun f9 T9 h9 hp9 => o5 f9 T9 (isoV_sg h9 p2) hp9
  obtain ⟨kd, RE, j, hk, hRE, hj, F, P, Q, Ds, qs, d1, d2, d3, d4, e9⟩ := hXE.1 C hCE
  obtain ⟨v1, v2, v3, v4⟩ := nx_iso hRE hEp
  have mbE := mb_all v1 v2 hE.2.2.2.2 v3 hk
  obtain ⟨E', sg', hO, hall⟩ := mbE.1 j hj ⟨F, P, Q, d1, d2, d3⟩
  obtain ⟨-, f1, b1⟩ := hall F P Q d1 d2
  have nT5 := (mv_nv hRE.2.2.1 hk F P Q j d1 d2 hj).2 d3
  have l3 := OM_len hO
  obtain ⟨m, Pp, hmk⟩ := mk_ex E'
  obtain ⟨A2, sg2, e1, e2, e3, -, f2, e5⟩ := enc_iso (isoS_iff.mp b1.1) (by have := hE.2.2.2.2; omega) nT5 hmk d4
  obtain ⟨q1, q2, q3⟩ := clC_inj e2 o1 (e3.symm.trans (e9.symm.trans o2))
  subst q1
  have b2 : isoV A2 sgB f2 (mv_T kd j Q RE F P) := isoV_sg e5 (fun p hp => by rw [← p2 p hp, q3 p.1 ((e2.1.2 p).mp hp).1])
  have l1 := okF_len n2
  have l2 := t3.1.2.1
  have ecB : cB9 = T2.1 := by omega
  subst ecB
  obtain ⟨RB, i1, i2, i3, i4⟩ := net_id t3' n2 n4 t2
  have hpnB : nt_plane RB = true := hplB _ _ i1 i3
  obtain ⟨f4, b4⟩ := iso_tr b1 b2 i1
  obtain ⟨j', hj', hall'⟩ := tb_all hk v1 hO b4 i3 hpnB hEp
  obtain ⟨w1, f5, w2⟩ := hall' _ _ RB (mk9 (rvK kd) RB) i2.2.2.1
  have mbB := mb_all i1 i3 n4 hpnB (rvK_5 hk)
  obtain ⟨B', sg9, hO2, hall2⟩ := mbB.1 j' hj' ⟨_, _, RB, mk9 (rvK kd) RB, i2.2.2.1, w1⟩
  obtain ⟨-, f6, w3⟩ := hall2 _ _ RB (mk9 (rvK kd) RB) i2.2.2.1
  have nT6 := (mv_nv i2 (rvK_5 hk) _ _ RB j' (mk9 (rvK kd) RB) i2.2.2.1 hj').2 w1
  obtain ⟨Ds6, qs6, z6⟩ := cp_ex nT6
  have l4 := OM_len hO2
  obtain ⟨TE, gE, DE, qE, x1, x2, x3, x4, x5⟩ := hEm
  have eC := cd_same x3 w2 hE.2.2.2.2 x1 nT6 x4 z6
  have fin : ∀ r', nfR B' sg9 r' → r' = tk sgE E := by
    rintro r' ⟨m9, P9, hk9, e8⟩
    obtain ⟨A9, s9, a1, a2, a3, -⟩ := enc_pk (isoS_iff.mp w3.1) (by omega) nT6 hk9 z6
    have eD := eC
    rw [x5, a3] at eD
    exact e8.trans (a1.trans ((clC_tk hE a2).mp eD).symm)
  have cnt := mvT_1 (rvK_5 hk) hj' w1
  have l5 := w2.1.2.1
  have l6 := okF_len hE.1
  rw [show (mv_T (rvK kd) j' RB RB (np_faces RB.1 RB.2.2.1 RB.2.2.2).1 (np_parts RB.1 RB.2.2.1.1).1).1 = cE by omega, i4] at cnt
  exact ⟨rvK kd, B', sg9, cnt, by rw [← i4]; exact hO2, fin⟩
/-- one move: the code stands there if and only if the row does -/
theorem way_one {X : List cdT} {N : List (List Nat)} (hA : okL A c) (hne : A ≠ []) (hpl : plnA A sg) (hX : surC A sg c X) (hN : nerR A sg c N) (hE : okL E cE) : tk sgE E ∈ N ↔ clC sgE E ∈ X := by
  constructor
  · intro h
    obtain ⟨C, hC, B, sB, c2, o1, o2, o3, -⟩ := w_rc hA hne hpl hX hN.1 _ h
    rw [(clC_tk hE o1).mpr o3, ← o2]
    exact hC
  · intro h
    obtain ⟨r, hr, B, sB, c2, o1, o2, o3, -⟩ := w_cr hA hne hpl hX hN _ h
    rw [(clC_tk hE o1).mp o2, ← o3]
    exact hr
end XW1
end
section
/-! 99zzzzzzzzzzzzf.xway2 -/
/-! the reference's way, exactly -/
def fB2 (g : Nat) : Prop := 2 ≤ g ∧ g ≤ 9 ∨ g = 23 ∨ g = 24 ∨ g = 27 ∨ g = 29 ∨ 31 ≤ g ∧ g ≤ 34 ∨ 1000 ≤ g
def snk2 (X : (Nat → Nat → Int32) → Prop) (z0 z : ow_MS) (S : List Nat → Prop) (n : Nat) : Prop := gI X z ∧ z.1 30 = nI 2 ∧ fr fB2 z0 z ∧ ∃ Ls, z.1 24 = nI Ls.length ∧ rwS 23 z Ls ∧ Ls.length ≤ 1000 ∧ (∀ r, r ∈ Ls → S r) ∧ (Ls.length < 1000 → ∀ r, S r → r ∈ Ls)
theorem snk2_ok {X : (Nat → Nat → Int32) → Prop} {z0 : ow_MS} : snkF (snk2 X z0) := by
  refine ⟨fun P z z1 S n hf hP h => ?_, fun z S n A sg hn h hA hG hF h24 h6 => ?_, fun z S n n' hn h => h⟩
  · obtain ⟨h1, h2, h3, Ls, h4, h5, h6⟩ := h
    refine ⟨gI_fr hf (fun g hg => by have := hP g hg; unfold per; omega) h1, by rw [(hf 30 (fun h9 => by have := hP _ h9; omega)).1]; exact h2, fr_tr h3 (fr_mono (fun g hg => by have := hP g hg; unfold fB2; omega) hf), Ls, by rw [(hf 24 (fun h9 => by have := hP _ h9; omega)).1]; exact h4, rwS_fr hf (fun h9 => by have := hP _ h9; omega) h5, h6⟩
  · obtain ⟨h1, h2, h3, Ls, h4, h5, h7, h9, h10⟩ := h
    refine e_X13_offer ?_; unfold qm_X13_offer_0
    refine w_cs0 (tr_pack (o := 0) pn3 (by omega) ml27 (by omega) (by omega) (by omega) (by omega) hF hA hG) (fun z1 ⟨m, P, g1, g2, g3, g4, _, _⟩ => ?_)
    have i1 : gI X z1 := gI_fr g3 (fun g hg => by unfold frQ at hg; unfold per; omega) h1
    have i2 : z1.1 30 = nI 2 := by rw [(g3 30 (by unfold frQ; omega)).1]; exact h2
    have i3 : rwS 23 z1 Ls := rwS_fr g3 (by unfold frQ; omega) h5
    have i4 : z1.1 24 = nI Ls.length := by rw [(g3 24 (by unfold frQ; omega)).1]; exact h4
    have f1 : fr fB2 z z1 := fr_mono (fun g hg => by unfold frQ at hg; unfold fB2; omega) g3
    refine w_rdF i2 (w_ifF (by decide) (w_ifF (by decide) (w_ifF (by decide) (w_ifT (by decide) (w_rdF i4 (w_cs1 (xm_offerRow (M := 1000) ml23 (by omega) (by omega) h7 (by omega) g2 (dRow_pack hF g1 h24 h6 g2) i3) (fun a z2 ⟨Ls', k1, k2, k3, k4, k5⟩ => w_wrF (w_some ?_))))))))
    have k1 : a = nI Ls'.length := k1
    have f2 : fr (fun g => g = 23 ∨ g = 24) z1 (usF z2 24 a) := fr_F2 (fr_mono (fun g hg => Or.inl hg) k2) (Or.inr rfl)
    refine ⟨⟨fun r => r = pkR A sg m P ∨ S r, ⟨fun r hr => Or.inr hr, fun r hr => ?_, fun A' sg' ⟨e1, e2⟩ => ?_⟩, gI_fr f2 (fun g hg => by unfold per; omega) i1, by rw [(f2 30 (by omega)).1]; exact i2, fr_tr h3 (fr_tr f1 (fr_mono (fun g hg => by unfold fB2; omega) f2)), Ls', by rw [po_usF_at, k1], rwS_fr (P := fun g => g = 24) (fr_F rfl) (by decide) k3, k4, fun r hr => ?_, fun hlt r hr => ?_⟩, ?_⟩
    · rcases hr with hr | hr
      · exact Or.inr ⟨A, sg, ⟨rfl, rfl⟩, m, P, g1, hr⟩
      · exact Or.inl hr
    · rw [e1, e2]
      exact ⟨_, Or.inl rfl, m, P, g1, rfl⟩
    · rcases k5 with ⟨e, -⟩ | ⟨-, e⟩
      · rw [e] at hr
        exact Or.inr (h9 r hr)
      · rw [e] at hr
        rcases List.mem_append.mp hr with hr | hr
        · exact Or.inr (h9 r hr)
        · exact Or.inl (List.mem_singleton.mp hr)
    · rcases k5 with ⟨e, hm⟩ | ⟨-, e⟩
      · rw [e] at hlt ⊢
        rcases hr with hr | hr
        · rcases hm with hm | hm
          · rw [hr]
            exact hm
          · omega
        · exact h10 hlt r hr
      · rw [e] at hlt ⊢
        rw [List.length_append] at hlt
        rcases hr with hr | hr
        · rw [hr]
          exact List.mem_append_right _ (List.mem_singleton.mpr rfl)
        · exact List.mem_append_left _ (h10 (by omega) r hr)
    · exact fr_tr (fr_mono (fun g hg => by unfold frQ at hg; unfold frO; omega) g3) (fr_mono (fun g hg => Or.inl (by omega)) f2)
/-- offers that are only looked at -/
def snk1 (X : (Nat → Nat → Int32) → Prop) (z0 : ow_MS) (T0 : List Nat) (z : ow_MS) (S : List Nat → Prop) (n : Nat) : Prop := gI X z ∧ z.1 30 = nI 1 ∧ fr (fun g => fB2 g ∧ g ≠ 23 ∧ g ≠ 24) z0 z ∧ rc_At z 28 0 T0 ∧ (z.1 29 = 1 ∧ S T0 ∨ z.1 29 = 0 ∧ ¬ S T0)
theorem snk1_ok {X : (Nat → Nat → Int32) → Prop} {z0 : ow_MS} {T0 : List Nat} : snkF (snk1 X z0 T0) := by
  refine ⟨fun P z z1 S n hf hP h => ?_, fun z S n A sg hn h hA hG hF h24 h6 => ?_, fun z S n n' hn h => h⟩
  · obtain ⟨h1, h2, h3, h4, h5⟩ := h
    refine ⟨gI_fr hf (fun g hg => by have := hP g hg; unfold per; omega) h1, by rw [(hf 30 (fun h9 => by have := hP _ h9; omega)).1]; exact h2, fr_tr h3 (fr_mono (fun g hg => by have := hP g hg; unfold fB2; omega) hf), rc_fr hf (fun h9 => by have := hP _ h9; omega) h4, ?_⟩
    rw [(hf 29 (fun h9 => by have := hP _ h9; omega)).1]
    exact h5
  · obtain ⟨h1, h2, h3, h4, h5⟩ := h
    have hT := h4.1
    refine e_X13_offer ?_; unfold qm_X13_offer_0
    refine w_cs0 (tr_pack (o := 0) pn3 (by omega) ml27 (by omega) (by omega) (by omega) (by omega) hF hA hG) (fun z1 ⟨m, P, g1, g2, g3, g4, _, _⟩ => ?_)
    have i1 : gI X z1 := gI_fr g3 (fun g hg => by unfold frQ at hg; unfold per; omega) h1
    have i2 : z1.1 30 = nI 1 := by rw [(g3 30 (by unfold frQ; omega)).1]; exact h2
    have i3 : rc_At z1 28 0 T0 := rc_fr g3 (by unfold frQ; omega) h4
    have i4 : z1.1 29 = z.1 29 := (g3 29 (by unfold frQ; omega)).1
    have hl := g2.1
    have f1 : fr (fun g => fB2 g ∧ g ≠ 23 ∧ g ≠ 24) z z1 := fr_mono (fun g hg => by unfold frQ at hg; unfold fB2; omega) g3
    refine w_rdF i2 (w_ifF (by decide) (w_ifF (by decide) (w_ifT (by decide) (w_rdF i4 (w_cs1 (tr_same (o := 0) (p := 0) ml27 ml28 (by omega) (by omega) (by omega) (by omega) g2 i3) (fun a z2 ea => ?_))))))
    cases ea
    have hv : z.1 29 ||| bZ (decide (pkR A sg m P = T0)) = 1 ∧ (pkR A sg m P = T0 ∨ S T0) ∨ z.1 29 ||| bZ (decide (pkR A sg m P = T0)) = 0 ∧ ¬ (pkR A sg m P = T0 ∨ S T0) := by
      by_cases e : pkR A sg m P = T0
      · refine Or.inl ⟨?_, Or.inl e⟩
        rw [decide_eq_true e]
        rcases h5 with ⟨h5, -⟩ | ⟨h5, -⟩ <;> rw [h5] <;> decide
      · rw [decide_eq_false e]
        rcases h5 with ⟨h5, h6⟩ | ⟨h5, h6⟩ <;> rw [h5]
        · exact Or.inl ⟨by decide, Or.inr h6⟩
        · exact Or.inr ⟨by decide, fun h9 => h9.elim e h6⟩
    refine w_okZ (by rcases hv with ⟨hv, -⟩ | ⟨hv, -⟩ <;> rw [hv] <;> simp) (w_wrF (w_some ?_))
    have f2 : fr (fun g => g = 29) z1 (usF z1 29 (z.1 29 ||| bZ (decide (pkR A sg m P = T0)))) := fr_F rfl
    refine ⟨⟨fun r => pkR A sg m P = r ∨ S r, ⟨fun r hr => Or.inr hr, fun r hr => ?_, fun A' sg' ⟨e1, e2⟩ => ?_⟩, gI_fr f2 (fun g hg => by unfold per; omega) i1, by rw [(f2 30 (by omega)).1]; exact i2, fr_tr h3 (fr_tr f1 (fr_mono (fun g hg => by unfold fB2; omega) f2)), rc_fr f2 (by decide) i3, ?_⟩, ?_⟩
    · rcases hr with hr | hr
      · exact Or.inr ⟨A, sg, ⟨rfl, rfl⟩, m, P, g1, hr.symm⟩
      · exact Or.inl hr
    · rw [e1, e2]
      exact ⟨_, Or.inl rfl, m, P, g1, rfl⟩
    · rw [po_usF_at]
      exact hv
    · exact fr_tr (fr_mono (fun g hg => by unfold frQ at hg; unfold frO; omega) g3) (fr_mono (fun g hg => Or.inl (by omega)) f2)
end
section
/-! 99zzzzzzzzzzzzg.xway3 -/
/-! the reference's way: its answer -/
def wyZ (g : Nat) : Prop := g = 1 ∨ g = 28 ∨ g = 30 ∨ fB2 g
def way9 (A : rn_L) (sg : Nat → Bool) (E : rn_L) (sgE : Nat → Bool) (v : Int32) : Prop := v = 0 ∧ tk sg A = tk sgE E ∨ tk sg A ≠ tk sgE E ∧ ∃ (N : List (List Nat)) (c : Nat), okF A.flatten c ∧ N.Nodup ∧ (∀ r, r ∈ N → ∃ kd A' sg', kd < 5 ∧ OM A sg c kd A' sg' ∧ nfR A' sg' r) ∧ (N.length < 1000 → ∀ kd A' sg', kd < 5 → OM A sg c kd A' sg' → ∃ r, r ∈ N ∧ nfR A' sg' r) ∧ (v = 1 ∧ tk sgE E ∈ N ∨ tk sgE E ∉ N ∧ (v = 2 ∧ (∃ r B sgB cB kd B' sg', r ∈ N ∧ nxR r B sgB cB ∧ kd < 5 ∧ OM B sgB cB kd B' sg' ∧ nfR B' sg' (tk sgE E)) ∨ v = -1 ∧ ∀ r, r ∈ N → ∃ B sgB cB, nxR r B sgB cB ∧ ∀ kd B' sg', kdm (E.flatten.length / 2) cB kd → OM B sgB cB kd B' sg' → ∃ r', nfR B' sg' r' ∧ r' ≠ tk sgE E))
section XW3
variable {X : (Nat → Nat → Int32) → Prop} {z : ow_MS} {St : plT} {x x' : Int32}
theorem nx_uni {r : List Nat} {A : rn_L} {sg : Nat → Bool} {c : Nat} (h : nxR r A sg c) : vOf r = 2 * c := by
  rw [h.1, vOf_tk, okF_len h.2.1]
theorem xq_way (h : gI X z) (hR : relR z St) : Te (fun K => qe_X13_way K x x' z) (fun r => (rFl X z 1 r ∧ ((∀ d, d < 40 → x = nI d → St d = none) ∨ ∀ d, d < 40 → x' = nI d → St d = none)) ∨ ∃ d A sg e E sgE, d < 40 ∧ x = nI d ∧ St d = some (A, sg) ∧ e < 40 ∧ x' = nI e ∧ St e = some (E, sgE) ∧ (rFl X z 2 r ∧ (8 < A.flatten.length ∨ 8 < E.flatten.length) ∨ A.flatten.length ≤ 8 ∧ E.flatten.length ≤ 8 ∧ gI X r.2 ∧ r.2.1 1 = 0 ∧ fr wyZ z r.2 ∧ way9 A sg E sgE r.1)) := by
  let Q : Int32 × ow_MS → Prop := fun r => (rFl X z 1 r ∧ ((∀ d, d < 40 → x = nI d → St d = none) ∨ ∀ d, d < 40 → x' = nI d → St d = none)) ∨ ∃ d A sg e E sgE, d < 40 ∧ x = nI d ∧ St d = some (A, sg) ∧ e < 40 ∧ x' = nI e ∧ St e = some (E, sgE) ∧ (rFl X z 2 r ∧ (8 < A.flatten.length ∨ 8 < E.flatten.length) ∨ A.flatten.length ≤ 8 ∧ E.flatten.length ≤ 8 ∧ gI X r.2 ∧ r.2.1 1 = 0 ∧ fr wyZ z r.2 ∧ way9 A sg E sgE r.1)
  have h1 := gI_1 (c := 0) h
  have hR1 := relR_1 (c := 0) hR
  have c1 : ((∀ d, d < 40 → x = nI d → St d = none) ∨ ∀ d, d < 40 → x' = nI d → St d = none) → Tt (fun K k => q_X13_way K k 1 x x' 0 0 0 0 0 (usF z 1 0)) Q := by
    intro h0
    refine u_X13_way_1 ?_; unfold qm_X13_way_1
    exact w_mono (w_failX (k := 1) h1 fr_1) (fun r hr => Or.inl ⟨hr, h0⟩)
  refine e_X13_way ?_
  refine u_X13_way_0 ?_; unfold qm_X13_way_0
  refine w_wrF (w_hasX hR1 (fun h0 => w_ifT rfl (c1 (Or.inl h0))) (fun d9 A sg hd9 hx hSt hv hne => w_ifF (by decide) (w_hasX hR1 (fun h0 => w_ifT rfl (c1 (Or.inr h0))) (fun e9 E sg2 he9 hy hSe hw hne2 => w_ifF (by decide) ?_))))
  subst hx
  subst hy
  have c2 : (8 < A.flatten.length ∨ 8 < E.flatten.length) → Tt (fun K k => q_X13_way K k 2 (nI d9) (nI e9) 0 0 0 0 0 (usF z 1 0)) Q := by
    intro h0
    refine u_X13_way_2 ?_; unfold qm_X13_way_2
    exact w_mono (w_failX (k := 2) h1 fr_1) (fun r hr => Or.inr ⟨d9, A, sg, e9, E, sg2, hd9, rfl, hSt, he9, rfl, hSe, Or.inl ⟨hr, h0⟩⟩)
  have l1 := hv.1.1
  have l2 := hw.1.1
  have v1 := vOf_le (tk sg A)
  have v2 := vOf_le (tk sg2 E)
  have va : vOf (tk sg A) = A.flatten.length := vOf_tk A
  have vb : vOf (tk sg2 E) = E.flatten.length := vOf_tk E
  rw [show (32 : Int32) * nI d9 = nI (32 * d9) from pk_mul 32 d9, show (32 : Int32) * nI e9 = nI (32 * e9) from pk_mul 32 e9]
  refine w_cs1 (tr_visits ml12 (by omega) (by omega) hv.1) (fun a y ea => ?_)
  cases ea
  rw [va]
  refine w_lt (a := 8) (by omega) (by omega) (fun h9 => c2 (Or.inl h9)) (fun hA8 => w_cs1 (tr_visits ml12 (by omega) (by omega) hw.1) (fun a y ea => ?_))
  cases ea
  rw [vb]
  refine w_le (b := 8) (by omega) (by omega) (fun hE8 => ?_) (fun h9 => c2 (Or.inr (by omega)))
  have hA8 : A.flatten.length ≤ 8 := by omega
  refine w_cs1 (xq_alike h1 hR1) (fun a y ⟨⟨ia, ie, ifr⟩, hal⟩ => ?_)
  have ia : gI X y := ia
  have ie : y.1 1 = 0 := ie
  have ifr : fr rPs (usF z 1 0) y := ifr
  have hfy : fr wyZ z y := fr_tr (fr_F (Or.inl rfl)) (fr_mono (fun g hg => by unfold rPs rSc at hg; unfold wyZ fB2; omega) ifr)
  have fin : ∀ {v : Int32} {y1 : ow_MS}, gI X y1 → y1.1 1 = 0 → fr wyZ z y1 → way9 A sg E sg2 v → Q (v, y1) := fun q1 q2 q3 q4 => Or.inr ⟨d9, A, sg, e9, E, sg2, hd9, rfl, hSt, he9, rfl, hSe, Or.inr ⟨hA8, hE8, q1, q2, q3, q4⟩⟩
  have alq : alG St (nI d9) (nI e9) ↔ tk sg A = tk sg2 E := by
    constructor
    · rintro ⟨d, A1, s1, e, B1, s2, k1, k2, k3, k4, k5, k6, k7⟩
      have ed := nI_inj9 (a := d9) (b := d) (by omega) (by omega) k2
      have ee := nI_inj9 (a := e9) (b := e) (by omega) (by omega) k5
      subst ed
      subst ee
      rw [hSt] at k3
      rw [hSe] at k6
      cases k3
      cases k6
      exact k7
    · intro e
      exact ⟨d9, A, sg, e9, E, sg2, hd9, rfl, hSt, he9, rfl, hSe, e⟩
  have hal : a = 1 ∧ alG St (nI d9) (nI e9) ∨ a = 0 ∧ ¬ alG St (nI d9) (nI e9) := hal
  refine w_if (fun h0 => ?_) (fun h0 => ?_)
  rotate_left
  · rcases hal with ⟨-, q⟩ | ⟨q, -⟩
    · exact w_some (fin ia ie hfy (Or.inl ⟨rfl, alq.mp q⟩))
    · exact absurd q h0
  have hneq : tk sg A ≠ tk sg2 E := by
    rcases hal with ⟨q, -⟩ | ⟨-, q⟩
    · rw [q] at h0
      exact absurd h0 (by decide)
    · exact fun e => q (alq.mpr e)
  have e12y : y.2.1 12 = (usF z 1 0).2.1 12 := (ifr 12 (by unfold rPs rSc; omega)).2.1
  have hvy : vRow y 12 (32 * d9) A sg := ⟨⟨hv.1.1, hv.1.2.1, by rw [e12y]; exact hv.1.2.2.1, fun k t hk => by rw [e12y]; exact hv.1.2.2.2 k t hk⟩, hv.2⟩
  have hwy : vRow y 12 (32 * e9) E sg2 := ⟨⟨hw.1.1, hw.1.2.1, by rw [e12y]; exact hw.1.2.2.1, fun k t hk => by rw [e12y]; exact hw.1.2.2.2 k t hk⟩, hw.2⟩
  obtain ⟨c, hcA, hc12⟩ := hv.2.1
  obtain ⟨cE, hcE, hcE12⟩ := hw.2.1
  have lE := okF_len hcE
  obtain ⟨T0, hT0⟩ : ∃ T0, T0 = tk sg2 E := ⟨_, rfl⟩
  -- what is known of the near rows
  let GN : List (List Nat) → Prop := fun N => N.Nodup ∧ (∀ r, r ∈ N → ∃ kd A' sg', kd < 5 ∧ OM A sg c kd A' sg' ∧ nfR A' sg' r) ∧ (N.length < 1000 → ∀ kd A' sg', kd < 5 → OM A sg c kd A' sg' → ∃ r, r ∈ N ∧ nfR A' sg' r)
  let J : List (List Nat) → ow_MS → Prop := fun N y1 => gI X y1 ∧ y1.1 1 = 0 ∧ fr wyZ z y1 ∧ rc_At y1 28 0 T0 ∧ y1.1 24 = nI N.length ∧ N.length ≤ 1000 ∧ rwS 23 y1 N
  have ways : ∀ {N : List (List Nat)} {v : Int32}, GN N → (v = 1 ∧ tk sg2 E ∈ N ∨ tk sg2 E ∉ N ∧ (v = 2 ∧ (∃ r B sgB cB kd B' sg', r ∈ N ∧ nxR r B sgB cB ∧ kd < 5 ∧ OM B sgB cB kd B' sg' ∧ nfR B' sg' (tk sg2 E)) ∨ v = -1 ∧ ∀ r, r ∈ N → ∃ B sgB cB, nxR r B sgB cB ∧ ∀ kd B' sg', kdm (E.flatten.length / 2) cB kd → OM B sgB cB kd B' sg' → ∃ r', nfR B' sg' r' ∧ r' ≠ tk sg2 E)) → way9 A sg E sg2 v := fun {N v} g1 g2 => Or.inr ⟨hneq, N, c, hcA, g1.1, g1.2.1, g1.2.2, g2⟩
  have c9a : ∀ (x3 x4 : Int32) (N : List (List Nat)) (y1 : ow_MS), J N y1 → GN N → tk sg2 E ∉ N → y1.1 29 = 1 → (∃ r B sgB cB kd B' sg', r ∈ N ∧ nxR r B sgB cB ∧ kd < 5 ∧ OM B sgB cB kd B' sg' ∧ nfR B' sg' (tk sg2 E)) → Tt (fun K i => q_X13_way K i 9 (nI d9) (nI e9) x3 x4 0 0 0 y1) Q := by
    rintro x3 x4 N y1 ⟨j1, j2, j3, -⟩ hg hno h29 hf
    refine u_X13_way_9 ?_; unfold qm_X13_way_9
    exact w_rdF h29 (w_ifF (by decide) (w_some (fin j1 j2 j3 (ways hg (Or.inr ⟨hno, Or.inl ⟨rfl, hf⟩⟩)))))
  have l6 : ∀ (k t : Nat) (N : List (List Nat)) (y1 : ow_MS), t + k = N.length → J N y1 → GN N → tk sg2 E ∉ N → y1.1 30 = nI 1 → y1.1 29 = 0 → (∀ (i : Nat) r, i < t → N[i]? = some r → ∃ B sgB cB, nxR r B sgB cB ∧ ∀ kd B' sg', kdm (E.flatten.length / 2) cB kd → OM B sgB cB kd B' sg' → ∃ r', nfR B' sg' r' ∧ r' ≠ tk sg2 E) → Tt (fun K i => q_X13_way K i 6 (nI d9) (nI e9) (nI cE) (nI t) 0 0 0 y1) Q := by
    intro k
    induction k with
    | zero =>
      intro t N y1 ht hj hg hno h30 h29 hI
      obtain ⟨j1, j2, j3, j4, j5, j6, j7⟩ := hj
      refine u_X13_way_6 ?_; unfold qm_X13_way_6
      refine w_rdF j5 (w_leT (by omega) (by omega) ?_)
      refine u_X13_way_9 ?_; unfold qm_X13_way_9
      refine w_rdF h29 (w_ifT rfl (w_some (fin j1 j2 j3 (ways hg (Or.inr ⟨hno, Or.inr ⟨rfl, fun r hr => ?_⟩⟩)))))
      obtain ⟨i, hi, e⟩ := List.getElem_of_mem hr
      exact hI i r (by omega) (by rw [List.getElem?_eq_getElem hi, e])
    | succ k ih =>
      intro t N y1 ht hj hg hno h30 h29 hI
      obtain ⟨j1, j2, j3, j4, j5, j6, j7⟩ := id hj
      have htN : t < N.length := by omega
      have hat : N[t]? = some N[t] := List.getElem?_eq_getElem htN
      obtain ⟨B, sg3, hD⟩ := j7.2.1 t htN
      have eB : tk sg3 B = N[t] := rc_uni hD.1 (j7.1 t _ hat)
      obtain ⟨cB, hcB, hcB12⟩ := hD.2.1
      have hnx : nxR N[t] B sg3 cB := ⟨eB.symm, hcB, hcB12, hD.2.2⟩
      have ld := hD.1.1
      have vd := vOf_le (tk sg3 B)
      have vdB : vOf (tk sg3 B) = 2 * cB := by rw [eB]; exact nx_uni hnx
      have c7 : ∀ (x5 : Int32) (kd : Nat), kd < 5 → (∀ kd', kdm (E.flatten.length / 2) cB kd' → kd' = kd) → Tt (fun K i => q_X13_way K i 7 (nI d9) (nI e9) (nI cE) (nI t) x5 0 (nI kd) y1) Q := by
        intro x5 kd hkd hku
        refine u_X13_way_7 ?_; unfold qm_X13_way_7
        rw [show (32 : Int32) * nI t = nI (32 * t) from pk_mul 32 t]
        refine w_ifF (rn_neg1 (by omega)) (w_cs0 (to_unpack (by omega) ml23 (by omega) (by omega) hD) (fun y2 ⟨a1, a2, a3⟩ => w_cs0 (to_link hD a1 a2) (fun y3 ⟨b1, b2⟩ => ?_)))
        have f13 : fr (fun g => 1001 ≤ g ∧ g ≤ 1011) y1 y3 := fr_tr (fr_mono (fun g hg => by omega) a3) (fr_mono (fun g hg => by omega) b2)
        have hs : snk1 X y3 T0 y3 (fun _ => False) 0 := by
          refine ⟨gI_net pn1 f13 (fun g hg => by omega) j1, ?_, fr_rf, rc_fr f13 (by omega) j4, Or.inr ⟨?_, fun h9 => h9⟩⟩
          · rw [(f13 30 (by omega)).1]
            exact h30
          · rw [(f13 29 (by omega)).1]
            exact h29
        refine w_cs0 (xr_try snk1_ok pn1 (by omega) hcB hkd b1 hs) (fun y4 ⟨⟨S', s1, s2, s3, s4, s5, s6⟩, _⟩ => ?_)
        have f34 : fr (fun g => fB2 g ∧ g ≠ 23 ∧ g ≠ 24) y1 y4 := fr_tr (fr_mono (fun g hg => by unfold fB2; omega) f13) s4
        have hj4 : J N y4 := ⟨s2, by rw [(f34 1 (by unfold fB2; omega)).1]; exact j2, fr_tr j3 (fr_mono (fun g hg => Or.inr (Or.inr (Or.inr hg.1))) f34), s5, by rw [(f34 24 (by omega)).1]; exact j5, j6, rwS_fr f34 (by omega) j7⟩
        refine u_X13_way_8 ?_; unfold qm_X13_way_8
        rw [nI_1]
        rcases s6 with ⟨q1, q2⟩ | ⟨q1, q2⟩
        · rcases s1.2.1 T0 q2 with h9 | ⟨B', sg', hO, hn⟩
          · exact h9.elim
          · have hf : ∃ r B sgB cB kd B' sg', r ∈ N ∧ nxR r B sgB cB ∧ kd < 5 ∧ OM B sgB cB kd B' sg' ∧ nfR B' sg' (tk sg2 E) := ⟨_, B, sg3, cB, kd, B', sg', List.getElem_mem htN, hnx, hkd, hO, by rw [← hT0]; exact hn⟩
            refine u_X13_way_6 ?_; unfold qm_X13_way_6
            refine w_rdF hj4.2.2.2.2.1 (w_le (by omega) (by omega) (fun _ => c9a _ _ N y4 hj4 hg hno q1 hf) (fun _ => w_rdF q1 (w_ifF (by decide) (c9a _ _ N y4 hj4 hg hno q1 hf))))
        · refine ih (t + 1) N y4 (by omega) hj4 hg hno s3 q1 (fun i r hi hr => ?_)
          by_cases e : i = t
          · subst e
            rw [hat] at hr
            cases hr
            refine ⟨B, sg3, cB, hnx, fun kd' B' sg' hkm hO => ?_⟩
            have := hku kd' hkm
            subst this
            obtain ⟨r', w1, w2⟩ := s1.2.2 B' sg' hO
            exact ⟨r', w2, fun e9 => q2 (by rw [hT0, ← e9]; exact w1)⟩
          · exact hI i r (by omega) hr
      have c7n : ∀ (x5 : Int32), (∀ kd', ¬ kdm (E.flatten.length / 2) cB kd') → Tt (fun K i => q_X13_way K i 7 (nI d9) (nI e9) (nI cE) (nI t) x5 0 (-1) y1) Q := by
        intro x5 hku
        refine u_X13_way_7 ?_; unfold qm_X13_way_7
        refine w_ifT rfl ?_
        refine u_X13_way_8 ?_; unfold qm_X13_way_8
        rw [nI_1]
        refine ih (t + 1) N y1 (by omega) hj hg hno h30 h29 (fun i r hi hr => ?_)
        by_cases e : i = t
        · subst e
          rw [hat] at hr
          cases hr
          exact ⟨B, sg3, cB, hnx, fun kd' B' sg' hkm => absurd hkm (hku kd')⟩
        · exact hI i r (by omega) hr
      have eE : E.flatten.length / 2 = cE := by omega
      rw [eE] at c7 c7n
      refine u_X13_way_6 ?_; unfold qm_X13_way_6
      rw [show (32 : Int32) * nI t = nI (32 * t) from pk_mul 32 t]
      refine w_rdF j5 (w_leF (by omega) (by omega) (w_rdF h29 (w_ifT rfl (w_cs1 (tr_visits ml23 (by omega) (by omega) hD.1) (fun a y9 ea => ?_)))))
      cases ea
      rw [vdB, show nI (2 * cB) / 2 = nI cB from by rw [show nI (2 * cB) / 2 = nI (2 * cB / 2) from pk_div (d := 2) (by omega) (by omega) (by omega)]; congr 1; omega]
      have ed : ∀ i : Int, -100 ≤ i → i ≤ 100 → (nI cE - nI cB = iI i ↔ (cE : Int) - cB = i) := fun i i1 i2 => by
        rw [nI_iI, nI_iI, iI_sub]
        exact iI_eq (by omega) (by omega) (by omega) (by omega)
      have dm1 := ed (-1) (by omega) (by omega)
      have d1 := ed 1 (by omega) (by omega)
      have dm2 := ed (-2) (by omega) (by omega)
      have d2 := ed 2 (by omega) (by omega)
      have d0 := ed 0 (by omega) (by omega)
      refine w_nzI (by decide) (w_if (fun g => c7 _ 0 (by omega) (fun kd' hk' => ?_)) (fun g1 => w_if (fun g => c7 _ 1 (by omega) (fun kd' hk' => ?_)) (fun g2 => w_if (fun g => c7 _ 2 (by omega) (fun kd' hk' => ?_)) (fun g3 => w_if (fun g => c7 _ 3 (by omega) (fun kd' hk' => ?_)) (fun g4 => w_if (fun g => c7 _ 4 (by omega) (fun kd' hk' => ?_)) (fun g5 => c7n _ (fun kd' hk' => ?_)))))))
      · have := dm1.mp g
        unfold kdm at hk'
        omega
      · have := d1.mp g
        unfold kdm at hk'
        omega
      · have := dm2.mp g
        unfold kdm at hk'
        omega
      · have := d2.mp g
        unfold kdm at hk'
        omega
      · have := d0.mp g
        unfold kdm at hk'
        omega
      · have n1 : ¬ ((cE : Int) - cB = -1) := fun h9 => g1 (dm1.mpr h9)
        have n2 : ¬ ((cE : Int) - cB = 1) := fun h9 => g2 (d1.mpr h9)
        have n3 : ¬ ((cE : Int) - cB = -2) := fun h9 => g3 (dm2.mpr h9)
        have n4 : ¬ ((cE : Int) - cB = 2) := fun h9 => g4 (d2.mpr h9)
        have n5 : ¬ ((cE : Int) - cB = 0) := fun h9 => g5 (d0.mpr h9)
        unfold kdm at hk'
        omega
  have l5 : ∀ (k t : Nat) (N : List (List Nat)) (y1 : ow_MS), t + k = N.length → J N y1 → GN N → (∀ (i : Nat) r, i < t → N[i]? = some r → r ≠ T0) → Tt (fun K i => q_X13_way K i 5 (nI d9) (nI e9) (nI t) 0 0 0 0 y1) Q := by
    intro k
    induction k with
    | zero =>
      intro t N y1 ht hj hg hI
      obtain ⟨j1, j2, j3, j4, j5, j6, j7⟩ := id hj
      have hTl := j4.1
      have hTv := vOf_le T0
      refine u_X13_way_5 ?_; unfold qm_X13_way_5
      refine w_rdF j5 (w_leT (by omega) (by omega) (w_okZ (Or.inl rfl) (w_wrF (w_wrF ?_))))
      have f3 : fr (fun g => g = 29 ∨ g = 30) y1 (usF (usF y1 29 0) 30 1) := fr_F2 (fr_F (Or.inl rfl)) (Or.inr rfl)
      have hj3 : J N (usF (usF y1 29 0) 30 1) := ⟨gI_fr f3 (fun g hg => by unfold per; omega) j1, by rw [(f3 1 (by omega)).1]; exact j2, fr_tr j3 (fr_mono (fun g hg => by unfold wyZ fB2; omega) f3), rc_fr f3 (by omega) j4, by rw [(f3 24 (by omega)).1]; exact j5, j6, rwS_fr f3 (by omega) j7⟩
      refine w_cs1 (tr_visits (o := 0) ml28 (by omega) (by omega) hj3.2.2.2.1) (fun a y9 ea => ?_)
      cases ea
      rw [hT0, vb, lE, show nI (2 * cE) / 2 = nI cE from by rw [show nI (2 * cE) / 2 = nI (2 * cE / 2) from pk_div (d := 2) (by omega) (by omega) (by omega)]; congr 1; omega]
      refine w_nzI (by decide) (l6 N.length 0 N _ (by omega) hj3 hg (fun h9 => ?_) po_usF_at ?_ (fun i r hi => absurd hi (Nat.not_lt_zero _)))
      · obtain ⟨i, hi, e⟩ := List.getElem_of_mem h9
        exact hI i _ (by omega) (by rw [List.getElem?_eq_getElem hi, e]) hT0.symm
      · show (usF (usF y1 29 0) 30 1).1 29 = 0
        exact rf_ot (by omega) po_usF_at
    | succ k ih =>
      intro t N y1 ht hj hg hI
      obtain ⟨j1, j2, j3, j4, j5, j6, j7⟩ := id hj
      have hTl := j4.1
      have htN : t < N.length := by omega
      have hat : N[t]? = some N[t] := List.getElem?_eq_getElem htN
      have w1 := j7.1 t _ hat
      have wl := w1.1
      refine u_X13_way_5 ?_; unfold qm_X13_way_5
      rw [show (32 : Int32) * nI t = nI (32 * t) from pk_mul 32 t, nI_1]
      refine w_rdF j5 (w_leF (by omega) (by omega) (w_cs1 (tr_same (p := 0) ml23 ml28 (by omega) (by omega) (by omega) (by omega) w1 j4) (fun a y9 ea => ?_)))
      cases ea
      refine w_if (fun h9 => ih (t + 1) N y1 (by omega) hj hg (fun i r hi hr => ?_)) (fun h9 => w_some (fin j1 j2 j3 (ways hg (Or.inl ⟨rfl, ?_⟩))))
      · by_cases e : i = t
        · subst e
          rw [hat] at hr
          cases hr
          intro e9
          rw [decide_eq_true e9] at h9
          exact absurd h9 (by decide)
        · exact hI i r (by omega) hr
      · by_cases e : N[t] = T0
        · rw [← hT0, ← e]
          exact List.getElem_mem htN
        · rw [decide_eq_false e] at h9
          exact absurd rfl h9
  have l4 : ∀ (k t : Nat) (N : List (List Nat)) (y1 : ow_MS), t + k = 5 → J N y1 → (∀ r, r ∈ N → ∃ kd A' sg', kd < t ∧ OM A sg c kd A' sg' ∧ nfR A' sg' r) → (N.length < 1000 → ∀ kd A' sg', kd < t → OM A sg c kd A' sg' → ∃ r, r ∈ N ∧ nfR A' sg' r) → vRow y1 12 (32 * d9) A sg → Tt (fun K i => q_X13_way K i 4 (nI d9) (nI e9) (nI t) 0 0 0 0 y1) Q := by
    intro k
    induction k with
    | zero =>
      intro t N y1 ht hj hg1 hg2 hvy1
      have et : t = 5 := by omega
      subst et
      refine u_X13_way_4 ?_; unfold qm_X13_way_4
      exact w_leT (a := 5) (by omega) (by omega) (l5 N.length 0 N y1 (by omega) hj ⟨hj.2.2.2.2.2.2.2.2, hg1, hg2⟩ (fun i r hi => absurd hi (Nat.not_lt_zero _)))
    | succ k ih =>
      intro t N y1 ht hj hg1 hg2 hvy1
      obtain ⟨j1, j2, j3, j4, j5, j6, j7⟩ := id hj
      refine u_X13_way_4 ?_; unfold qm_X13_way_4
      rw [nI_1]
      refine w_leF (a := 5) (by omega) (by omega) (w_cs0 (to_open pn1 hd9 hvy1) (fun y2 ⟨o1, f1⟩ => w_wrF ?_))
      have f2 : fr (fun g => 1001 ≤ g ∧ g ≤ 1011 ∨ g = 30) y1 (usF y2 30 2) := fr_F2 (fr_mono (fun g hg => Or.inl (by omega)) f1) (Or.inr rfl)
      have hs : snk2 X (usF y2 30 2) (usF y2 30 2) (fun r => r ∈ N) 0 := ⟨gI_fr f2 (fun g hg => by unfold per; omega) j1, po_usF_at, fr_rf, N, by rw [(f2 24 (by omega)).1]; exact j5, rwS_fr f2 (by omega) j7, j6, fun r hr => hr, fun _ r hr => hr⟩
      refine w_cs0 (xr_try snk2_ok pn1 (by omega) hcA (show t < 5 by omega) (oNet_fr (F := fun g => g = 30) (fr_F rfl) (fun g hg => by omega) o1) hs) (fun y3 ⟨⟨S', s1, s2, s3, s4, N3, s5, s6, s7, s8, s9⟩, _⟩ => ?_)
      have f4 : fr (fun g => g = 30 ∨ fB2 g) y1 y3 := fr_tr (fr_mono (fun g hg => by unfold fB2; omega) f2) (fr_mono (fun g hg => Or.inr hg) s4)
      have hj3 : J N3 y3 := ⟨s2, by rw [(f4 1 (by unfold fB2; omega)).1]; exact j2, fr_tr j3 (fr_mono (fun g hg => by unfold wyZ; rcases hg with h9 | h9 <;> simp [h9]) f4), rc_fr f4 (by unfold fB2; omega) j4, s5, s7, s6⟩
      have hlt : N3.length < 1000 → N.length < 1000 := fun h9 => by
        have := nodup_le N N3 j7.2.2 (fun r hr => s9 h9 r (s1.1 r hr))
        omega
      refine ih (t + 1) N3 y3 (by omega) hj3 (fun r hr => ?_) (fun h9 kd A' sg' hkd hO => ?_) ⟨rc_fr f4 (by unfold fB2; omega) hvy1.1, hvy1.2⟩
      · rcases s1.2.1 r (s8 r hr) with h9 | ⟨A', sg', hO, hn⟩
        · obtain ⟨kd, A', sg', q1, q2⟩ := hg1 r h9
          exact ⟨kd, A', sg', by omega, q2⟩
        · exact ⟨t, A', sg', by omega, hO, hn⟩
      · by_cases e : kd = t
        · subst e
          obtain ⟨r', q1, q2⟩ := s1.2.2 A' sg' hO
          exact ⟨r', s9 h9 r' q1, q2⟩
        · obtain ⟨r', q1, q2⟩ := hg2 (hlt h9) kd A' sg' (by omega) hO
          exact ⟨r', s9 h9 r' (s1.1 r' q1), q2⟩
  have cp : ∀ (j k : Nat) (y2 : ow_MS), k + j = (tk sg2 E).length + 1 → fr (fun g => g = 28) y y2 → (∀ i, i < k → y2.2.1 28 i = y.2.1 12 (32 * e9 + i)) → Tt (fun K i => q_X13_way K i 3 (nI d9) (nI e9) (nI k) 0 0 0 0 y2) Q := by
    intro j
    induction j with
    | zero =>
      intro k y2 hk hf2 hc
      have e12 := (hf2 12 (by omega)).2.1
      refine u_X13_way_3 ?_; unfold qm_X13_way_3
      rw [show (32 : Int32) * nI e9 = nI (32 * e9) from pk_mul 32 e9]
      refine w_rdI ml12 rfl (by omega) (x := nI (tk sg2 E).length) (by rw [e12]; exact hwy.1.2.2.1) (w_ltT (by omega) (by omega) (w_wrF ?_))
      have f3 : fr (fun g => g = 24 ∨ g = 28) y (usF y2 24 0) := fr_F2 (fr_mono (fun g hg => Or.inr hg) hf2) (Or.inl rfl)
      have hT : rc_At (usF y2 24 0) 28 0 (tk sg2 E) := (cp_row hwy (fun i hi => hc i (by omega)) : vRow y2 28 0 E sg2).1
      refine l4 5 0 [] _ (by omega) ⟨gI_fr f3 (fun g hg => by unfold per; omega) ia, by rw [(f3 1 (by omega)).1]; exact ie, fr_tr hfy (fr_mono (fun g hg => by unfold wyZ fB2; omega) f3), by rw [hT0]; exact hT, po_usF_at, by decide, ⟨fun k r hr => (by rw [List.getElem?_nil] at hr; cases hr), fun j hj => absurd hj (Nat.not_lt_zero _), List.nodup_nil⟩⟩ (fun r hr => absurd hr List.not_mem_nil) (fun _ kd A' sg' hkd => absurd hkd (Nat.not_lt_zero _)) ⟨rc_fr f3 (by omega) hvy.1, hvy.2⟩
    | succ j ih =>
      intro k y2 hk hf2 hc
      have e12 := (hf2 12 (by omega)).2.1
      refine u_X13_way_3 ?_; unfold qm_X13_way_3
      rw [show (32 : Int32) * nI e9 = nI (32 * e9) from pk_mul 32 e9, nI_add, nI_1]
      refine w_rdI ml12 rfl (by omega) (x := nI (tk sg2 E).length) (by rw [e12]; exact hwy.1.2.2.1) (w_ltF (by omega) (by omega) (w_rdI ml12 rfl (by omega) (by rw [e12]) (w_wrI ml28 rfl (by omega) (ih (k + 1) _ (by omega) (fr_I2 hf2 rfl) (fun i hi => ?_)))))
      by_cases hik : i = k
      · rw [hik, po_usI_at]
      · exact rd_ne hik (hc i (by omega))
  exact cp ((tk sg2 E).length + 1) 0 y (by omega) fr_rf (fun i hi => by omega)
end XW3
end
section
/-! 99zzzzzzzzzzzzh.xway4 -/
/-! the class's way, exactly; both sides answer the same -/
theorem pig_le {α : Type} {P : Nat → α → Prop} {n : Nat} (X : List α) (hX : X.Nodup) (h1 : ∀ C, C ∈ X → ∃ j, j < n ∧ P j C) (h2 : ∀ j C C', j < n → P j C → P j C' → C = C') : X.length ≤ n := by
  have key : ∀ X : List α, X.Nodup → (∀ C, C ∈ X → ∃ j, j < n ∧ P j C) → ∃ Js : List Nat, Js.length = X.length ∧ Js.Nodup ∧ ∀ j, j ∈ Js → j < n ∧ ∃ C, C ∈ X ∧ P j C := by
    intro X
    induction X with
    | nil => exact fun _ _ => ⟨[], rfl, List.nodup_nil, fun j hj => absurd hj List.not_mem_nil⟩
    | cons C X ih =>
      intro hn h9
      obtain ⟨n1, n2⟩ := List.nodup_cons.mp hn
      obtain ⟨Js, j1, j2, j3⟩ := ih n2 (fun D hD => h9 D (List.mem_cons_of_mem _ hD))
      obtain ⟨j, k1, k2⟩ := h9 C List.mem_cons_self
      refine ⟨j :: Js, by rw [List.length_cons, List.length_cons, j1], List.nodup_cons.mpr ⟨fun h8 => ?_, j2⟩, fun a ha => ?_⟩
      · obtain ⟨-, D, d1, d2⟩ := j3 j h8
        exact n1 (by rw [h2 j C D k1 k2 d2]; exact d1)
      · rcases List.mem_cons.mp ha with e | ha
        · rw [e]
          exact ⟨k1, C, List.mem_cons_self, k2⟩
        · obtain ⟨a1, D, a2, a3⟩ := j3 a ha
          exact ⟨a1, D, List.mem_cons_of_mem _ a2, a3⟩
  obtain ⟨Js, j1, j2, j3⟩ := key X hX h1
  have := nodup_le Js (List.range n) j2 (fun j hj => List.mem_range.mpr (j3 j hj).1)
  rw [List.length_range] at this
  omega
section XW4
variable {A : rn_L} {sg : Nat → Bool} {R : ow_NT} {kd c j : Nat} {C C' : cdT}
/-- a move's number gives one code -/
theorem mv_det (hR : nxC A sg c R) (hpl : plnA A sg) (hk : kd < 5) (hj : j < mv_cnt R.1 kd) (h1 : mvD kd R j C) (h2 : mvD kd R j C') : C = C' := by
  obtain ⟨hV, hp, hpn, ec⟩ := nx_iso hR hpl
  have h6 := hR.1.2.2.2.2
  have mb := mb_all hV hp h6 hpn hk
  obtain ⟨F, P, Q, Ds, qs, d1, d2, d3, d4, rfl⟩ := h1
  obtain ⟨F', P', Q', Ds', qs', d1', d2', d3', d4', rfl⟩ := h2
  obtain ⟨A', sg', hO, hall⟩ := mb.1 j hj ⟨F, P, Q, d1, d2, d3⟩
  obtain ⟨-, f, hf⟩ := hall F P Q d1 d2
  obtain ⟨-, f', hf'⟩ := hall F' P' Q' d1' d2'
  have l3 := OM_len hO
  exact cd_same hf hf' (by omega) ((mv_nv hR.2.2.1 hk F P Q j d1 d2 hj).2 d3) ((mv_nv hR.2.2.1 hk F' P' Q' j d1' d2' hj).2 d3') d4 d4'
/-- how many moves there are of the first kinds -/
def cS (c : Nat) : Nat → Nat
  | 0 => 0
  | t + 1 => cS c t + mv_cnt c t
theorem cS_le : ∀ c, c < 5 → ∀ t, t < 6 → cS c t ≤ 432 := by decide
theorem sts_nd {X : List cdT} {os : List Nat} (hl : X.length = os.length) (ho : ∀ (j s : Nat), os[j]? = some s → s < X.length) (hs : sts X os) : X.Nodup := by
  have nd : os.Nodup := by
    rw [List.nodup_iff_pairwise_ne, List.pairwise_iff_getElem]
    intro a b ha hb hab e9
    have h1 := hs a b hab hb
    have : atC X os a = atC X os b := by
      unfold atC
      rw [List.getD_eq_getElem?_getD (l := os), List.getD_eq_getElem?_getD (l := os), List.getElem?_eq_getElem ha, List.getElem?_eq_getElem hb, e9]
    rw [this, cmpC_rf] at h1
    omega
  have him : ∀ i, i < X.length → ∃ k, k < os.length ∧ os[k]? = some i := by
    intro i hi
    rcases Classical.em (i ∈ os) with h9 | h9
    · obtain ⟨k, hk, e⟩ := List.getElem_of_mem h9
      exact ⟨k, hk, by rw [List.getElem?_eq_getElem hk, e]⟩
    · exfalso
      have := nodup_le (i :: os) (List.range X.length) (List.nodup_cons.mpr ⟨h9, nd⟩) (fun a ha => by
        rw [List.mem_range]
        rcases List.mem_cons.mp ha with e | ha
        · rw [e]
          exact hi
        · obtain ⟨j, hj, e⟩ := List.getElem_of_mem ha
          exact ho j a (by rw [List.getElem?_eq_getElem hj, e]))
      rw [List.length_cons, List.length_range] at this
      omega
  have hat : ∀ {k i : Nat} (hi : i < X.length), os[k]? = some i → atC X os k = X[i] := by
    intro k i hi e
    unfold atC
    rw [List.getD_eq_getElem?_getD (l := os), e]
    show X.getD i (0, []) = _
    rw [List.getD_eq_getElem?_getD, List.getElem?_eq_getElem hi]
    rfl
  rw [List.nodup_iff_pairwise_ne, List.pairwise_iff_getElem]
  intro a b ha hb hab e9
  obtain ⟨k, k1, k2⟩ := him a ha
  obtain ⟨m, m1, m2⟩ := him b hb
  have e : atC X os k = atC X os m := by rw [hat ha k2, hat hb m2, e9]
  rcases Nat.lt_trichotomy k m with q | q | q
  · have := hs k m q m1
    rw [e, cmpC_rf] at this
    omega
  · rw [q, m2] at k2
    have := Option.some.inj k2
    omega
  · have := hs m k q k1
    rw [e, cmpC_rf] at this
    omega
end XW4
section XW5
variable {vl : Nat → Nat} {y : ow_MS} {St : plT} {x x' : Int32}
theorem xc_surround {g' d c : Nat} {A : rn_L} {sg : Nat → Bool} (hg : g' = 14000 ∨ g' = 15000) (hN : gM y) (hd : d < 40) (hs : slC y 1000 d (clC sg A)) (hA : okL A c) (hpl : plnA A sg) (hc4 : c ≤ 4) : Te (fun K => ce_X6_surround vl K 12000 1000 (nI d) g' y) (fun y1 => gM y1 ∧ fr (coP g') y y1 ∧ ∃ Cs os, tbO y1 g' 480 Cs os ∧ sts Cs os ∧ surC A sg c Cs) := by
  have hg3 : g' = 13000 ∨ g' = 14000 ∨ g' = 15000 := Or.inr hg
  have hg4 : g' = 2000 ∨ g' = 13000 ∨ g' = 14000 ∨ g' = 15000 := Or.inr hg3
  have htH : tH g' 480 := by
    rcases hg with rfl | rfl
    · exact tH14
    · exact tH15
  have hby : byR y (g' + 1) := by
    rcases hg with rfl | rfl
    · exact hN.2.2.2.2.1
    · exact hN.2.2.2.2.2
  let Q0 : ow_MS → Prop := fun y1 => gM y1 ∧ fr (coP g') y y1 ∧ ∃ Cs os, tbO y1 g' 480 Cs os ∧ sts Cs os ∧ surC A sg c Cs
  let I : Nat → List cdT → Prop := fun t Cs => Cs.length ≤ cS c t ∧ (∀ C, C ∈ Cs → ∃ kd R j, kd < 5 ∧ nxC A sg c R ∧ j < mv_cnt R.1 kd ∧ mvD kd R j C) ∧ ∀ kd, kd < t → ∃ R, nxC A sg c R ∧ ∀ j, j < mv_cnt R.1 kd → mvN kd R j ∨ ∃ C, mvD kd R j C ∧ C ∈ Cs
  have c1 : ∀ (k i : Nat) (z : ow_MS) (Cs : List cdT) (os : List Nat), i + k = 5 → gN z → fr (coP g') y z → tbO z g' 480 Cs os → sts Cs os → I i Cs → Tt (fun K t => c_X6_surround vl K t 1 (nI d) (nI i) 12000 1000 g' z) Q0 := by
    intro k
    induction k with
    | zero =>
      intro i z Cs os hi q1 q2 q3 q4 q5
      have e : i = 5 := by omega
      subst e
      refine u_X6_surround_1 ?_; unfold cm_X6_surround_1
      exact w_leT (a := 5) (by omega) (by omega) (w_some ⟨⟨q1, tbs_co hg3 q2 q3.2.2.2.2 hN.2⟩, q2, Cs, os, q3, q4, q5.2.1, q5.2.2⟩)
    | succ k ih =>
      intro i z Cs os hi q1 q2 q3 q4 q5
      have hs1 : slC z 1000 d (clC sg A) := slC_fr q2 (fun q hq h9 => by unfold cW at hq; unfold coP cV at h9; omega) hs
      refine u_X6_surround_1 ?_; unfold cm_X6_surround_1
      refine w_leF (a := 5) (by omega) (by omega) (w_cs0 (xc_collect ch_1000 hd (by omega) hs1 hA htH (by omega) (by omega) (tgk hg4) (show i < 5 by omega) q1 q3 q4) ?_)
      rintro z1 ⟨g1, g2, R, X, os', g3, g4, g5, g6, g7, g8, g9⟩
      rw [nI_1]
      have hR : nxC A sg c R := ⟨hA, g4, g3, g5⟩
      have ec : R.1 = c := g5.1
      have hnd := sts_nd g6.1.2.1 (tabC_os g6.1) g7
      have hXn := (List.nodup_append.mp hnd).2.1
      have hXl : X.length ≤ mv_cnt R.1 i := pig_le X hXn g8 (fun j C C' hj p1 p2 => mv_det hR hpl (show i < 5 by omega) hj p1 p2)
      have hcs : cS c (i + 1) = cS c i + mv_cnt c i := rfl
      have hle := cS_le c (by omega) (i + 1) (by omega)
      rw [ec] at hXl
      have hlen : (Cs ++ X).length ≤ cS c (i + 1) := by
        rw [List.length_append]
        have := q5.1
        omega
      have hno : os'.length ≠ 480 := by
        have := g6.1.2.1
        omega
      refine ih (i + 1) z1 _ os' (by omega) g1 (fr_tr q2 g2) g6 g7 ⟨hlen, fun C hC => ?_, fun kd hkd => ?_⟩
      · rcases List.mem_append.mp hC with h9 | h9
        · exact q5.2.1 C h9
        · obtain ⟨j, j1, j2⟩ := g8 C h9
          exact ⟨i, R, j, by omega, hR, j1, j2⟩
      · by_cases e : kd = i
        · subst e
          refine ⟨R, hR, fun j hj => ?_⟩
          rcases g9 j hj with h9 | ⟨C, h8, h9⟩
          · exact Or.inl h9
          · exact Or.inr ⟨C, h8, h9.elim id (fun h7 => absurd h7 hno)⟩
        · obtain ⟨R', r1, r2⟩ := q5.2.2 kd (by omega)
          refine ⟨R', r1, fun j hj => (r2 j hj).imp id (fun ⟨C, h8, h9⟩ => ⟨C, h8, List.mem_append_left _ h9⟩)⟩
  refine e_X6_surround ?_
  refine u_X6_surround_0 ?_; unfold cm_X6_surround_0
  refine w_wrF (c1 5 0 _ [] [] (by omega) (gN_F (far_cP (by omega)) hN.1) (fr_F (by unfold coP cV; omega)) (tbO_0 hby) (fun i j hij hj => absurd hj (Nat.not_lt_zero _)) ⟨Nat.zero_le _, fun C hC => absurd hC List.not_mem_nil, fun kd hkd => absurd hkd (Nat.not_lt_zero _)⟩)
theorem fnd_neg {Cs : List cdT} {os : List Nat} {B : cdT} {r : Int32} (hl : Cs.length = os.length) (ho : ∀ (j s : Nat), os[j]? = some s → s < Cs.length) (h480 : os.length ≤ 480) (hm : srt Cs os) (hs : sts Cs os) (h : fnd Cs os B r) : r < 0 ↔ B ∉ Cs := by
  rcases h with ⟨k, k1, k2, k3⟩ | ⟨k, k1, k2, k3⟩
  · rw [k2]
    refine ⟨fun h9 => absurd h9 (nI_pos (by omega)), fun h9 => absurd ?_ h9⟩
    rw [← k3]
    exact at_in hl ho k1
  · obtain ⟨a1, a2⟩ := k3 (srt_mo hm B)
    refine ⟨fun _ hB => ?_, fun _ => ?_⟩
    · obtain ⟨i, i1, i2⟩ := at_sur hl ho hs hB
      by_cases e : i < k
      · have := a1 i e
        rw [i2, cmpC_rf] at this
        omega
      · have := a2 i (by omega) i1
        rw [i2, cmpC_rf] at this
        omega
    · rw [k2]
      exact (iI_lt (b := 0) (by omega) (by omega) (by omega) (by omega)).mpr (by omega)
def wyC (g : Nat) : Prop := coP 14000 g ∨ coP 15000 g
def wayC (A : rn_L) (sg : Nat → Bool) (c : Nat) (E : rn_L) (sgE : Nat → Bool) (cE : Nat) (v : Int32) : Prop := v = 0 ∧ clC sg A = clC sgE E ∨ clC sg A ≠ clC sgE E ∧ ∃ X : List cdT, X.length ≤ 480 ∧ surC A sg c X ∧ (v = 1 ∧ clC sgE E ∈ X ∨ clC sgE E ∉ X ∧ ∃ XE, surC E sgE cE XE ∧ (v = 2 ∧ (∃ C, C ∈ X ∧ C ∈ XE) ∨ v = -1 ∧ ¬ ∃ C, C ∈ X ∧ C ∈ XE))
theorem xc_way (hN : gM y) (hC : relC y St) (hS : okS St) : Te (fun K => ce_X11_way vl K 0 x x' y) (fun r => gM r.2.2 ∧ fr wyC y r.2.2 ∧ ((r.1 = 1 ∧ ((∀ d, d < 40 → x = nI d → St d = none) ∨ ∀ d, d < 40 → x' = nI d → St d = none)) ∨ ∃ d A sg c e E sgE cE, d < 40 ∧ x = nI d ∧ St d = some (A, sg) ∧ okL A c ∧ A ≠ [] ∧ plnA A sg ∧ e < 40 ∧ x' = nI e ∧ St e = some (E, sgE) ∧ okL E cE ∧ E ≠ [] ∧ plnA E sgE ∧ (r.1 = 4 ∧ (4 < c ∨ 4 < cE) ∨ c ≤ 4 ∧ cE ≤ 4 ∧ r.1 = 0 ∧ wayC A sg c E sgE cE r.2.1))) := by
  refine e_X11_way ?_; unfold cm_X11_way_0
  refine w_tc0 (xc_need hN.1.1 hC hS) ?_ ?_
  · rintro y1 ⟨h1, rfl⟩
    rcases h1 with h1 | ⟨-, d, A, sg, c, hd, rfl, hSt, hs, hA, hne, hpl⟩
    · exact absurd (show (0 : Nat) = 1 from h1.1) (by decide)
    · refine w_tc0 (xc_need hN.1.1 hC hS) ?_ ?_
      · rintro y2 ⟨h2, rfl⟩
        rcases h2 with h2 | ⟨-, e, E, sg', c', he, rfl, hSe, hs', hE, hne', hpl'⟩
        · exact absurd (show (0 : Nat) = 1 from h2.1) (by decide)
        · have o1 := okL_c (sg := sg) hA
          have o2 := okL_c (sg := sg') hE
          have e3 : y2.2.1 1003 d = nI c := by
            have := hs.1
            rw [o1.1] at this
            exact this
          have e3' : y2.2.1 1003 e = nI c' := by
            have := hs'.1
            rw [o2.1] at this
            exact this
          have hc12 := hA.2.2.2.1
          have hc12' := hE.2.2.2.1
          have fin : ∀ {k : Nat} {v : Int32} {y9 : ow_MS}, gM y9 → fr wyC y2 y9 → (k = 4 ∧ (4 < c ∨ 4 < c') ∨ c ≤ 4 ∧ c' ≤ 4 ∧ k = 0 ∧ wayC A sg c E sg' c' v) → Tt (fun _ _ => some (k, v, y9)) (fun r => gM r.2.2 ∧ fr wyC y2 r.2.2 ∧ ((r.1 = 1 ∧ ((∀ d', d' < 40 → nI d = nI d' → St d' = none) ∨ ∀ d', d' < 40 → nI e = nI d' → St d' = none)) ∨ ∃ d' A sg c e' E sgE cE, d' < 40 ∧ nI d = nI d' ∧ St d' = some (A, sg) ∧ okL A c ∧ A ≠ [] ∧ plnA A sg ∧ e' < 40 ∧ nI e = nI e' ∧ St e' = some (E, sgE) ∧ okL E cE ∧ E ≠ [] ∧ plnA E sgE ∧ (r.1 = 4 ∧ (4 < c ∨ 4 < cE) ∨ c ≤ 4 ∧ cE ≤ 4 ∧ r.1 = 0 ∧ wayC A sg c E sgE cE r.2.1))) := fun q1 q2 q3 => w_some ⟨q1, q2, Or.inr ⟨d, A, sg, c, e, E, sg', c', hd, rfl, hSt, hA, hne, hpl, he, rfl, hSe, hE, hne', hpl', q3⟩⟩
          refine w_crI (tH_3 ch_1000) rfl hd e3 (w_lt (a := 4) (by omega) (by omega) (fun h4 => fin hN fr_rf (Or.inl ⟨rfl, Or.inl h4⟩)) (fun h4 => w_crI (tH_3 ch_1000) rfl he e3' (w_le (b := 4) (by omega) (by omega) (fun h4' => ?_) (fun h4' => fin hN fr_rf (Or.inl ⟨rfl, Or.inr (by omega)⟩)))))
          have hcb := cmpC_b o1.2 o2.2
          refine w_cs1 (tc_compare ch_1000 ch_1000 hd he hs hs' o1.2 o2.2) ?_
          rintro v y3 ⟨ev, e9⟩
          dsimp only at ev e9
          subst e9
          subst ev
          have cmp0 : iI (cmpC (clC sg A) (clC sg' E)) = 0 ↔ clC sg A = clC sg' E := by
            constructor
            · intro e0
              exact cmpC_0 ((iI_eq (by omega) (by omega) (by omega) (by omega)).mp (e0.trans (show (0 : Int32) = iI 0 from rfl)))
            · intro e0
              rw [e0, cmpC_rf]
              rfl
          refine w_if (fun h0 => fin hN fr_rf (Or.inr ⟨by omega, by omega, rfl, Or.inl ⟨rfl, cmp0.mp h0⟩⟩)) (fun h0 => w_cs0 (xc_surround (Or.inl rfl) hN hd hs hA hpl (by omega)) ?_)
          have hneq : clC sg A ≠ clC sg' E := fun e => h0 (cmp0.mpr e)
          rintro y4 ⟨g1, g2, Cs, os, g3, g4, g5⟩
          have f4 : fr wyC y3 y4 := fr_mono (fun g hg => Or.inl hg) g2
          have hs4 : slC y4 1000 e (clC sg' E) := slC_fr g2 (fun q hq h9 => by unfold cW at hq; unfold coP cV at h9; omega) hs'
          have hl4 := g3.1.2.1
          have ho4 := tabC_os g3.1
          have h480 := g3.2.2.2.1
          refine w_cs1 (tc_find tH14 ch_1000 he g3.1 g3.2.2.2.1 hs4 o2.2) ?_
          rintro v5 y5 ⟨hf, e9⟩
          dsimp only at hf e9
          subst e9
          have hfn := fnd_neg hl4 ho4 h480 g3.2.1 g4 hf
          refine w_if (fun hlt => w_cs0 (xc_surround (Or.inr rfl) g1 he hs4 hE hpl' (by omega)) ?_) (fun hge => fin g1 f4 (Or.inr ⟨by omega, by omega, rfl, Or.inr ⟨hneq, Cs, by omega, g5, Or.inl ⟨rfl, ?_⟩⟩⟩))
          rotate_left
          · rcases Classical.em (clC sg' E ∈ Cs) with h9 | h9
            · exact h9
            · exact absurd (hfn.mpr h9) hge
          rintro y6 ⟨g1', g2', Ds, qs, g3', g4', g5'⟩
          have f6 : fr wyC y3 y6 := fr_tr f4 (fr_mono (fun g hg => Or.inr hg) g2')
          have g36 : tbO y6 14000 480 Cs os := tbO_fr g2' (fun q hq h9 => by unfold cV at hq; unfold coP cV at h9; omega) g3
          have hl6 := g3'.1.2.1
          have ho6 := tabC_os g3'.1
          refine w_cs1 (tc_meets tH14 tH15 g36.1 g36.2.2.2.1 g3'.1 g3'.2.2.2.1) ?_
          rintro v7 y7 ⟨hm, e9⟩
          dsimp only at hm e9
          subst e9
          have hno := hfn.mp hlt
          have sm : srt Ds qs := g3'.2.1
          rcases hm with ⟨rfl, i, k, i1, i2, i3⟩ | ⟨rfl, hm⟩
          · refine w_ifF (by decide) (fin g1' f6 (Or.inr ⟨by omega, by omega, rfl, Or.inr ⟨hneq, Cs, by omega, g5, Or.inr ⟨hno, Ds, g5', Or.inl ⟨rfl, _, List.mem_of_getElem? i3, at_in hl6 ho6 i2⟩⟩⟩⟩))
          · refine w_ifT rfl (fin g1' f6 (Or.inr ⟨by omega, by omega, rfl, Or.inr ⟨hneq, Cs, by omega, g5, Or.inr ⟨hno, Ds, g5', Or.inr ⟨rfl, ?_⟩⟩⟩⟩))
            rintro ⟨C, c1, c2⟩
            obtain ⟨k, k1, k2⟩ := at_sur hl6 ho6 g4' c2
            exact hm C c1 (srt_mo sm C) k k1 k2
      · rintro a y2 ha ⟨h2, rfl⟩
        rcases h2 with h2 | h2
        · exact w_some ⟨hN, fr_rf, Or.inl ⟨h2.1, Or.inr h2.2⟩⟩
        · exact absurd h2.1 ha
  · rintro a y1 ha ⟨h1, rfl⟩
    rcases h1 with h1 | h1
    · exact w_some ⟨hN, fr_rf, Or.inl ⟨h1.1, Or.inl h1.2⟩⟩
    · exact absurd h1.1 ha
end XW5
section XW6
variable {X : (Nat → Nat → Int32) → Prop} {vl : Nat → Nat} {z y : ow_MS} {x x' : Int32}
/-- what is kept is the list of its own code -/
def nmC (y : ow_MS) : Prop := ∀ d A sg c, d < 40 → slC y 1000 d (clC sg A) → okL A c → A ≠ [] → nrm A sg
theorem c_way (h : rel3 X z y) (hm : nmC y) : Te (fun K => qe_X13_way K x x' z) (fun rr => Te (fun K => ce_X11_way vl K 0 x x' y) (fun rc => (rel3 X rr.2 rc.2.2 ∧ ansI [(1, 1), (2, 4)] rr rc) ∧ fr wyZ z rr.2 ∧ fr wyC y rc.2.2)) := by
  obtain ⟨⟨St, k⟩, hM, h2⟩ := id h
  refine te_two (xq_way k.1 k.2.2.1) (xc_way (x := x) (x' := x') hM k.2.2.2.1 k.2.2.2.2) (fun rr rc hr ⟨hG, hf, hc⟩ => ?_)
  have hC : relC rc.2.2 St := relC_fr hf (fun q hq h9 => by unfold cW at hq; unfold wyC coP cV at h9; omega) k.2.2.2.1
  have fin : ∀ {P : Nat → Prop}, fr P z rr.2 → (∀ g, P g → wyZ g) → gI X rr.2 → ansI [(1, 1), (2, 4)] rr rc → ((rel3 X rr.2 rc.2.2 ∧ ansI [(1, 1), (2, 4)] rr rc) ∧ fr wyZ z rr.2 ∧ fr wyC y rc.2.2) := fun hz hP hI ha => ⟨⟨⟨⟨St, hI, hG.1, relR_fr hz (fun h9 => by have := hP _ h9; unfold wyZ fB2 at this; omega) k.2.2.1, hC, k.2.2.2.2⟩, hG, rel2_h hz hf (fun g hg h9 => by have := hP _ hg; unfold wyZ fB2 at this; unfold r2Z at h9; omega) (fun g hg h9 => by unfold wyC coP cV at hg; unfold r2Y at h9; omega) h2⟩, ha⟩, fr_mono hP hz, hf⟩
  have rps : ∀ g, rPs g → wyZ g := fun g hg => by unfold rPs rSc at hg; unfold wyZ fB2; omega
  have no1 : ∀ {u : Int32} {d : Nat} {C : rn_L × (Nat → Bool)}, (∀ d, d < 40 → u = nI d → St d = none) → d < 40 → u = nI d → St d = some C → False := fun h9 hd hx hs => by
    rw [h9 _ hd hx] at hs
    cases hs
  rcases hr with ⟨r1, r2⟩ | ⟨d, A, sg, e, E, sgE, hd, rfl, hSt, he, rfl, hSe, hr⟩
  · rcases hc with ⟨c1, -⟩ | ⟨d, A, sg, c, e, E, sgE, cE, hd, hx, hSt, -, -, -, he, hx', hSe, -⟩
    · exact fin r1.2.2 rps r1.1 (Or.inr ⟨1, 1, by simp, r1.2.1, c1⟩)
    · rcases r2 with r2 | r2
      · exact (no1 r2 hd hx hSt).elim
      · exact (no1 r2 he hx' hSe).elim
  · rcases hc with ⟨-, c2⟩ | ⟨d', A', sg', c, e', E', sgE', cE, hd', hx, hSt', hA, hne, hpl, he', hx', hSe', hE, hEn, hEp, hc⟩
    · rcases c2 with c2 | c2
      · exact (no1 c2 hd rfl hSt).elim
      · exact (no1 c2 he rfl hSe).elim
    · have ed := nI_inj9 (a := d) (b := d') (by omega) (by omega) hx
      have ee := nI_inj9 (a := e) (b := e') (by omega) (by omega) hx'
      subst ed
      subst ee
      rw [hSt] at hSt'
      rw [hSe] at hSe'
      cases hSt'
      cases hSe'
      have lA := okF_len hA.1
      have lE := okF_len hE.1
      rcases hr with ⟨r1, r2⟩ | ⟨a1, a2, r1, r2, r3, hw⟩
      · rcases hc with ⟨c1, -⟩ | ⟨c1, c2, -⟩
        · exact fin r1.2.2 rps r1.1 (Or.inr ⟨2, 4, by simp, r1.2.1, c1⟩)
        · omega
      · rcases hc with ⟨-, c1⟩ | ⟨c1, c2, c3, hv⟩
        · omega
        · refine fin r3 (fun g hg => hg) r1 (Or.inl ⟨r2, c3, ?_⟩)
          have hEm : nrm E sgE := hm e E sgE cE he ((k.2.2.2.1 e he).2 E sgE hSe) hE hEn
          rcases hw with ⟨v0, q0⟩ | ⟨q0, N, cA, n1, n2, n3, n4, hw⟩
          · rcases hv with ⟨w0, -⟩ | ⟨p0, -⟩
            · rw [v0, w0]
            · exact absurd ((clC_tk hA hE).mpr q0) p0
          · rcases hv with ⟨-, p0⟩ | ⟨-, X9, x1, x2, hv⟩
            · exact absurd ((clC_tk hA hE).mp p0) q0
            · have ecA : cA = c := by
                have l1 := okF_len n1
                omega
              subst ecA
              have hlt : N.length < 1000 := by
                have := rows_le (Cs := X9) N n2 (fun r hr => by
                  obtain ⟨C, c1, B, sB, c9, o1, o2, o3, o4, o5, -⟩ := w_rc hA hne hpl x2 n3 r hr
                  exact ⟨C, c1, B, sB, c9, o1, o2, o3, o4, o5⟩)
                omega
              have hN : nerR A sg cA N := ⟨n3, n4 hlt⟩
              have one := way_one (sgE := sgE) hA hne hpl x2 hN hE
              rcases hw with ⟨v1, q1⟩ | ⟨q1, hw⟩
              · rcases hv with ⟨w1, -⟩ | ⟨p1, -⟩
                · rw [v1, w1]
                · exact absurd (one.mp q1) p1
              · rcases hv with ⟨-, p1⟩ | ⟨-, XE, x3, hv⟩
                · exact absurd (one.mpr p1) q1
                · rcases hw with ⟨v2, q2⟩ | ⟨v2, q2⟩
                  · have := way_fw hA hne hpl x2 hN hE hEp x3 q2
                    rcases hv with ⟨w2, -⟩ | ⟨-, p2⟩
                    · rw [v2, w2]
                    · exact absurd this p2
                  · rcases hv with ⟨-, p2⟩ | ⟨w2, -⟩
                    · exfalso
                      obtain ⟨r, hr, hall⟩ := way_bw hA hne hpl x2 hN hE hEp hEm x3 p2
                      obtain ⟨B, sgB, cB, b1, b2⟩ := q2 r hr
                      obtain ⟨kd, B', sg9, k1, k2, k3⟩ := hall B sgB cB b1
                      rw [lE, show 2 * cE / 2 = cE by omega] at b2
                      obtain ⟨r', u1, u2⟩ := b2 kd B' sg9 k1 k2
                      exact u2 (k3 r' u1)
                    · rw [v2, w2]
end XW6
end
