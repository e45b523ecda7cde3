/-! moves are taken back: kind 2 by kind 3 -/
section XTB4
variable {A A' : rn_L} {sg sg' : Nat → Bool} {R RB Q : ow_NT} {f : Nat → Nat}
theorem fl_two {x y : Nat} {s s' : vT} (hu : ∀ p, p ∈ A.flatten → p.2 < 2) (hs : s = (x, 1) ∧ s' = (y, 1) ∨ s = (y, 1) ∧ s' = (x, 1)) : flA (x, 0) (y, 0) (flA s s' A) = woA x y A := by
  unfold flA woA
  rw [List.map_map]
  refine List.map_congr_left (fun L hL => ?_)
  show List.filter _ (List.filter _ L) = _
  rw [List.filter_filter]
  refine List.filter_congr (fun p hp => ?_)
  have h2 := hu p (List.mem_flatten.mpr ⟨L, hL, hp⟩)
  rw [Bool.eq_iff_iff]
  simp only [Bool.and_eq_true, decide_eq_true_iff]
  have key : ∀ t : Nat, (p.1 ≠ t) ↔ (p ≠ (t, 0) ∧ p ≠ (t, 1)) := by
    intro t
    constructor
    · intro h9
      exact ⟨fun e => h9 (by rw [e]), fun e => h9 (by rw [e])⟩
    · rintro ⟨g1, g2⟩ e
      rcases (show p.2 = 0 ∨ p.2 = 1 by omega) with e2 | e2
      · exact g1 (Prod.ext e e2)
      · exact g2 (Prod.ext e e2)
  rw [key x, key y]
  rcases hs with ⟨rfl, rfl⟩ | ⟨rfl, rfl⟩
  · exact ⟨fun ⟨⟨a, b⟩, c, d⟩ => ⟨⟨a, c⟩, b, d⟩, fun ⟨⟨a, c⟩, b, d⟩ => ⟨⟨a, b⟩, c, d⟩⟩
  · exact ⟨fun ⟨⟨a, b⟩, c, d⟩ => ⟨⟨a, d⟩, b, c⟩, fun ⟨⟨a, d⟩, b, c⟩ => ⟨⟨a, b⟩, c, d⟩⟩
theorem flA_mem {s s' p : vT} : p ∈ (flA s s' A).flatten ↔ p ∈ A.flatten ∧ p ≠ s ∧ p ≠ s' := by
  have e : (flA s s' A).flatten = A.flatten.filter (fun q => decide (q ≠ s) && decide (q ≠ s')) := (List.filter_flatten).symm
  rw [e, List.mem_filter, Bool.and_eq_true, decide_eq_true_iff, decide_eq_true_iff]
/-- what kind 2 takes away, kind 3 puts back -/
theorem tb_23 (hR : isoV A sg idN R) (hO : OM A sg R.1 2 A' sg') (hV : isoV A' sg' f RB) (hp : pm1 RB) (hM : mM3 RB) (hpl : plnA A sg) : tBk 3 A sg RB := by
  obtain ⟨rfl, v, hv, ⟨t1, t2, t3, t4, t5⟩, e1⟩ := hO
  have hok := isoV_ok hR
  have hn := hok.1
  have hc0 := hR.1.2.2.1
  have hu : ∀ p, p ∈ A.flatten → p.2 < 2 := fun p hp => ((hok.2 p).mp hp).2
  have hd := wkF_ok hR.1.1
  have hvn := rn_nx_lt (A := A) hv
  obtain ⟨x, hx⟩ : ∃ x, x = crs A v := ⟨_, rfl⟩
  obtain ⟨y, hy⟩ : ∃ y, y = crs A (rn_nx A v) := ⟨_, rfl⟩
  have ev : vAt A v = (x, 0) := Prod.ext hx.symm t1
  have ew : vAt A (rn_nx A v) = (y, 0) := Prod.ext hy.symm t2
  have emv : vAt A (mtf A v) = (x, 1) := by
    rw [vAt_mtf hR.1.1 hv, ev]
    rfl
  have emw : vAt A (mtf A (rn_nx A v)) = (y, 1) := by
    rw [vAt_mtf hR.1.1 hvn, ew]
    rfl
  rw [← hx, ← hy] at t3 t4 e1
  have hov : bsA A (x, 0) (y, 0) := by
    have := bs_v hn hv
    rw [ev, ew] at this
    exact this
  obtain ⟨s, s', hs, hun⟩ : ∃ s s' : vT, (s = (x, 1) ∧ s' = (y, 1) ∨ s = (y, 1) ∧ s' = (x, 1)) ∧ bsA A s s' := by
    rcases t5 with e | e
    · have := bs_v hn (mtf_lt hd hv)
      rw [e, emv, emw] at this
      exact ⟨_, _, Or.inl ⟨rfl, rfl⟩, this⟩
    · have := bs_v hn (mtf_lt hd hvn)
      rw [e, emv, emw] at this
      exact ⟨_, _, Or.inr ⟨rfl, rfl⟩, this⟩
  have hxc : x < R.1 := ((hok.2 _).mp (by rw [← ev]; exact vAt_mem hv : ((x, 0) : vT) ∈ A.flatten)).1
  have hyc : y < R.1 := ((hok.2 _).mp (by rw [← ew]; exact vAt_mem hvn : ((y, 0) : vT) ∈ A.flatten)).1
  have s1 : s.2 = 1 ∧ s'.2 = 1 ∧ (s.1 = x ∨ s.1 = y) ∧ (s'.1 = x ∨ s'.1 = y) ∧ s ≠ s' := by
    rcases hs with ⟨rfl, rfl⟩ | ⟨rfl, rfl⟩
    · exact ⟨rfl, rfl, Or.inl rfl, Or.inr rfl, fun e9 => t3 (congrArg Prod.fst e9)⟩
    · exact ⟨rfl, rfl, Or.inr rfl, Or.inl rfl, fun e9 => t3 (congrArg Prod.fst e9).symm⟩
  have ne0 : ∀ {z : Nat} {t : vT}, t.2 = 1 → ((z, 0) : vT) ≠ t := fun {z t} h9 e9 => by
    rw [← e9] at h9
    exact absurd (show 0 = 1 from h9) (by decide)
  have eF := fl_two (A := A) (x := x) (y := y) hu hs
  have n1 : (flA s s' A).flatten.Nodup := by
    have e : (flA s s' A).flatten = A.flatten.filter (fun q => decide (q ≠ s) && decide (q ≠ s')) := (List.filter_flatten).symm
    rw [e]
    exact List.Sublist.nodup List.filter_sublist hn
  have hov1 : bsA (flA s s' A) (x, 0) (y, 0) := bs_fl9 hn hov (ne0 s1.1) (ne0 s1.2.1) (ne0 s1.1) (ne0 s1.2.1)
  have m0x : ((x, 0) : vT) ∈ A.flatten := (hok.2 _).mpr ⟨hxc, by show 0 < 2; omega⟩
  have m0y : ((y, 0) : vT) ∈ A.flatten := (hok.2 _).mpr ⟨hyc, by show 0 < 2; omega⟩
  have hlen : RB.1 + 2 = R.1 := by
    obtain ⟨f', j1, -⟩ := iso_rm hR m0x
    obtain ⟨f2, i1, -⟩ := iso_rm j1 (x0 := y) ((wox_mem hu).mpr ⟨m0y, fun e9 => t3 e9.symm⟩)
    rw [← woA_wox hu y, ← e1] at i1
    have l1 := i1.1.2.1
    have l2 := hV.1.2.1
    have l1 : A'.flatten.length = 2 * (R.1 - 1 - 1) := l1
    omega
  have memA : ∀ {p : vT}, p ∈ A.flatten → p.1 ≠ x → p.1 ≠ y → p ∈ A'.flatten := fun {p} hp h1 h2 => by
    rw [e1, woA_fl, List.mem_filter]
    refine ⟨hp, ?_⟩
    rw [decide_eq_true h1, decide_eq_true h2]
    rfl
  have memB : ∀ {p : vT}, p ∈ A'.flatten → p.1 ≠ x ∧ p.1 ≠ y := fun {p} hp => by
    rw [e1, woA_fl, List.mem_filter] at hp
    have := Bool.and_eq_true_iff.mp hp.2
    exact ⟨of_decide_eq_true this.1, of_decide_eq_true this.2⟩
  obtain ⟨f1, hf1⟩ : ∃ f1 : Nat → Nat, f1 = fun z => if z = x then RB.1 else if z = y then RB.1 + 1 else f z := ⟨_, rfl⟩
  have f1x : f1 x = RB.1 := by rw [hf1]; exact if_pos rfl
  have f1y : f1 y = RB.1 + 1 := by
    rw [hf1]
    show (if y = x then _ else _) = _
    rw [if_neg (fun e9 => t3 e9.symm), if_pos rfl]
  have f1n : ∀ {z : Nat}, z ≠ x → z ≠ y → f1 z = f z := fun {z} h1 h2 => by
    rw [hf1]
    show (if z = x then _ else _) = _
    rw [if_neg h1, if_neg h2]
  have flt : ∀ {z : Nat}, z < R.1 → z ≠ x → z ≠ y → f z < RB.1 := fun {z} h1 h2 h3 => hV.1.2.2.2.1 (z, 0) (memA ((hok.2 _).mpr ⟨h1, by show 0 < 2; omega⟩) h2 h3)
  have cas : ∀ z, z < RB.1 + 2 → z = x ∧ f1 z = RB.1 ∨ z = y ∧ f1 z = RB.1 + 1 ∨ z ≠ x ∧ z ≠ y ∧ f1 z = f z ∧ f z < RB.1 := by
    intro z hz
    by_cases ex : z = x
    · exact Or.inl ⟨ex, by rw [ex]; exact f1x⟩
    · by_cases ey : z = y
      · exact Or.inr (Or.inl ⟨ey, by rw [ey]; exact f1y⟩)
      · exact Or.inr (Or.inr ⟨ex, ey, f1n ex ey, flt (by omega) ex ey⟩)
  have finj : ∀ z w, z < RB.1 + 2 → w < RB.1 + 2 → f1 z = f1 w → z = w := by
    intro z w hz hw h9
    rcases cas z hz with ⟨a1, a2⟩ | ⟨a1, a2⟩ | ⟨a1, a2, a3, a4⟩ <;> rcases cas w hw with ⟨b1, b2⟩ | ⟨b1, b2⟩ | ⟨b1, b2, b3, b4⟩
    · rw [a1, b1]
    · omega
    · omega
    · omega
    · rw [a1, b1]
    · omega
    · omega
    · omega
    · rw [a3, b3] at h9
      exact hV.1.2.2.2.2.1 (z, 0) (w, 0) (memA ((hok.2 _).mpr ⟨by show z < R.1; omega, by show 0 < 2; omega⟩) a1 a2) (memA ((hok.2 _).mpr ⟨by show w < R.1; omega, by show 0 < 2; omega⟩) b1 b2) h9
  have hgin : gin (gl f1) A.flatten := by
    intro p q hp hq e9
    have h1 := (hok.2 p).mp hp
    have h2 := (hok.2 q).mp hq
    have e9 : 2 * f1 p.1 + p.2 = 2 * f1 q.1 + q.2 := e9
    exact Prod.ext (finj _ _ (by omega) (by omega) (by omega)) (by omega)
  have hgin1 : gin (gl f1) (flA s s' A).flatten := gin_sub hgin (fun a ha => (flA_mem.mp ha).1)
  have hne0 : ((x, 0) : vT) ≠ (y, 0) := fun e9 => t3 (congrArg Prod.fst e9)
  obtain ⟨af1, haf1, hput1⟩ := rput (g := gl f1) n1 hov1 hne0 hgin1
  obtain ⟨af2, haf2, hput2⟩ := rput (g := gl f1) hn hun s1.2.2.2.2 hgin
  rw [eF, ← e1] at haf1 hput1
  have gx : gl f1 (x, 0) = 2 * RB.1 := by
    show 2 * f1 x + 0 = _
    rw [f1x]
    omega
  have gy : gl f1 (y, 0) = 2 * RB.1 + 2 := by
    show 2 * f1 y + 0 = _
    rw [f1y]
    omega
  rw [gx, gy] at hput1
  have gA : ∀ {p : vT}, p ∈ A'.flatten → gl f1 p = gl f p ∧ gl f1 p < 2 * RB.1 := fun {p} hp => by
    obtain ⟨h1, h2⟩ := memB hp
    have h3 := hV.1.2.2.2.1 p hp
    have h4 := (hV.1.1.2 p hp).2.1
    have e9 : gl f1 p = gl f p := by
      show 2 * f1 p.1 + p.2 = 2 * f p.1 + p.2
      rw [f1n h1 h2]
    refine ⟨e9, ?_⟩
    rw [e9]
    show 2 * f p.1 + p.2 < _
    omega
  obtain ⟨c1, hc1⟩ : ∃ c1 : Nat, c1 = if sg' x then 1 else 0 := ⟨_, rfl⟩
  obtain ⟨c2, hc2⟩ : ∃ c2 : Nat, c2 = if s = (x, 1) then 0 else 1 := ⟨_, rfl⟩
  have c1l : c1 < 2 := by rw [hc1]; split <;> omega
  have c2l : c2 < 2 := by rw [hc2]; split <;> omega
  obtain ⟨ch, hch⟩ : ∃ ch : Nat, ch = c1 + 2 * c2 := ⟨_, rfl⟩
  have ch4 : ch < 4 := by omega
  have ch2 : ch % 2 = if sg' x then 1 else 0 := by rw [← hc1]; omega
  have ch3 : ch / 2 % 2 = if s = (x, 1) then 0 else 1 := by rw [← hc2]; omega
  have gss : gl f1 s = (if ch / 2 % 2 = 0 then 2 * RB.1 + 1 else 2 * RB.1 + 3) ∧ gl f1 s' = if ch / 2 % 2 = 0 then 2 * RB.1 + 3 else 2 * RB.1 + 1 := by
    rw [ch3]
    rcases hs with ⟨e, e'⟩ | ⟨e, e'⟩
    · rw [if_pos e, if_pos rfl, if_pos rfl, e, e']
      show 2 * f1 x + 1 = _ ∧ 2 * f1 y + 1 = _
      rw [f1x, f1y]
      omega
    · rw [if_neg (fun e9 => t3 (congrArg Prod.fst (e.symm.trans e9)).symm), if_neg (by decide), if_neg (by decide), e, e']
      show 2 * f1 y + 1 = _ ∧ 2 * f1 x + 1 = _
      rw [f1x, f1y]
      omega
  rw [gss.1, gss.2] at hput2
  obtain ⟨o, o1, o2, o3⟩ : ∃ o, o ≤ 2 * RB.1 ∧ mv_af RB o = af1 ∧ (o = 2 * RB.1 → af1 = none ∧ 0 < RB.2.1) := by
    rcases haf1 with ⟨p, hp, -, e9⟩ | ⟨e9, h9⟩
    · have := (gA hp).2
      refine ⟨gl f1 p, by omega, ?_, fun h8 => by omega⟩
      unfold mv_af
      rw [if_neg (by omega), e9]
    · refine ⟨2 * RB.1, Nat.le_refl _, ?_, fun _ => ⟨e9, ?_⟩⟩
      · unfold mv_af
        rw [if_pos rfl, e9]
      · rw [← hV.1.2.2.2.2.2.2.2]
        exact h9
  have hC0 : cirs A' = RB.2.1 := hV.1.2.2.2.2.2.2.2
  have hS0 : ∀ Q : ow_NT, shP (nt_add (nt_add (nt_copy Q RB) (mv_s1 ch)) (mv_s2 ch)).2.2.1 (gl f1) A' := fun Q => shP_gcg hV.1.1.1 (fun p hp => (gA hp).1) (isoV_cpy (Q := Q) hV).2
  have step1 : ∀ Q : ow_NT, shP (mv_t3a Q RB o ch).2.2.1 (gl f1) (flA s s' A) ∧ cirs (flA s s' A) = (mv_t3a Q RB o ch).2.1 := fun Q => by
    unfold mv_t3a
    rw [o2]
    exact hput1 _ (hS0 Q) hC0
  obtain ⟨u, u1, u2, u3⟩ : ∃ u, u < 2 * RB.1 + 2 ∧ mv_au RB u = af2 ∧ (u = 2 * RB.1 + 1 → 0 < cirs (flA s s' A)) := by
    rcases haf2 with ⟨p, hp, hps, e9⟩ | ⟨e9, h9⟩
    · have hp2 := flA_mem.mp hp
      have hpo := (hok.2 p).mp hp2.1
      by_cases ex : p.1 = x
      · -- the first visit over has the second one behind it
        have e2 : p.2 = 0 := by
          rcases (show p.2 = 0 ∨ p.2 = 1 by omega) with e2 | e2
          · exact e2
          · exfalso
            have ep : p = (x, 1) := Prod.ext ex e2
            rcases hs with ⟨h8, h7⟩ | ⟨h8, h7⟩
            · exact hp2.2.1 (ep.trans h8.symm)
            · exact hp2.2.2 (ep.trans h7.symm)
        have ep : p = (x, 0) := Prod.ext ex e2
        rw [ep] at hps
        have := bs_uni hn hov hps
        exact absurd this (ne0 s1.1)
      · by_cases ey : p.1 = y
        · have e2 : p.2 = 0 := by
            rcases (show p.2 = 0 ∨ p.2 = 1 by omega) with e2 | e2
            · exact e2
            · exfalso
              have ep : p = (y, 1) := Prod.ext ey e2
              rcases hs with ⟨h8, h7⟩ | ⟨h8, h7⟩
              · exact hp2.2.2 (ep.trans h7.symm)
              · exact hp2.2.1 (ep.trans h8.symm)
          have ep : p = (y, 0) := Prod.ext ey e2
          refine ⟨2 * RB.1, by omega, ?_, fun h8 => by omega⟩
          unfold mv_au
          rw [if_neg (by omega), if_pos rfl, e9, ep, gy]
        · have := (gA (memA hp2.1 ex ey)).2
          refine ⟨gl f1 p, by omega, ?_, fun h8 => by omega⟩
          unfold mv_au
          rw [if_pos this, e9]
    · refine ⟨2 * RB.1 + 1, by omega, ?_, fun _ => h9⟩
      unfold mv_au
      rw [if_neg (by omega), if_neg (by omega), e9]
  have hnd : mv_nd RB o u ≤ RB.2.1 := by
    have hA1 := (step1 RB).2
    have eT : (mv_t3a RB RB o ch).2.1 = if af1 = none then RB.2.1 - 1 else RB.2.1 := by
      unfold mv_t3a
      rw [o2]
      cases af1 <;> rfl
    rw [eT] at hA1
    unfold mv_nd
    by_cases ho : o = 2 * RB.1
    · obtain ⟨q1, q2⟩ := o3 ho
      rw [if_pos q1] at hA1
      rw [if_pos ho]
      by_cases hu9 : u = 2 * RB.1 + 1
      · have := u3 hu9
        rw [if_pos hu9]
        omega
      · rw [if_neg hu9]
        omega
    · rw [if_neg ho]
      by_cases hu9 : u = 2 * RB.1 + 1
      · have := u3 hu9
        rw [if_pos hu9]
        split at hA1 <;> omega
      · rw [if_neg hu9]
        omega
  have iso9 : ∀ Q : ow_NT, isoV A sg' f1 (mv_t3b Q RB o u ch) := fun Q => by
    obtain ⟨q1, q2⟩ := hput2 (mv_t3a Q RB o ch) (step1 Q).1 (step1 Q).2
    rw [← u2] at q1 q2
    refine iso_mk (c := RB.1 + 2) (by rw [hlen]; exact hok) (by omega) t3b_1 (fun z hz => ?_) finj q1 (fun z hz => ?_) q2
    · rcases cas z hz with ⟨-, a2⟩ | ⟨-, a2⟩ | ⟨-, -, a3, a4⟩ <;> omega
    · rw [t3b_G, su_at]
      rcases cas z hz with ⟨a1, a2⟩ | ⟨a1, a2⟩ | ⟨a1, a2, a3, a4⟩
      · rw [a2, if_neg (by omega), su_at, if_pos rfl, a1]
        unfold mv_s1
        rw [ch2]
        cases sg' x <;> decide
      · rw [a2, if_pos rfl, a1]
        unfold mv_s2
        rw [ch2]
        have t4' : sg' y = !sg' x := by
          revert t4
          cases sg' x <;> cases sg' y <;> simp
        rw [t4']
        cases sg' x <;> decide
      · rw [a3, if_neg (by omega), su_at, if_neg (by omega)]
        exact (isoV_cpy (Q := Q) hV).1.2.2.2.2.2.2.1 (z, 0) (memA ((hok.2 _).mpr ⟨by show z < R.1; omega, by show 0 < 2; omega⟩) a1 a2)
  have hcn : mv_cnt RB.1 3 = (2 * RB.1 + 1) * (2 * RB.1 + 2) * 4 := if_pos (by omega)
  refine ⟨(o * (2 * RB.1 + 2) + u) * 4 + ch, ?_, fun F P Q hmk hQ => ?_⟩
  · rw [hcn]
    have m1 := Nat.mul_le_mul_right (2 * RB.1 + 2) o1
    have m2 : (2 * RB.1 + 1) * (2 * RB.1 + 2) = 2 * RB.1 * (2 * RB.1 + 2) + (2 * RB.1 + 2) := Nat.succ_mul _ _
    generalize (2 * RB.1 + 1) * (2 * RB.1 + 2) = m3 at m2 ⊢
    generalize 2 * RB.1 * (2 * RB.1 + 2) = m4 at m1 m2
    generalize o * (2 * RB.1 + 2) = m5 at m1 ⊢
    omega
  · have d1 : ((o * (2 * RB.1 + 2) + u) * 4 + ch) / 4 = o * (2 * RB.1 + 2) + u := by omega
    have d2 : ((o * (2 * RB.1 + 2) + u) * 4 + ch) % 4 = ch := by omega
    have d3 : (o * (2 * RB.1 + 2) + u) / (2 * RB.1 + 2) = o := by
      rw [Nat.mul_comm, Nat.mul_add_div (by omega), Nat.div_eq_of_lt (by omega), Nat.add_zero]
    have d4 : (o * (2 * RB.1 + 2) + u) % (2 * RB.1 + 2) = u := by
      rw [Nat.mul_comm, Nat.mul_add_mod, Nat.mod_eq_of_lt (by omega)]
    have hi := iso9 Q
    have hpl9 : nt_plane (mv_t3b Q RB o u ch) = true := hpl _ _ hi (t3b_p hp)
    have hb3 : mv_b3 RB F P o u = true := by
      unfold mv_b3
      rw [decide_eq_true hnd, Bool.true_and]
      by_cases h1 : o < 2 * RB.1
      · by_cases h2 : u < 2 * RB.1
        · rw [hM F P Q o u ch hmk hQ (by omega) ch4 h1 h2 hpl9]
          rw [Bool.not_true, Bool.and_false, Bool.and_false]
          rfl
        · rw [decide_eq_false h2, Bool.false_and, Bool.and_false]
          rfl
      · rw [decide_eq_false h1, Bool.false_and]
        rfl
    show (mv_b3 RB F P (((o * (2 * RB.1 + 2) + u) * 4 + ch) / 4 / (2 * RB.1 + 2)) (((o * (2 * RB.1 + 2) + u) * 4 + ch) / 4 % (2 * RB.1 + 2)) && nt_plane (mv_t3b Q RB (((o * (2 * RB.1 + 2) + u) * 4 + ch) / 4 / (2 * RB.1 + 2)) (((o * (2 * RB.1 + 2) + u) * 4 + ch) / 4 % (2 * RB.1 + 2)) (((o * (2 * RB.1 + 2) + u) * 4 + ch) % 4))) = true ∧ ∃ f, isoV _ _ f (mv_t3 Q RB F P (((o * (2 * RB.1 + 2) + u) * 4 + ch) / 4 / (2 * RB.1 + 2)) (((o * (2 * RB.1 + 2) + u) * 4 + ch) / 4 % (2 * RB.1 + 2)) (((o * (2 * RB.1 + 2) + u) * 4 + ch) % 4))
    rw [d1, d2, d3, d4, hb3, hpl9]
    refine ⟨rfl, f1, ?_⟩
    unfold mv_t3
    rw [if_pos hb3]
    exact hi
end XTB4
