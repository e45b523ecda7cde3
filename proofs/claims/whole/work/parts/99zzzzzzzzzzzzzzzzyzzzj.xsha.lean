/-! signature, the reference: a part, exactly -/
section XSHA
variable {z : ow_MS} {T : ow_NT} {nn Pc : Nat} {M : Nat → Int32} {φ ψ : Nat → Nat} {w cf : Nat → Bool}
theorem xr_sigOf {n F P p v0 c pc : Nat} {A : rn_L} {sg : Nat → Bool} {fl : Nat → Nat} (hn : mw_net n) (hok : okF A.flatten c) (hc : c ≤ 12) (hI : fcI z n A sg F P) (hp : p < P) (hv0 : inP A (z.2.1 (n + 12)) p v0) (hfl : ∀ s, s < 2 * A.flatten.length → z.2.1 (n + 14) s = nI (fl s) ∧ fl s < F) (h : fcD9 T.1 T.2.2.1 T.2.2.2 w nn Pc M φ ψ cf) (hV : isoV A sg idN T) (hp1 : pm1 T) (hpc : pc < Pc) (hqA : ∀ v, v < A.flatten.length → (inP A (z.2.1 (n + 12)) p v ↔ qP9 M pc (lbv A idN v) = true)) (hfc : ∀ s, s < 2 * A.flatten.length → fl (phi A sg s) = fl s) (hfi : ∀ s t, s < 2 * A.flatten.length → t < 2 * A.flatten.length → fl s = fl t → φ (psS A s) = φ (psS A t)) : Te (fun K => qe_X13_signatureOf K n (nI v0) z) (fun r => r.1 = iI (vlG9 T.1 T.2.2.1 T.2.2.2 w nn M φ ψ cf pc) ∧ fr sgH z r.2) := by
  have hVl := okF_len hok
  have hmn := net_mod hn
  have hd := wkF_ok hI.1.wk
  have hC := hI.1.2.2.2
  have hi := isoS_iff.mp hV.1
  have hv := h.1
  have hw := h.2.1
  have hcT : T.1 ≤ 12 := h.2.2.2.2.2.2.2.2.2.2.2.2.1
  have ec : A.flatten.length = 2 * T.1 := hi.2.1
  have hv0l := hv0.1
  have F80 : F ≤ 80 := by
    have := hI.2.1.2.1
    omega
  -- colours of the reference's faces
  have kcb : ∀ s t, s < 2 * A.flatten.length → t < 2 * A.flatten.length → fl s = fl t → kS w (psS A s) = kS w (psS A t) := fun s t hs ht e => by
    rw [h.2.2.2.2.1 _ (ps_lt hV hs), h.2.2.2.2.1 _ (ps_lt hV ht), hfi s t hs ht e]
  obtain ⟨cb, hcb⟩ : ∃ cb : Nat → Bool, ∀ s, s < 2 * A.flatten.length → kS w (psS A s) = cb (fl s) := by
    have hex : ∀ f, ∃ b : Bool, ∀ s, s < 2 * A.flatten.length → fl s = f → kS w (psS A s) = b := fun f => by
      by_cases hs : ∃ s, s < 2 * A.flatten.length ∧ fl s = f
      · obtain ⟨s, s1, s2⟩ := hs
        exact ⟨kS w (psS A s), fun t t1 t2 => kcb t s t1 s1 (by rw [t2, s2])⟩
      · exact ⟨true, fun s s1 s2 => absurd ⟨s, s1, s2⟩ hs⟩
    exact ⟨fun f => Classical.choose (hex f), fun s hs => Classical.choose_spec (hex (fl s)) s hs rfl⟩
  have kL : ∀ v, v < A.flatten.length → cb (fl (2 * v)) = w (lbv A idN v) ∧ cb (fl (2 * v + 1)) = !w (lbv A idN v) := fun v hv1 => by
    have k1 := hcb (2 * v) (by omega)
    have k2 := hcb (2 * v + 1) (by omega)
    have p1 : psS A (2 * v) = 2 * lbv A idN v := by
      unfold psS
      rw [show 2 * v / 2 = v by omega]
      omega
    have p2 : psS A (2 * v + 1) = 2 * lbv A idN v + 1 := by
      unfold psS
      rw [show (2 * v + 1) / 2 = v by omega]
      omega
    rw [p1] at k1
    rw [p2] at k2
    unfold kS at k1 k2
    rw [if_pos (by omega), show 2 * lbv A idN v / 2 = lbv A idN v by omega] at k1
    rw [if_neg (by omega), show (2 * lbv A idN v + 1) / 2 = lbv A idN v by omega] at k2
    exact ⟨k1.symm, k2.symm⟩
  generalize hκ : w (lbv A idN v0) = κ
  have cb0 : cb (fl (2 * v0)) = κ := by rw [(kL v0 hv0l).1]; exact hκ
  -- the white ones
  obtain ⟨wh, hwh⟩ : ∃ wh : Nat → Bool, ∀ f, wh f = true ↔ ∃ s, inP A (z.2.1 (n + 12)) p (s / 2) ∧ fl s = f ∧ cb f = cb (fl (2 * v0)) := by
    have hex : ∀ f, ∃ b : Bool, b = true ↔ ∃ s, inP A (z.2.1 (n + 12)) p (s / 2) ∧ fl s = f ∧ cb f = cb (fl (2 * v0)) := fun f => by
      by_cases hs : ∃ s, inP A (z.2.1 (n + 12)) p (s / 2) ∧ fl s = f ∧ cb f = cb (fl (2 * v0))
      · exact ⟨true, ⟨fun _ => hs, fun _ => rfl⟩⟩
      · exact ⟨false, ⟨fun h9 => absurd h9 (by decide), fun h9 => absurd h9 hs⟩⟩
    exact ⟨fun f => Classical.choose (hex f), fun f => Classical.choose_spec (hex f)⟩
  obtain ⟨R, hR, ek, hRs⟩ := ref_nb (F := F) (κ := κ) (fl := fl) (wh := wh) (qA := fun v => qP9 M pc (lbv A idN v)) h hV hp1 hpc (fun _ _ => rfl) (fun s hs => (hfl s hs).2) hfc hfi (fun s hs hsq => by
    have hP := (hqA (s / 2) (by omega)).mpr hsq
    rw [hwh, hcb s hs, cb0]
    exact ⟨fun ⟨t, t1, t2, t3⟩ => t3, fun h9 => ⟨s, hP, rfl, h9⟩⟩) (fun f hf hq => by
    obtain ⟨s, s1, s2, s3⟩ := (hwh f).mp hq
    have hsl := s1.1
    refine ⟨s, by omega, (hqA _ hsl).mp s1, ?_, s2⟩
    rw [hcb s (by omega), s2, s3]
    exact cb0)
  have eu := eul_p h hpc κ
  have kp := kF_pos h hpc (!κ)
  have kp1 := kF_pos h hpc κ
  have cl := nF_le (fun x => qP9 M pc (2 * x)) T.1
  have k13 : nF wh F ≤ 13 := by omega
  have val := vl_all h hpc hR
  rw [← ek] at val hR
  generalize hk : nF wh F = k at val hR ek k13
  have k1 : 1 ≤ k := by omega
  obtain ⟨E, hE⟩ := isZ_E (M := mtZ9 T.1 T.2.2.1 T.2.2.2 w (qP9 M pc) κ R) (k - 1)
  have hb := mt_bd hcT hE
  -- whatever stands at both sides or none
  have hall : ∀ K : Nat → Prop, (∀ v, inP A (z.2.1 (n + 12)) p v → (K (fl (2 * v)) ↔ K (fl (2 * v + 1)))) → K (fl (2 * v0)) → ∀ v, inP A (z.2.1 (n + 12)) p v → K (fl (2 * v)) ∧ K (fl (2 * v + 1)) := by
    intro K hK hK0 v hvP
    obtain ⟨isd, hisd⟩ : ∃ isd : Nat → Nat, ∀ a, a < 4 * T.1 → isd a < 2 * A.flatten.length ∧ psS A (isd a) = a := by
      refine Classical.axiomOfChoice (r := fun a s => a < 4 * T.1 → s < 2 * A.flatten.length ∧ psS A s = a) (fun a => ?_)
      by_cases ha : a < 4 * T.1
      · obtain ⟨s, s1, s2⟩ := ps_sur hV ha
        exact ⟨s, fun _ => ⟨s1, s2⟩⟩
      · exact ⟨0, fun h9 => absurd h9 ha⟩
    have back : ∀ s, s < 2 * A.flatten.length → isd (psS A s) = s := fun s hs => by
      obtain ⟨a1, a2⟩ := hisd _ (ps_lt hV hs)
      exact ps_inj hV a1 hs a2
    have on9 : ∀ a, a < 4 * T.1 → (fun a => fl (isd a)) (fc_on T.2.2.1 T.2.2.2 a) = (fun a => fl (isd a)) a := fun a ha => by
      obtain ⟨a1, a2⟩ := hisd a ha
      have e := ps_on hV hp1 a1
      rw [a2] at e
      have hl := phi_lt (sg := sg) hd a1
      show fl (isd (fc_on T.2.2.1 T.2.2.2 a)) = fl (isd a)
      rw [e, back _ hl, hfc _ a1]
    have two : ∀ u, u < A.flatten.length → isd (2 * lbv A idN u) = 2 * u ∧ isd (2 * lbv A idN u + 1) = 2 * u + 1 := fun u hu => by
      have p1 : psS A (2 * u) = 2 * lbv A idN u := by
        unfold psS
        rw [show 2 * u / 2 = u by omega]
        omega
      have p2 : psS A (2 * u + 1) = 2 * lbv A idN u + 1 := by
        unfold psS
        rw [show (2 * u + 1) / 2 = u by omega]
        omega
      have b1 := back (2 * u) (by omega)
      have b2 := back (2 * u + 1) (by omega)
      rw [p1] at b1
      rw [p2] at b2
      exact ⟨b1, b2⟩
    have res := paint_all (G := T.2.2.2) (φ := fun a => fl (isd a)) (K := K) hv (ptQ_of h pc) on9 (fun u hu huq => by
      obtain ⟨o, o1, o2⟩ := lbv_sur hi hu
      have t := two o o1
      have o2 : lbv A idN o = u := o2
      rw [o2] at t
      rw [t.1, t.2]
      exact hK o ((hqA o o1).mpr (by rw [o2]; exact huq))) (v0 := lbv A idN v0) (lbv_lt hi hv0l) ((hqA v0 hv0l).mp hv0) (by
      rw [(two v0 hv0l).1]
      exact hK0) (lbv A idN v) (lbv_lt hi hvP.1) ((hqA v hvP.1).mp hvP)
    rw [(two v hvP.1).1, (two v hvP.1).2] at res
    exact res
  let Q : Int32 × ow_MS → Prop := fun r => r.1 = iI (vlG9 T.1 T.2.2.1 T.2.2.2 w nn M φ ψ cf pc) ∧ fr sgH z r.2
  have iF : ∀ {y : ow_MS}, fr sgH z y → fcI y n A sg F P := fun hf => fcI_fr hn hf (fun g hg => by unfold sgH at hg; omega) hI
  have hcc0 := (rn_c_in A v0 hv0l).1
  refine e_X13_signatureOf ?_
  refine u_X13_signatureOf_0 ?_; unfold qm_X13_signatureOf_0
  refine w_rdI (pl8 hn) rfl (by omega) (lk_c hI.1.1 hv0.1) (w_rdI (pl12 hn) rfl (by omega) hv0.2 (w_cs1 (xr_colour (cb := cb) (wh := wh) hn hok hc hI hp hv0 hfl (fun v hvP => by rw [(kL v hvP.1).1, (kL v hvP.1).2, Bool.not_not]) hall (fun f _ => hwh f) (by omega)) (fun a1 z1 ⟨ek1, f1, w1, w2⟩ => ?_)))
  have ek1 : a1 = nI k := by rw [← hk]; exact ek1
  have f1 : fr (fun g => g = 52 ∨ g = 53) z z1 := f1
  have w1 : ∀ s, inP A (z.2.1 (n + 12)) p (s / 2) → z1.2.1 52 (fl s) = if cb (fl s) = cb (fl (2 * v0)) then 1 else 2 := w1
  have w2 : ∀ f, f < F → wh f = true → z1.2.1 53 f = nI (nF wh f) := w2
  rw [ek1]
  have hf1 : fr sgH z z1 := fr_mono (fun g hg => by unfold sgH; omega) f1
  -- the rows of white sides
  have row : ∀ s, s < 2 * A.flatten.length → inP A (z.2.1 (n + 12)) p (s / 2) → cb (fl s) = κ → z1.2.1 53 (fl s) = nI (R (lbv A idN (s / 2))) ∧ R (lbv A idN (s / 2)) < k := fun s hs hsP hsc => by
    have hq : wh (fl s) = true := (hwh _).mpr ⟨s, hsP, rfl, by rw [hsc, cb0]⟩
    have e1 := hRs s hs ((hqA _ hsP.1).mp hsP) (by rw [hcb s hs]; exact hsc)
    rw [e1]
    refine ⟨w2 _ (hfl s hs).2 hq, ?_⟩
    rw [← hk]
    exact nF_lt (hfl s hs).2 hq
  have c2 : ∀ (d o : Nat) (x5 : Int32) (y : ow_MS), o + d = A.flatten.length → fr (fun g => g = 54) z1 y → x5 = iI (zS9 (fun o => if uns A o = 0 ∧ qP9 M pc (lbv A idN o) = true then (fun x => if w (fV9 T.2.2.2 x) = κ then 0 else sgI9 T.2.2.2 x) (crs A o) else 0) o) → mtB9 y (fun i j => zS9 (fun o => if uns A o = 0 ∧ qP9 M pc (lbv A idN o) = true then (fun x => tI9 T.2.2.2 w κ x * rwZ9 T.2.2.1 T.2.2.2 R x i * rwZ9 T.2.2.1 T.2.2.2 R x j) (crs A o) else 0) o) → Tt (fun K i => q_X13_signatureOf K i 2 (nI v0) (nI p) (nI k) x5 (nI o) 0 0 0 0 0 0 0 0 0 0 0 n 0 0 y) Q := by
    intro d
    induction d with
    | zero =>
      intro o x5 y ho hy h5 hB
      have ho : o = A.flatten.length := by omega
      have zy : fr sgH z y := fr_tr hf1 (fr_mono (fun g hg => by unfold sgH; omega) hy)
      have r5 := reord hi (q := qP9 M pc) (qA := fun o => qP9 M pc (lbv A idN o)) (fun _ _ => rfl) (fun x => if w (fV9 T.2.2.2 x) = κ then 0 else sgI9 T.2.2.2 x)
      dsimp only at h5
      rw [ho, r5, ← cr_sum] at h5
      have hF : ∀ i j, i < k - 1 → j < k - 1 → y.2.2 54 (16 * i + j) = Int64.ofInt (mtZ9 T.1 T.2.2.1 T.2.2.2 w (qP9 M pc) κ R i j) := fun i j hi9 hj9 => by
        have a := hB i j (by omega) (by omega)
        dsimp only at a
        have b := reord hi (q := qP9 M pc) (qA := fun o => qP9 M pc (lbv A idN o)) (fun _ _ => rfl) (fun x => tI9 T.2.2.2 w κ x * rwZ9 T.2.2.1 T.2.2.2 R x i * rwZ9 T.2.2.1 T.2.2.2 R x j)
        rw [ho, b] at a
        exact a
      refine u_X13_signatureOf_2 ?_; unfold qm_X13_signatureOf_2
      rw [show nI k - 1 = nI (k - 1) from pk_sub (b := 1) k1]
      refine w_rdF (iF zy).1.1.V (w_leT (by omega) (by omega) (w_cs1 (xr_roots (by omega) hF hE (fun k9 hk9 => hb k9 (by omega))) (fun a y1 ⟨r1, f2⟩ => w_some ⟨?_, fr_tr zy (fr_mono (fun g hg => by unfold rtH at hg; unfold sgH; omega) f2)⟩)))
      have r1 : a = _ := r1
      show a - x5 = _
      rw [r1, h5, iI_sub, mtZ_cs, ← val]
      rfl
    | succ d ih =>
      intro o x5 y ho hy h5 hB
      have hol : o < A.flatten.length := by omega
      have zy : fr sgH z y := fr_tr hf1 (fr_mono (fun g hg => by unfold sgH; omega) hy)
      have hIy := iF zy
      have hO := hIy.1
      obtain ⟨x1, x2, x3⟩ := hO.cx hol
      have hcc := (rn_c_in A o hol).1
      have hml := mtf_lt hd hol
      have y14 : y.2.1 (n + 14) = z.2.1 (n + 14) := (zy (n + 14) (by unfold sgH; omega)).2.1
      have y12 : y.2.1 (n + 12) = z.2.1 (n + 12) := (zy (n + 12) (by unfold sgH; omega)).2.1
      have c10 : ∀ (x5 : Int32) (y : ow_MS), fr (fun g => g = 54) z1 y → x5 = iI (zS9 (fun o => if uns A o = 0 ∧ qP9 M pc (lbv A idN o) = true then (fun x => if w (fV9 T.2.2.2 x) = κ then 0 else sgI9 T.2.2.2 x) (crs A o) else 0) (o + 1)) → mtB9 y (fun i j => zS9 (fun o => if uns A o = 0 ∧ qP9 M pc (lbv A idN o) = true then (fun x => tI9 T.2.2.2 w κ x * rwZ9 T.2.2.1 T.2.2.2 R x i * rwZ9 T.2.2.1 T.2.2.2 R x j) (crs A o) else 0) (o + 1)) → Tt (fun K i => q_X13_signatureOf K i 10 (nI v0) (nI p) (nI k) x5 (nI o) 0 0 0 0 0 0 0 0 0 0 0 n 0 0 y) Q := by
        intro x5 y hy h5 hB
        refine u_X13_signatureOf_10 ?_; unfold qm_X13_signatureOf_10
        rw [nI_1]
        exact ih (o + 1) x5 y (by omega) hy h5 hB
      -- nothing is added
      have skip : ¬ (uns A o = 0 ∧ qP9 M pc (lbv A idN o) = true) → Tt (fun K i => q_X13_signatureOf K i 10 (nI v0) (nI p) (nI k) x5 (nI o) 0 0 0 0 0 0 0 0 0 0 0 n 0 0 y) Q := by
        intro hno
        refine c10 x5 y hy ?_ (fun i j hi9 hj9 => ?_)
        · rw [h5]
          show _ = iI (zS9 _ o + (if uns A o = 0 ∧ qP9 M pc (lbv A idN o) = true then _ else 0))
          rw [if_neg hno, Int.add_zero]
        · refine (hB i j hi9 hj9).trans (congrArg Int64.ofInt ?_)
          show _ = zS9 _ o + (if uns A o = 0 ∧ qP9 M pc (lbv A idN o) = true then _ else 0)
          rw [if_neg hno, Int.add_zero]
      have face : ∀ s, s < 2 * A.flatten.length → y.2.1 (n + 14) s = nI (fl s) ∧ fl s < 80 := fun s hs => by
        rw [y14]
        exact ⟨(hfl s hs).1, by have := (hfl s hs).2; omega⟩
      have lbo := lb_un hV hol
      -- a crossing of the part
      have c3 : uns A o = 0 → inP A (z.2.1 (n + 12)) p o → Tt (fun K i => q_X13_signatureOf K i 3 (nI v0) (nI p) (nI k) x5 (nI o) 0 0 0 0 0 0 0 0 0 0 0 n (if 0 < T.2.2.2 (crs A o) then 1 else 0) 0 y) Q := by
        intro hu0 hoP
        have hoq := (hqA o hol).mp hoP
        have hx : crs A o < T.1 := lbo.2.2.1
        have lo : lbv A idN o = 2 * crs A o := by omega
        have lm : lbv A idN (mtf A o) = 2 * crs A o + 1 := by
          rw [lbo.2.2.2.2, lo]
          exact (mt_2 _).1
        have hxq : qP9 M pc (2 * crs A o) = true := by rw [← lo]; exact hoq
        generalize hxx : crs A o = x at hx lo lm hxq
        have ht := fV_lt (G := T.2.2.2) hx
        have hmt := mt_lt ht
        -- the visit that goes ahead
        have c4 : ∀ u, u < A.flatten.length → lbv A idN u = fV9 T.2.2.2 x → Tt (fun K i => q_X13_signatureOf K i 4 (nI v0) (nI p) (nI k) x5 (nI o) (if 0 < T.2.2.2 x then 1 else 0) 0 0 0 0 0 0 0 0 0 0 n (nI u) 0 y) Q := by
          intro u hu hlu
          have hmu := mtf_lt hd hu
          have hpu := rn_pv_lt hu
          have hpm := rn_pv_lt hmu
          have lmu : lbv A idN (mtf A u) = mt (fV9 T.2.2.2 x) := by rw [(lb_un hV hu).2.2.2.2, hlu]
          have lpv : ∀ v, v < A.flatten.length → lbv A idN (rn_pv A v) = T.2.2.1.2 (lbv A idN v) := fun v hv1 => by
            have a := (lb_un hV (rn_pv_lt hv1)).2.2.2.1
            rw [nx_pv hv1] at a
            have b := (hv _ (lbv_lt hi (rn_pv_lt hv1))).2.2.1
            have b2 : T.2.2.1.2 (T.2.2.1.1 (lbv A idN (rn_pv A v))) = lbv A idN (rn_pv A v) := b
            rw [a] at b2
            exact b2.symm
          have lpu : lbv A idN (rn_pv A u) = T.2.2.1.2 (fV9 T.2.2.2 x) := by rw [lpv u hu, hlu]
          have lpm : lbv A idN (rn_pv A (mtf A u)) = T.2.2.1.2 (mt (fV9 T.2.2.2 x)) := by rw [lpv _ hmu, lmu]
          obtain ⟨q1, q2⟩ := fV_q (G := T.2.2.2) (ptQ_of h pc) hx
          have qb : ∀ v, v < 2 * T.1 → qP9 M pc (T.2.2.1.2 v) = qP9 M pc v := fun v hv1 => by
            have := ((ptQ_of h pc).1 _ (hv v hv1).2.1).1
            rw [(hv v hv1).2.2.2] at this
            exact this.symm
          have uP : inP A (z.2.1 (n + 12)) p u := (hqA u hu).mpr (by rw [hlu, q1]; exact hxq)
          have puP : inP A (z.2.1 (n + 12)) p (rn_pv A u) := (hqA _ hpu).mpr (by rw [lpu, qb _ ht, q1]; exact hxq)
          have pmP : inP A (z.2.1 (n + 12)) p (rn_pv A (mtf A u)) := (hqA _ hpm).mpr (by rw [lpm, qb _ hmt, q2]; exact hxq)
          have wf := (kL u hu)
          rw [hlu] at wf
          have wpu := (kL _ hpu).1
          rw [lpu] at wpu
          have wpm := (kL _ hpm).1
          rw [lpm] at wpm
          have wb : ∀ v, v < 2 * T.1 → w (T.2.2.1.2 v) = !w v := fun v hv1 => by
            have := (hw _ (hv v hv1).2.1).1
            rw [(hv v hv1).2.2.2] at this
            rw [this, Bool.not_not]
          have w9 := (hw _ ht).2
          obtain ⟨ea, ha⟩ := face (2 * u) (by omega)
          obtain ⟨ee, he⟩ := face (2 * u + 1) (by omega)
          obtain ⟨ew, hw0⟩ := face (2 * rn_pv A u) (by omega)
          obtain ⟨eb, hb0⟩ := face (2 * rn_pv A (mtf A u)) (by omega)
          have h2u : 2 * u / 2 = u := by omega
          have h2u1 : (2 * u + 1) / 2 = u := by omega
          have h2p : 2 * rn_pv A u / 2 = rn_pv A u := by omega
          have h2m : 2 * rn_pv A (mtf A u) / 2 = rn_pv A (mtf A u) := by omega
          have y52 : y.2.1 52 = z1.2.1 52 := (hy 52 (by omega)).2.1
          have y53 : y.2.1 53 = z1.2.1 53 := (hy 53 (by omega)).2.1
          have rA : w (fV9 T.2.2.2 x) = κ → y.2.1 53 (fl (2 * u)) = nI (R (fV9 T.2.2.2 x)) ∧ R (fV9 T.2.2.2 x) < k := fun hwf => by
            have a := row (2 * u) (by omega) (by rw [h2u]; exact uP) (by rw [wf.1]; exact hwf)
            rw [h2u, hlu] at a
            rw [y53]
            exact a
          have rB : w (fV9 T.2.2.2 x) = κ → y.2.1 53 (fl (2 * rn_pv A (mtf A u))) = nI (R (T.2.2.1.2 (fV9 T.2.2.2 x))) ∧ R (T.2.2.1.2 (fV9 T.2.2.2 x)) < k := fun hwf => by
            have a := row (2 * rn_pv A (mtf A u)) (by omega) (by rw [h2m]; exact pmP) (by rw [wpm, wb _ hmt, w9, Bool.not_not]; exact hwf)
            rw [h2m, lpm, ((hR.2.2 x hx hxq).1 hwf).2] at a
            rw [y53]
            exact a
          have rE : w (fV9 T.2.2.2 x) = !κ → y.2.1 53 (fl (2 * u + 1)) = nI (R (fV9 T.2.2.2 x)) ∧ R (fV9 T.2.2.2 x) < k := fun hwf => by
            have a := row (2 * u + 1) (by omega) (by rw [h2u1]; exact uP) (by rw [wf.2, hwf, Bool.not_not])
            rw [h2u1, hlu] at a
            rw [y53]
            exact a
          have rW : w (fV9 T.2.2.2 x) = !κ → y.2.1 53 (fl (2 * rn_pv A u)) = nI (R (T.2.2.1.2 (fV9 T.2.2.2 x))) ∧ R (T.2.2.1.2 (fV9 T.2.2.2 x)) < k := fun hwf => by
            have a := row (2 * rn_pv A u) (by omega) (by rw [h2p]; exact puP) (by rw [wpu, wb _ ht, hwf, Bool.not_not])
            rw [h2p, lpu] at a
            rw [y53]
            exact a
          -- the four writes
          have c8 : ∀ (x14 x15 : Int32) (t : Int) (f9 : Nat), f9 < 80 → R (fV9 T.2.2.2 x) < k → R (T.2.2.1.2 (fV9 T.2.2.2 x)) < k → y.2.1 53 f9 = nI (R (T.2.2.1.2 (fV9 T.2.2.2 x))) → t = tI9 T.2.2.2 w κ x → x15 = iI t → x14 = (if w (fV9 T.2.2.2 x) = κ then 1 else 0) → ∀ (x9 x10 x11 x12 x13 : Int32), Tt (fun K i => q_X13_signatureOf K i 8 (nI v0) (nI p) (nI k) x5 (nI o) (if 0 < T.2.2.2 x then 1 else 0) (nI u) x9 x10 x11 x12 x13 x14 x15 (nI (R (fV9 T.2.2.2 x))) 0 n (nI f9) 0 y) Q := by
            intro x14 x15 t f9 hf9 lA lB e9 etI e15 e14 x9 x10 x11 x12 x13
            have tl : x15.toInt64 = Int64.ofInt t := by
              rw [e15]
              rcases tI_pm (G := T.2.2.2) (w := w) (κ := κ) x with h9 | h9 <;> rw [etI, h9] <;> rfl
            obtain ⟨a1, a2, a3, a4, b1, b2, b3, b4, b5⟩ := mtB_4 (t := t) hB (show R (fV9 T.2.2.2 x) < 16 by omega) (show R (T.2.2.1.2 (fV9 T.2.2.2 x)) < 16 by omega)
            have fin : ∀ (y9 : ow_MS) (t0 : Int32), fr (fun g => g = 54) z1 y9 → mtB9 y9 (fun i j => zS9 (fun o => if uns A o = 0 ∧ qP9 M pc (lbv A idN o) = true then (fun x => tI9 T.2.2.2 w κ x * rwZ9 T.2.2.1 T.2.2.2 R x i * rwZ9 T.2.2.1 T.2.2.2 R x j) (crs A o) else 0) o + t * (zd9 i (R (fV9 T.2.2.2 x)) - zd9 i (R (T.2.2.1.2 (fV9 T.2.2.2 x)))) * (zd9 j (R (fV9 T.2.2.2 x)) - zd9 j (R (T.2.2.1.2 (fV9 T.2.2.2 x))))) → t0 = iI (if w (fV9 T.2.2.2 x) = κ then 0 else sgI9 T.2.2.2 x) → ∀ (x7 x8 x9 x10 x11 x12 x13 x14 x15 x16 x17 : Int32), Tt (fun K i => q_X13_signatureOf K i 9 (nI v0) (nI p) (nI k) x5 (nI o) x7 x8 x9 x10 x11 x12 x13 x14 x15 x16 x17 n t0 x5 y9) Q := by
              intro y9 t0 hy9 hB9 ht0 x7 x8 x9 x10 x11 x12 x13 x14 x15 x16 x17
              refine u_X13_signatureOf_9 ?_; unfold qm_X13_signatureOf_9
              refine c10 _ y9 hy9 ?_ (fun i j hi9 hj9 => ?_)
              · rw [h5, ht0, iI_add]
                refine congrArg iI ?_
                show _ = zS9 _ o + (if uns A o = 0 ∧ qP9 M pc (lbv A idN o) = true then (fun x => if w (fV9 T.2.2.2 x) = κ then 0 else sgI9 T.2.2.2 x) (crs A o) else 0)
                rw [if_pos (show uns A o = 0 ∧ qP9 M pc (lbv A idN o) = true from ⟨hu0, hoq⟩), hxx]
              · refine (hB9 i j hi9 hj9).trans (congrArg Int64.ofInt ?_)
                show _ = zS9 _ o + (if uns A o = 0 ∧ qP9 M pc (lbv A idN o) = true then (fun x => tI9 T.2.2.2 w κ x * rwZ9 T.2.2.1 T.2.2.2 R x i * rwZ9 T.2.2.1 T.2.2.2 R x j) (crs A o) else 0)
                rw [if_pos (show uns A o = 0 ∧ qP9 M pc (lbv A idN o) = true from ⟨hu0, hoq⟩), hxx, etI]
                rfl
            refine u_X13_signatureOf_8 ?_; unfold qm_X13_signatureOf_8
            refine w_rdI ml53 rfl hf9 e9 ?_
            rw [s16_ix, s16_ix, s16_ix, s16_ix, tl]
            refine w_rdJ ml54 rfl (by omega) b1 (w_wrJ ml54 rfl (by omega) ?_)
            rw [← Int64.ofInt_add]
            refine w_rdJ ml54 rfl (by omega) b2 (w_wrJ ml54 rfl (by omega) ?_)
            rw [← Int64.ofInt_add]
            refine w_rdJ ml54 rfl (by omega) b3 (w_wrJ ml54 rfl (by omega) ?_)
            rw [← Int64.ofInt_sub, Int.sub_eq_add_neg]
            refine w_rdJ ml54 rfl (by omega) b4 (w_wrJ ml54 rfl (by omega) ?_)
            rw [← Int64.ofInt_sub, Int.sub_eq_add_neg, e14]
            have hyJ := fr_J2 (P := fun g => g = 54) (fr_J2 (fr_J2 (fr_J2 hy (i := 16 * R (fV9 T.2.2.2 x) + R (fV9 T.2.2.2 x)) (y := Int64.ofInt (a1 + t)) (h := 54) rfl) (i := 16 * R (T.2.2.1.2 (fV9 T.2.2.2 x)) + R (T.2.2.1.2 (fV9 T.2.2.2 x))) (y := Int64.ofInt (a2 + t)) (h := 54) rfl) (i := 16 * R (fV9 T.2.2.2 x) + R (T.2.2.1.2 (fV9 T.2.2.2 x))) (y := Int64.ofInt (a3 + -t)) (h := 54) rfl) (i := 16 * R (T.2.2.1.2 (fV9 T.2.2.2 x)) + R (fV9 T.2.2.2 x)) (y := Int64.ofInt (a4 + -t)) (h := 54) rfl
            by_cases hwf : w (fV9 T.2.2.2 x) = κ
            · rw [if_pos hwf]
              exact w_ifF (by decide) (fin _ _ hyJ b5 (by rw [if_pos hwf]; rfl) _ _ _ _ _ _ _ _ _ _ _)
            · rw [if_neg hwf]
              refine w_ifT rfl ?_
              by_cases hpl : 0 < T.2.2.2 x
              · rw [if_pos hpl]
                exact w_ifF (by decide) (fin _ _ hyJ b5 (by rw [if_neg hwf]; unfold sgI9; rw [if_pos hpl]; rfl) _ _ _ _ _ _ _ _ _ _ _)
              · rw [if_neg hpl]
                exact w_ifT rfl (fin _ _ hyJ b5 (by rw [if_neg hwf]; unfold sgI9; rw [if_neg hpl]; rfl) _ _ _ _ _ _ _ _ _ _ _)
          have col : y.2.1 52 (fl (2 * u)) = if w (fV9 T.2.2.2 x) = κ then 1 else 2 := by
            rw [y52, w1 (2 * u) (by rw [h2u]; exact uP), wf.1, cb0]
          have m12 : lbv A idN u = fV9 T.2.2.2 x := hlu
          refine u_X13_signatureOf_4 ?_; unfold qm_X13_signatureOf_4
          rw [show (2 : Int32) * nI u = nI (2 * u) from rn_mul2, show nI (2 * u) + 1 = nI (2 * u + 1) from nI_1 _]
          refine w_rdI (pl7 hn) rfl (by omega) (lk_m hd hO.1 hu) (w_rdI (pl14 hn) rfl (by omega) ea (w_rdI (pl14 hn) rfl (by omega) ee (w_rdI (pl10 hn) rfl (by omega) (lk_p hO.1 hu) (w_rdI (i := 2 * rn_pv A u) (pl14 hn) rn_mul2 (by omega) ew (w_rdI (pl10 hn) rfl (by omega) (lk_p hO.1 hmu) (w_rdI (i := 2 * rn_pv A (mtf A u)) (pl14 hn) rn_mul2 (by omega) eb (w_rdI ml52 rfl ha col ?_)))))))
          by_cases hwf : w (fV9 T.2.2.2 x) = κ
          · obtain ⟨ra, la⟩ := rA hwf
            obtain ⟨rb, lb9⟩ := rB hwf
            have c7 : ∀ x15 : Int32, x15 = iI (tI9 T.2.2.2 w κ x) → Tt (fun K i => q_X13_signatureOf K i 6 (nI v0) (nI p) (nI k) x5 (nI o) (if 0 < T.2.2.2 x then 1 else 0) (nI u) (nI (mtf A u)) (nI (fl (2 * u))) (nI (fl (2 * u + 1))) (nI (fl (2 * rn_pv A u))) (nI (fl (2 * rn_pv A (mtf A u)))) 1 0 0 0 n x15 0 y) Q := by
              intro x15 e15
              refine u_X13_signatureOf_6 ?_; unfold qm_X13_signatureOf_6
              refine w_ifF (by decide) ?_
              refine u_X13_signatureOf_7 ?_; unfold qm_X13_signatureOf_7
              refine w_rdI ml53 rfl ha ra (w_ifF (by decide) ?_)
              exact c8 1 x15 _ _ hb0 la lb9 rb rfl e15 (by rw [if_pos hwf]) _ _ _ _ _
            rw [if_pos hwf]
            refine w_ifT rfl ?_
            refine u_X13_signatureOf_5 ?_; unfold qm_X13_signatureOf_5
            by_cases hpl : 0 < T.2.2.2 x
            · refine w_ifT (by rw [if_pos hpl]) (c7 (-1) ?_)
              unfold tI9 sgI9
              rw [if_pos hwf, if_pos hpl]
              rfl
            · refine w_ifF (by rw [if_neg hpl]; decide) (c7 1 ?_)
              unfold tI9 sgI9
              rw [if_pos hwf, if_neg hpl]
              rfl
          · have hwn := bnot hwf
            obtain ⟨ra, la⟩ := rE hwn
            obtain ⟨rb, lb9⟩ := rW hwn
            have c7 : ∀ x15 : Int32, x15 = iI (tI9 T.2.2.2 w κ x) → Tt (fun K i => q_X13_signatureOf K i 6 (nI v0) (nI p) (nI k) x5 (nI o) (if 0 < T.2.2.2 x then 1 else 0) (nI u) (nI (mtf A u)) (nI (fl (2 * u))) (nI (fl (2 * u + 1))) (nI (fl (2 * rn_pv A u))) (nI (fl (2 * rn_pv A (mtf A u)))) 0 0 0 0 n x15 0 y) Q := by
              intro x15 e15
              refine u_X13_signatureOf_6 ?_; unfold qm_X13_signatureOf_6
              refine w_ifT rfl ?_
              refine u_X13_signatureOf_7 ?_; unfold qm_X13_signatureOf_7
              refine w_rdI ml53 rfl he ra (w_ifT rfl ?_)
              exact c8 0 x15 _ _ hw0 la lb9 rb rfl e15 (by rw [if_neg hwf]) _ _ _ _ _
            rw [if_neg hwf]
            refine w_ifF (by decide) ?_
            refine u_X13_signatureOf_5 ?_; unfold qm_X13_signatureOf_5
            by_cases hpl : 0 < T.2.2.2 x
            · refine w_ifF (by rw [if_pos hpl]; decide) (c7 1 ?_)
              unfold tI9 sgI9
              rw [if_neg hwf, if_pos hpl]
              rfl
            · refine w_ifT (by rw [if_neg hpl]) (c7 (-1) ?_)
              unfold tI9 sgI9
              rw [if_neg hwf, if_neg hpl]
              rfl
        refine u_X13_signatureOf_3 ?_; unfold qm_X13_signatureOf_3
        by_cases hpl : 0 < T.2.2.2 x
        · refine w_ifF (by rw [if_pos hpl]; decide) (c4 o hol ?_)
          rw [lo]
          unfold fV9
          rw [if_pos hpl]
        · refine w_ifT (by rw [if_neg hpl]) (w_rdI (pl7 hn) rfl (by omega) (lk_m hd hO.1 hol) (c4 _ hml ?_))
          rw [lm]
          unfold fV9
          rw [if_neg hpl]
      have sgn : y.2.1 (n + 6) (crs A o) = if sg (crs A o) then -1 else 1 := hO.2.1 _ (List.mem_of_getElem? (vAt_of hol))
      have gx := hi.2.2.2.2.2.2.1 o hol
      have gpm := hp1 (crs A o) lbo.2.2.1
      refine u_X13_signatureOf_2 ?_; unfold qm_X13_signatureOf_2
      refine w_rdF hO.1.V (w_leF (by omega) hol (w_rdI (pl5 hn) rfl (by omega) (lk_cu hO.1 hol).2 (w_if (fun hu9 => ?_) (fun hu9 => ?_))))
      · have hu0 : uns A o = 0 := nI_inj9 (by have := lbo.2.1; omega) (by omega) (hu9.trans nI_0.symm)
        refine w_rdI (pl8 hn) rfl (by omega) (lk_c hO.1 hol) (w_rdI (pl12 hn) rfl (by omega) rfl (w_if (fun hpp => ?_) (fun hpp => ?_)))
        · rw [y12] at hpp
          have hoP : inP A (z.2.1 (n + 12)) p o := ⟨hol, hpp⟩
          have k3 := c3 hu0 hoP
          refine w_rdI (pl4 hn) rfl (by omega) (lk_cu hO.1 hol).1 (w_rdI (pl6 hn) rfl (by omega) sgn ?_)
          have gx2 : T.2.2.2 (crs A o) < 0 ↔ sg (crs A o) = true := gx
          cases hsg : sg (crs A o) with
          | true =>
            have : T.2.2.2 (crs A o) < 0 := gx2.mpr hsg
            rw [if_neg (fun h9 => by
              rcases gpm with h8 | h8 <;> rw [h8] at this h9
              · exact absurd this (by decide)
              · exact absurd h9 (by decide))] at k3
            exact w_ifT (by decide) k3
          | false =>
            have hng : ¬ T.2.2.2 (crs A o) < 0 := fun h9 => by
              rw [gx2.mp h9] at hsg
              exact absurd hsg (by decide)
            rw [if_pos (by
              rcases gpm with h8 | h8 <;> rw [h8] at hng ⊢
              · decide
              · exact absurd (by decide) hng)] at k3
            exact w_ifF (by decide) k3
        · rw [y12] at hpp
          exact skip (fun h9 => hpp ((hqA o hol).mpr h9.2).2)
      · exact skip (fun h9 => hu9 (by rw [h9.1]; exact nI_0))
  have c1 : ∀ (d i : Nat) (y : ow_MS), i + d = 256 → fr (fun g => g = 54) z1 y → (∀ a, a < i → y.2.2 54 a = 0) → Tt (fun K t => q_X13_signatureOf K t 1 (nI v0) (nI p) (nI k) (nI i) 0 0 0 0 0 0 0 0 0 0 0 0 n 0 0 y) Q := by
    intro d
    induction d with
    | zero =>
      intro i y hi9 hf h0
      refine u_X13_signatureOf_1 ?_; unfold qm_X13_signatureOf_1
      exact w_leT (a := 256) (by omega) (by omega) (c2 A.flatten.length 0 0 y (by omega) hf rfl (fun a b ha hb2 => h0 _ (by omega)))
    | succ d ih =>
      intro i y hi9 hf h0
      refine u_X13_signatureOf_1 ?_; unfold qm_X13_signatureOf_1
      rw [nI_1]
      refine w_leF (a := 256) (by omega) (by omega) (w_wrJ ml54 rfl (by omega) (ih (i + 1) _ (by omega) (fr_J2 hf rfl) (fun a ha => ?_)))
      by_cases h9 : a = i
      · rw [h9]
        exact usJ_at
      · rw [usJ_ne h9]
        exact h0 a (by omega)
  exact c1 256 0 z1 (by omega) fr_rf (fun a ha => absurd ha (by omega))
end XSHA
