section
/-! 99zzzzzzzzzzzzzzzzyzzzi.xsgz -/
/-! signature: sums in another order -/
section XSGZ
theorem zS_add {f g : Nat → Int} : ∀ {n : Nat}, zS9 (fun i => f i + g i) n = zS9 f n + zS9 g n := by
  intro n
  induction n with
  | zero => rfl
  | succ n ih =>
    show zS9 (fun i => f i + g i) n + (f n + g n) = zS9 f n + f n + (zS9 g n + g n)
    rw [ih]
    omega
theorem zS_sw {f : Nat → Nat → Int} {m : Nat} : ∀ {k : Nat}, zS9 (fun i => zS9 (fun j => f i j) m) k = zS9 (fun j => zS9 (fun i => f i j) k) m := by
  intro k
  induction k with
  | zero => exact (zS_0 m).symm
  | succ k ih =>
    show zS9 (fun i => zS9 (fun j => f i j) m) k + zS9 (fun j => f k j) m = zS9 (fun j => zS9 (fun i => f i j) k + f k j) m
    rw [ih, zS_add]
/-- just one place counts -/
theorem zS_one {P : Nat → Bool} {g : Nat → Int} {a : Nat} : ∀ {n : Nat}, a < n → P a = true → (∀ b, b < n → P b = true → b = a) → zS9 (fun i => if P i = true then g i else 0) n = g a := by
  intro n
  induction n with
  | zero => exact fun h => absurd h (Nat.not_lt_zero _)
  | succ n ih =>
    intro ha hP hu
    show zS9 (fun i => if P i = true then g i else 0) n + (if P n = true then g n else 0) = g a
    by_cases h9 : a = n
    · subst h9
      rw [if_pos hP, zS_cg (g := fun _ => 0) (fun i hi => if_neg (fun h => by have := hu i (by omega) h; omega)), zS_0]
      omega
    · rw [ih (by omega) hP (fun b hb hb2 => hu b (by omega) hb2), if_neg (fun h => h9 (hu n (by omega) h).symm)]
      omega
theorem zS_none {P : Nat → Bool} {g : Nat → Int} {n : Nat} (h : ∀ b, b < n → P b = false) : zS9 (fun i => if P i = true then g i else 0) n = 0 := by
  rw [zS_cg (g := fun _ => 0) (fun i hi => if_neg (by rw [h i hi]; decide)), zS_0]
/-- sums over the visits over of a part are sums over its crossings -/
theorem reord {A : rn_L} {sg : Nat → Bool} {T : ow_NT} (hi : isoN A sg idN T) {q qA : Nat → Bool} (hqA : ∀ v, v < A.flatten.length → qA v = q (lbv A idN v)) (H : Nat → Int) : zS9 (fun o => if uns A o = 0 ∧ qA o = true then H (crs A o) else 0) A.flatten.length = zS9 (fun x => if q (2 * x) = true then H x else 0) T.1 := by
  have e1 : ∀ o, o < A.flatten.length → (if uns A o = 0 ∧ qA o = true then H (crs A o) else 0) = zS9 (fun x => if decide (lbv A idN o = 2 * x) = true then (if q (2 * x) = true then H x else 0) else 0) T.1 := fun o ho => by
    obtain ⟨a1, a2⟩ := lbv_hf hi ho
    have hu := uns_lt hi.1 ho
    have hl := lbv_lt hi ho
    have hid : idN (crs A o) = crs A o := rfl
    rw [hid] at a1
    by_cases h9 : uns A o = 0
    · have e : lbv A idN o = 2 * crs A o := by omega
      rw [zS_one (P := fun x => decide (lbv A idN o = 2 * x)) (a := crs A o) (by omega) (decide_eq_true e) (fun b _ hb => by
        have := of_decide_eq_true hb
        omega)]
      rw [hqA o ho, e]
      by_cases h8 : q (2 * crs A o) = true
      · rw [if_pos ⟨h9, h8⟩, if_pos h8]
      · rw [if_neg (fun h => h8 h.2), if_neg h8]
    · rw [if_neg (fun h => h9 h.1), zS_none (P := fun x => decide (lbv A idN o = 2 * x)) (fun b _ => decide_eq_false (fun h => by omega))]
  rw [zS_cg e1, zS_sw]
  refine zS_cg (fun x hx => ?_)
  obtain ⟨o, o1, o2⟩ := lbv_sur hi (k := 2 * x) (by omega)
  exact zS_one (P := fun o => decide (lbv A idN o = 2 * x)) (g := fun _ => if q (2 * x) = true then H x else 0) (a := o) o1 (decide_eq_true o2) (fun b hb hb2 => lbv_inj hi hb o1 ((of_decide_eq_true hb2).trans o2.symm))
theorem cr_sum {G : Nat → Int32} {w q : Nat → Bool} {κ : Bool} : ∀ c, crG9 G w q κ c = zS9 (fun x => if q (2 * x) = true then (if w (fV9 G x) = κ then 0 else sgI9 G x) else 0) c := by
  intro c
  induction c with
  | zero => rfl
  | succ c ih =>
    show crG9 G w q κ c + _ = zS9 _ c + _
    rw [ih]
/-- the matrix of the reference holds B -/
def mtB9 (y : ow_MS) (B : Nat → Nat → Int) : Prop := ∀ i j, i < 16 → j < 16 → y.2.2 54 (16 * i + j) = Int64.ofInt (B i j)
theorem mtB_w {y : ow_MS} {a b : Nat} {B : Nat → Nat → Int} {s : Int} (h : mtB9 y B) (ha : a < 16) (hb : b < 16) : mtB9 (usJ y 54 (16 * a + b) (Int64.ofInt (B a b + s))) (fun i j => B i j + s * (zd9 a i * zd9 b j)) := by
  intro i j hi hj
  by_cases h9 : i = a ∧ j = b
  · obtain ⟨h8, h7⟩ := h9
    subst h8
    subst h7
    rw [usJ_at]
    dsimp only
    rw [show zd9 i i = 1 from if_pos rfl, show zd9 j j = 1 from if_pos rfl, Int.mul_one, Int.mul_one]
  · rw [usJ_ne (by omega), h i j hi hj]
    refine congrArg Int64.ofInt ?_
    have : zd9 a i * zd9 b j = 0 := by
      by_cases h8 : i = a
      · rw [show zd9 b j = 0 from if_neg (fun h7 => h9 ⟨h8, h7⟩), Int.mul_zero]
      · rw [show zd9 a i = 0 from if_neg h8, Int.zero_mul]
    dsimp only
    rw [this, Int.mul_zero, Int.add_zero]
theorem zd_sy (a b : Nat) : zd9 a b = zd9 b a := by
  unfold zd9
  by_cases h9 : b = a
  · rw [if_pos h9, if_pos h9.symm]
  · rw [if_neg h9, if_neg (fun h8 => h9 h8.symm)]
/-- four writes -/
theorem mtB_4 {y : ow_MS} {u v : Nat} {B : Nat → Nat → Int} {t : Int} (h : mtB9 y B) (hu : u < 16) (hv : v < 16) : ∃ a1 a2 a3 a4 : Int, y.2.2 54 (16 * u + u) = Int64.ofInt a1 ∧ (usJ y 54 (16 * u + u) (Int64.ofInt (a1 + t))).2.2 54 (16 * v + v) = Int64.ofInt a2 ∧ (usJ (usJ y 54 (16 * u + u) (Int64.ofInt (a1 + t))) 54 (16 * v + v) (Int64.ofInt (a2 + t))).2.2 54 (16 * u + v) = Int64.ofInt a3 ∧ (usJ (usJ (usJ y 54 (16 * u + u) (Int64.ofInt (a1 + t))) 54 (16 * v + v) (Int64.ofInt (a2 + t))) 54 (16 * u + v) (Int64.ofInt (a3 + -t))).2.2 54 (16 * v + u) = Int64.ofInt a4 ∧ mtB9 (usJ (usJ (usJ (usJ y 54 (16 * u + u) (Int64.ofInt (a1 + t))) 54 (16 * v + v) (Int64.ofInt (a2 + t))) 54 (16 * u + v) (Int64.ofInt (a3 + -t))) 54 (16 * v + u) (Int64.ofInt (a4 + -t))) (fun i j => B i j + t * (zd9 i u - zd9 i v) * (zd9 j u - zd9 j v)) := by
  have k1 := mtB_w (s := t) h hu hu
  have k2 := mtB_w (s := t) k1 hv hv
  have k3 := mtB_w (s := -t) k2 hu hv
  have k4 := mtB_w (s := -t) k3 hv hu
  refine ⟨_, _, _, _, h u u hu hu, k1 v v hv hv, k2 u v hu hv, k3 v u hv hu, fun i j hi hj => (k4 i j hi hj).trans (congrArg Int64.ofInt ?_)⟩
  dsimp only
  rw [zd_sy u i, zd_sy u j, zd_sy v i, zd_sy v j]
  grind
end XSGZ
end
section
/-! 99zzzzzzzzzzzzzzzzyzzzj.xsha -/
/-! signature, the reference: a part, exactly -/
section XSHA
variable {z : ow_MS} {T : ow_NT} {nn Pc : Nat} {M : Nat → Int32} {φ ψ : Nat → Nat} {w cf : Nat → Bool}
theorem xr_sigOf {n F P p v0 c pc : Nat} {A : rn_L} {sg : Nat → Bool} {fl : Nat → Nat} (hn : mw_net n) (hok : okF A.flatten c) (hc : c ≤ 12) (hI : fcI z n A sg F P) (hp : p < P) (hv0 : inP A (z.2.1 (n + 12)) p v0) (hfl : ∀ s, s < 2 * A.flatten.length → z.2.1 (n + 14) s = nI (fl s) ∧ fl s < F) (h : fcD9 T.1 T.2.2.1 T.2.2.2 w nn Pc M φ ψ cf) (hV : isoV A sg idN T) (hp1 : pm1 T) (hpc : pc < Pc) (hqA : ∀ v, v < A.flatten.length → (inP A (z.2.1 (n + 12)) p v ↔ qP9 M pc (lbv A idN v) = true)) (hfc : ∀ s, s < 2 * A.flatten.length → fl (phi A sg s) = fl s) (hfi : ∀ s t, s < 2 * A.flatten.length → t < 2 * A.flatten.length → fl s = fl t → φ (psS A s) = φ (psS A t)) : Te (fun K => qe_X13_signatureOf K n (nI v0) z) (fun r => r.1 = iI (vlG9 T.1 T.2.2.1 T.2.2.2 w nn M φ ψ cf pc) ∧ fr sgH z r.2) := by
  have hVl := okF_len hok
  have hmn := net_mod hn
  have hd := wkF_ok hI.1.wk
  have hC := hI.1.2.2.2
  have hi := isoS_iff.mp hV.1
  have hv := h.1
  have hw := h.2.1
  have hcT : T.1 ≤ 12 := h.2.2.2.2.2.2.2.2.2.2.2.2.1
  have ec : A.flatten.length = 2 * T.1 := hi.2.1
  have hv0l := hv0.1
  have F80 : F ≤ 80 := by
    have := hI.2.1.2.1
    omega
  -- colours of the reference's faces
  have kcb : ∀ s t, s < 2 * A.flatten.length → t < 2 * A.flatten.length → fl s = fl t → kS w (psS A s) = kS w (psS A t) := fun s t hs ht e => by
    rw [h.2.2.2.2.1 _ (ps_lt hV hs), h.2.2.2.2.1 _ (ps_lt hV ht), hfi s t hs ht e]
  obtain ⟨cb, hcb⟩ : ∃ cb : Nat → Bool, ∀ s, s < 2 * A.flatten.length → kS w (psS A s) = cb (fl s) := by
    have hex : ∀ f, ∃ b : Bool, ∀ s, s < 2 * A.flatten.length → fl s = f → kS w (psS A s) = b := fun f => by
      by_cases hs : ∃ s, s < 2 * A.flatten.length ∧ fl s = f
      · obtain ⟨s, s1, s2⟩ := hs
        exact ⟨kS w (psS A s), fun t t1 t2 => kcb t s t1 s1 (by rw [t2, s2])⟩
      · exact ⟨true, fun s s1 s2 => absurd ⟨s, s1, s2⟩ hs⟩
    exact ⟨fun f => Classical.choose (hex f), fun s hs => Classical.choose_spec (hex (fl s)) s hs rfl⟩
  have kL : ∀ v, v < A.flatten.length → cb (fl (2 * v)) = w (lbv A idN v) ∧ cb (fl (2 * v + 1)) = !w (lbv A idN v) := fun v hv1 => by
    have k1 := hcb (2 * v) (by omega)
    have k2 := hcb (2 * v + 1) (by omega)
    have p1 : psS A (2 * v) = 2 * lbv A idN v := by
      unfold psS
      rw [show 2 * v / 2 = v by omega]
      omega
    have p2 : psS A (2 * v + 1) = 2 * lbv A idN v + 1 := by
      unfold psS
      rw [show (2 * v + 1) / 2 = v by omega]
      omega
    rw [p1] at k1
    rw [p2] at k2
    unfold kS at k1 k2
    rw [if_pos (by omega), show 2 * lbv A idN v / 2 = lbv A idN v by omega] at k1
    rw [if_neg (by omega), show (2 * lbv A idN v + 1) / 2 = lbv A idN v by omega] at k2
    exact ⟨k1.symm, k2.symm⟩
  generalize hκ : w (lbv A idN v0) = κ
  have cb0 : cb (fl (2 * v0)) = κ := by rw [(kL v0 hv0l).1]; exact hκ
  -- the white ones
  obtain ⟨wh, hwh⟩ : ∃ wh : Nat → Bool, ∀ f, wh f = true ↔ ∃ s, inP A (z.2.1 (n + 12)) p (s / 2) ∧ fl s = f ∧ cb f = cb (fl (2 * v0)) := by
    have hex : ∀ f, ∃ b : Bool, b = true ↔ ∃ s, inP A (z.2.1 (n + 12)) p (s / 2) ∧ fl s = f ∧ cb f = cb (fl (2 * v0)) := fun f => by
      by_cases hs : ∃ s, inP A (z.2.1 (n + 12)) p (s / 2) ∧ fl s = f ∧ cb f = cb (fl (2 * v0))
      · exact ⟨true, ⟨fun _ => hs, fun _ => rfl⟩⟩
      · exact ⟨false, ⟨fun h9 => absurd h9 (by decide), fun h9 => absurd h9 hs⟩⟩
    exact ⟨fun f => Classical.choose (hex f), fun f => Classical.choose_spec (hex f)⟩
  obtain ⟨R, hR, ek, hRs⟩ := ref_nb (F := F) (κ := κ) (fl := fl) (wh := wh) (qA := fun v => qP9 M pc (lbv A idN v)) h hV hp1 hpc (fun _ _ => rfl) (fun s hs => (hfl s hs).2) hfc hfi (fun s hs hsq => by
    have hP := (hqA (s / 2) (by omega)).mpr hsq
    rw [hwh, hcb s hs, cb0]
    exact ⟨fun ⟨t, t1, t2, t3⟩ => t3, fun h9 => ⟨s, hP, rfl, h9⟩⟩) (fun f hf hq => by
    obtain ⟨s, s1, s2, s3⟩ := (hwh f).mp hq
    have hsl := s1.1
    refine ⟨s, by omega, (hqA _ hsl).mp s1, ?_, s2⟩
    rw [hcb s (by omega), s2, s3]
    exact cb0)
  have eu := eul_p h hpc κ
  have kp := kF_pos h hpc (!κ)
  have kp1 := kF_pos h hpc κ
  have cl := nF_le (fun x => qP9 M pc (2 * x)) T.1
  have k13 : nF wh F ≤ 13 := by omega
  have val := vl_all h hpc hR
  rw [← ek] at val hR
  generalize hk : nF wh F = k at val hR ek k13
  have k1 : 1 ≤ k := by omega
  obtain ⟨E, hE⟩ := isZ_E (M := mtZ9 T.1 T.2.2.1 T.2.2.2 w (qP9 M pc) κ R) (k - 1)
  have hb := mt_bd hcT hE
  -- whatever stands at both sides or none
  have hall : ∀ K : Nat → Prop, (∀ v, inP A (z.2.1 (n + 12)) p v → (K (fl (2 * v)) ↔ K (fl (2 * v + 1)))) → K (fl (2 * v0)) → ∀ v, inP A (z.2.1 (n + 12)) p v → K (fl (2 * v)) ∧ K (fl (2 * v + 1)) := by
    intro K hK hK0 v hvP
    obtain ⟨isd, hisd⟩ : ∃ isd : Nat → Nat, ∀ a, a < 4 * T.1 → isd a < 2 * A.flatten.length ∧ psS A (isd a) = a := by
      refine Classical.axiomOfChoice (r := fun a s => a < 4 * T.1 → s < 2 * A.flatten.length ∧ psS A s = a) (fun a => ?_)
      by_cases ha : a < 4 * T.1
      · obtain ⟨s, s1, s2⟩ := ps_sur hV ha
        exact ⟨s, fun _ => ⟨s1, s2⟩⟩
      · exact ⟨0, fun h9 => absurd h9 ha⟩
    have back : ∀ s, s < 2 * A.flatten.length → isd (psS A s) = s := fun s hs => by
      obtain ⟨a1, a2⟩ := hisd _ (ps_lt hV hs)
      exact ps_inj hV a1 hs a2
    have on9 : ∀ a, a < 4 * T.1 → (fun a => fl (isd a)) (fc_on T.2.2.1 T.2.2.2 a) = (fun a => fl (isd a)) a := fun a ha => by
      obtain ⟨a1, a2⟩ := hisd a ha
      have e := ps_on hV hp1 a1
      rw [a2] at e
      have hl := phi_lt (sg := sg) hd a1
      show fl (isd (fc_on T.2.2.1 T.2.2.2 a)) = fl (isd a)
      rw [e, back _ hl, hfc _ a1]
    have two : ∀ u, u < A.flatten.length → isd (2 * lbv A idN u) = 2 * u ∧ isd (2 * lbv A idN u + 1) = 2 * u + 1 := fun u hu => by
      have p1 : psS A (2 * u) = 2 * lbv A idN u := by
        unfold psS
        rw [show 2 * u / 2 = u by omega]
        omega
      have p2 : psS A (2 * u + 1) = 2 * lbv A idN u + 1 := by
        unfold psS
        rw [show (2 * u + 1) / 2 = u by omega]
        omega
      have b1 := back (2 * u) (by omega)
      have b2 := back (2 * u + 1) (by omega)
      rw [p1] at b1
      rw [p2] at b2
      exact ⟨b1, b2⟩
    have res := paint_all (G := T.2.2.2) (φ := fun a => fl (isd a)) (K := K) hv (ptQ_of h pc) on9 (fun u hu huq => by
      obtain ⟨o, o1, o2⟩ := lbv_sur hi hu
      have t := two o o1
      have o2 : lbv A idN o = u := o2
      rw [o2] at t
      rw [t.1, t.2]
      exact hK o ((hqA o o1).mpr (by rw [o2]; exact huq))) (v0 := lbv A idN v0) (lbv_lt hi hv0l) ((hqA v0 hv0l).mp hv0) (by
      rw [(two v0 hv0l).1]
      exact hK0) (lbv A idN v) (lbv_lt hi hvP.1) ((hqA v hvP.1).mp hvP)
    rw [(two v hvP.1).1, (two v hvP.1).2] at res
    exact res
  let Q : Int32 × ow_MS → Prop := fun r => r.1 = iI (vlG9 T.1 T.2.2.1 T.2.2.2 w nn M φ ψ cf pc) ∧ fr sgH z r.2
  have iF : ∀ {y : ow_MS}, fr sgH z y → fcI y n A sg F P := fun hf => fcI_fr hn hf (fun g hg => by unfold sgH at hg; omega) hI
  have hcc0 := (rn_c_in A v0 hv0l).1
  refine e_X13_signatureOf ?_
  refine u_X13_signatureOf_0 ?_; unfold qm_X13_signatureOf_0
  refine w_rdI (pl8 hn) rfl (by omega) (lk_c hI.1.1 hv0.1) (w_rdI (pl12 hn) rfl (by omega) hv0.2 (w_cs1 (xr_colour (cb := cb) (wh := wh) hn hok hc hI hp hv0 hfl (fun v hvP => by rw [(kL v hvP.1).1, (kL v hvP.1).2, Bool.not_not]) hall (fun f _ => hwh f) (by omega)) (fun a1 z1 ⟨ek1, f1, w1, w2⟩ => ?_)))
  have ek1 : a1 = nI k := by rw [← hk]; exact ek1
  have f1 : fr (fun g => g = 52 ∨ g = 53) z z1 := f1
  have w1 : ∀ s, inP A (z.2.1 (n + 12)) p (s / 2) → z1.2.1 52 (fl s) = if cb (fl s) = cb (fl (2 * v0)) then 1 else 2 := w1
  have w2 : ∀ f, f < F → wh f = true → z1.2.1 53 f = nI (nF wh f) := w2
  rw [ek1]
  have hf1 : fr sgH z z1 := fr_mono (fun g hg => by unfold sgH; omega) f1
  -- the rows of white sides
  have row : ∀ s, s < 2 * A.flatten.length → inP A (z.2.1 (n + 12)) p (s / 2) → cb (fl s) = κ → z1.2.1 53 (fl s) = nI (R (lbv A idN (s / 2))) ∧ R (lbv A idN (s / 2)) < k := fun s hs hsP hsc => by
    have hq : wh (fl s) = true := (hwh _).mpr ⟨s, hsP, rfl, by rw [hsc, cb0]⟩
    have e1 := hRs s hs ((hqA _ hsP.1).mp hsP) (by rw [hcb s hs]; exact hsc)
    rw [e1]
    refine ⟨w2 _ (hfl s hs).2 hq, ?_⟩
    rw [← hk]
    exact nF_lt (hfl s hs).2 hq
  have c2 : ∀ (d o : Nat) (x5 : Int32) (y : ow_MS), o + d = A.flatten.length → fr (fun g => g = 54) z1 y → x5 = iI (zS9 (fun o => if uns A o = 0 ∧ qP9 M pc (lbv A idN o) = true then (fun x => if w (fV9 T.2.2.2 x) = κ then 0 else sgI9 T.2.2.2 x) (crs A o) else 0) o) → mtB9 y (fun i j => zS9 (fun o => if uns A o = 0 ∧ qP9 M pc (lbv A idN o) = true then (fun x => tI9 T.2.2.2 w κ x * rwZ9 T.2.2.1 T.2.2.2 R x i * rwZ9 T.2.2.1 T.2.2.2 R x j) (crs A o) else 0) o) → Tt (fun K i => q_X13_signatureOf K i 2 (nI v0) (nI p) (nI k) x5 (nI o) 0 0 0 0 0 0 0 0 0 0 0 n 0 0 y) Q := by
    intro d
    induction d with
    | zero =>
      intro o x5 y ho hy h5 hB
      have ho : o = A.flatten.length := by omega
      have zy : fr sgH z y := fr_tr hf1 (fr_mono (fun g hg => by unfold sgH; omega) hy)
      have r5 := reord hi (q := qP9 M pc) (qA := fun o => qP9 M pc (lbv A idN o)) (fun _ _ => rfl) (fun x => if w (fV9 T.2.2.2 x) = κ then 0 else sgI9 T.2.2.2 x)
      dsimp only at h5
      rw [ho, r5, ← cr_sum] at h5
      have hF : ∀ i j, i < k - 1 → j < k - 1 → y.2.2 54 (16 * i + j) = Int64.ofInt (mtZ9 T.1 T.2.2.1 T.2.2.2 w (qP9 M pc) κ R i j) := fun i j hi9 hj9 => by
        have a := hB i j (by omega) (by omega)
        dsimp only at a
        have b := reord hi (q := qP9 M pc) (qA := fun o => qP9 M pc (lbv A idN o)) (fun _ _ => rfl) (fun x => tI9 T.2.2.2 w κ x * rwZ9 T.2.2.1 T.2.2.2 R x i * rwZ9 T.2.2.1 T.2.2.2 R x j)
        rw [ho, b] at a
        exact a
      refine u_X13_signatureOf_2 ?_; unfold qm_X13_signatureOf_2
      rw [show nI k - 1 = nI (k - 1) from pk_sub (b := 1) k1]
      refine w_rdF (iF zy).1.1.V (w_leT (by omega) (by omega) (w_cs1 (xr_roots (by omega) hF hE (fun k9 hk9 => hb k9 (by omega))) (fun a y1 ⟨r1, f2⟩ => w_some ⟨?_, fr_tr zy (fr_mono (fun g hg => by unfold rtH at hg; unfold sgH; omega) f2)⟩)))
      have r1 : a = _ := r1
      show a - x5 = _
      rw [r1, h5, iI_sub, mtZ_cs, ← val]
      rfl
    | succ d ih =>
      intro o x5 y ho hy h5 hB
      have hol : o < A.flatten.length := by omega
      have zy : fr sgH z y := fr_tr hf1 (fr_mono (fun g hg => by unfold sgH; omega) hy)
      have hIy := iF zy
      have hO := hIy.1
      obtain ⟨x1, x2, x3⟩ := hO.cx hol
      have hcc := (rn_c_in A o hol).1
      have hml := mtf_lt hd hol
      have y14 : y.2.1 (n + 14) = z.2.1 (n + 14) := (zy (n + 14) (by unfold sgH; omega)).2.1
      have y12 : y.2.1 (n + 12) = z.2.1 (n + 12) := (zy (n + 12) (by unfold sgH; omega)).2.1
      have c10 : ∀ (x5 : Int32) (y : ow_MS), fr (fun g => g = 54) z1 y → x5 = iI (zS9 (fun o => if uns A o = 0 ∧ qP9 M pc (lbv A idN o) = true then (fun x => if w (fV9 T.2.2.2 x) = κ then 0 else sgI9 T.2.2.2 x) (crs A o) else 0) (o + 1)) → mtB9 y (fun i j => zS9 (fun o => if uns A o = 0 ∧ qP9 M pc (lbv A idN o) = true then (fun x => tI9 T.2.2.2 w κ x * rwZ9 T.2.2.1 T.2.2.2 R x i * rwZ9 T.2.2.1 T.2.2.2 R x j) (crs A o) else 0) (o + 1)) → Tt (fun K i => q_X13_signatureOf K i 10 (nI v0) (nI p) (nI k) x5 (nI o) 0 0 0 0 0 0 0 0 0 0 0 n 0 0 y) Q := by
        intro x5 y hy h5 hB
        refine u_X13_signatureOf_10 ?_; unfold qm_X13_signatureOf_10
        rw [nI_1]
        exact ih (o + 1) x5 y (by omega) hy h5 hB
      -- nothing is added
      have skip : ¬ (uns A o = 0 ∧ qP9 M pc (lbv A idN o) = true) → Tt (fun K i => q_X13_signatureOf K i 10 (nI v0) (nI p) (nI k) x5 (nI o) 0 0 0 0 0 0 0 0 0 0 0 n 0 0 y) Q := by
        intro hno
        refine c10 x5 y hy ?_ (fun i j hi9 hj9 => ?_)
        · rw [h5]
          show _ = iI (zS9 _ o + (if uns A o = 0 ∧ qP9 M pc (lbv A idN o) = true then _ else 0))
          rw [if_neg hno, Int.add_zero]
        · refine (hB i j hi9 hj9).trans (congrArg Int64.ofInt ?_)
          show _ = zS9 _ o + (if uns A o = 0 ∧ qP9 M pc (lbv A idN o) = true then _ else 0)
          rw [if_neg hno, Int.add_zero]
      have face : ∀ s, s < 2 * A.flatten.length → y.2.1 (n + 14) s = nI (fl s) ∧ fl s < 80 := fun s hs => by
        rw [y14]
        exact ⟨(hfl s hs).1, by have := (hfl s hs).2; omega⟩
      have lbo := lb_un hV hol
      -- a crossing of the part
      have c3 : uns A o = 0 → inP A (z.2.1 (n + 12)) p o → Tt (fun K i => q_X13_signatureOf K i 3 (nI v0) (nI p) (nI k) x5 (nI o) 0 0 0 0 0 0 0 0 0 0 0 n (if 0 < T.2.2.2 (crs A o) then 1 else 0) 0 y) Q := by
        intro hu0 hoP
        have hoq := (hqA o hol).mp hoP
        have hx : crs A o < T.1 := lbo.2.2.1
        have lo : lbv A idN o = 2 * crs A o := by omega
        have lm : lbv A idN (mtf A o) = 2 * crs A o + 1 := by
          rw [lbo.2.2.2.2, lo]
          exact (mt_2 _).1
        have hxq : qP9 M pc (2 * crs A o) = true := by rw [← lo]; exact hoq
        generalize hxx : crs A o = x at hx lo lm hxq
        have ht := fV_lt (G := T.2.2.2) hx
        have hmt := mt_lt ht
        -- the visit that goes ahead
        have c4 : ∀ u, u < A.flatten.length → lbv A idN u = fV9 T.2.2.2 x → Tt (fun K i => q_X13_signatureOf K i 4 (nI v0) (nI p) (nI k) x5 (nI o) (if 0 < T.2.2.2 x then 1 else 0) 0 0 0 0 0 0 0 0 0 0 n (nI u) 0 y) Q := by
          intro u hu hlu
          have hmu := mtf_lt hd hu
          have hpu := rn_pv_lt hu
          have hpm := rn_pv_lt hmu
          have lmu : lbv A idN (mtf A u) = mt (fV9 T.2.2.2 x) := by rw [(lb_un hV hu).2.2.2.2, hlu]
          have lpv : ∀ v, v < A.flatten.length → lbv A idN (rn_pv A v) = T.2.2.1.2 (lbv A idN v) := fun v hv1 => by
            have a := (lb_un hV (rn_pv_lt hv1)).2.2.2.1
            rw [nx_pv hv1] at a
            have b := (hv _ (lbv_lt hi (rn_pv_lt hv1))).2.2.1
            have b2 : T.2.2.1.2 (T.2.2.1.1 (lbv A idN (rn_pv A v))) = lbv A idN (rn_pv A v) := b
            rw [a] at b2
            exact b2.symm
          have lpu : lbv A idN (rn_pv A u) = T.2.2.1.2 (fV9 T.2.2.2 x) := by rw [lpv u hu, hlu]
          have lpm : lbv A idN (rn_pv A (mtf A u)) = T.2.2.1.2 (mt (fV9 T.2.2.2 x)) := by rw [lpv _ hmu, lmu]
          obtain ⟨q1, q2⟩ := fV_q (G := T.2.2.2) (ptQ_of h pc) hx
          have qb : ∀ v, v < 2 * T.1 → qP9 M pc (T.2.2.1.2 v) = qP9 M pc v := fun v hv1 => by
            have := ((ptQ_of h pc).1 _ (hv v hv1).2.1).1
            rw [(hv v hv1).2.2.2] at this
            exact this.symm
          have uP : inP A (z.2.1 (n + 12)) p u := (hqA u hu).mpr (by rw [hlu, q1]; exact hxq)
          have puP : inP A (z.2.1 (n + 12)) p (rn_pv A u) := (hqA _ hpu).mpr (by rw [lpu, qb _ ht, q1]; exact hxq)
          have pmP : inP A (z.2.1 (n + 12)) p (rn_pv A (mtf A u)) := (hqA _ hpm).mpr (by rw [lpm, qb _ hmt, q2]; exact hxq)
          have wf := (kL u hu)
          rw [hlu] at wf
          have wpu := (kL _ hpu).1
          rw [lpu] at wpu
          have wpm := (kL _ hpm).1
          rw [lpm] at wpm
          have wb : ∀ v, v < 2 * T.1 → w (T.2.2.1.2 v) = !w v := fun v hv1 => by
            have := (hw _ (hv v hv1).2.1).1
            rw [(hv v hv1).2.2.2] at this
            rw [this, Bool.not_not]
          have w9 := (hw _ ht).2
          obtain ⟨ea, ha⟩ := face (2 * u) (by omega)
          obtain ⟨ee, he⟩ := face (2 * u + 1) (by omega)
          obtain ⟨ew, hw0⟩ := face (2 * rn_pv A u) (by omega)
          obtain ⟨eb, hb0⟩ := face (2 * rn_pv A (mtf A u)) (by omega)
          have h2u : 2 * u / 2 = u := by omega
          have h2u1 : (2 * u + 1) / 2 = u := by omega
          have h2p : 2 * rn_pv A u / 2 = rn_pv A u := by omega
          have h2m : 2 * rn_pv A (mtf A u) / 2 = rn_pv A (mtf A u) := by omega
          have y52 : y.2.1 52 = z1.2.1 52 := (hy 52 (by omega)).2.1
          have y53 : y.2.1 53 = z1.2.1 53 := (hy 53 (by omega)).2.1
          have rA : w (fV9 T.2.2.2 x) = κ → y.2.1 53 (fl (2 * u)) = nI (R (fV9 T.2.2.2 x)) ∧ R (fV9 T.2.2.2 x) < k := fun hwf => by
            have a := row (2 * u) (by omega) (by rw [h2u]; exact uP) (by rw [wf.1]; exact hwf)
            rw [h2u, hlu] at a
            rw [y53]
            exact a
          have rB : w (fV9 T.2.2.2 x) = κ → y.2.1 53 (fl (2 * rn_pv A (mtf A u))) = nI (R (T.2.2.1.2 (fV9 T.2.2.2 x))) ∧ R (T.2.2.1.2 (fV9 T.2.2.2 x)) < k := fun hwf => by
            have a := row (2 * rn_pv A (mtf A u)) (by omega) (by rw [h2m]; exact pmP) (by rw [wpm, wb _ hmt, w9, Bool.not_not]; exact hwf)
            rw [h2m, lpm, ((hR.2.2 x hx hxq).1 hwf).2] at a
            rw [y53]
            exact a
          have rE : w (fV9 T.2.2.2 x) = !κ → y.2.1 53 (fl (2 * u + 1)) = nI (R (fV9 T.2.2.2 x)) ∧ R (fV9 T.2.2.2 x) < k := fun hwf => by
            have a := row (2 * u + 1) (by omega) (by rw [h2u1]; exact uP) (by rw [wf.2, hwf, Bool.not_not])
            rw [h2u1, hlu] at a
            rw [y53]
            exact a
          have rW : w (fV9 T.2.2.2 x) = !κ → y.2.1 53 (fl (2 * rn_pv A u)) = nI (R (T.2.2.1.2 (fV9 T.2.2.2 x))) ∧ R (T.2.2.1.2 (fV9 T.2.2.2 x)) < k := fun hwf => by
            have a := row (2 * rn_pv A u) (by omega) (by rw [h2p]; exact puP) (by rw [wpu, wb _ ht, hwf, Bool.not_not])
            rw [h2p, lpu] at a
            rw [y53]
            exact a
          -- the four writes
          have c8 : ∀ (x14 x15 : Int32) (t : Int) (f9 : Nat), f9 < 80 → R (fV9 T.2.2.2 x) < k → R (T.2.2.1.2 (fV9 T.2.2.2 x)) < k → y.2.1 53 f9 = nI (R (T.2.2.1.2 (fV9 T.2.2.2 x))) → t = tI9 T.2.2.2 w κ x → x15 = iI t → x14 = (if w (fV9 T.2.2.2 x) = κ then 1 else 0) → ∀ (x9 x10 x11 x12 x13 : Int32), Tt (fun K i => q_X13_signatureOf K i 8 (nI v0) (nI p) (nI k) x5 (nI o) (if 0 < T.2.2.2 x then 1 else 0) (nI u) x9 x10 x11 x12 x13 x14 x15 (nI (R (fV9 T.2.2.2 x))) 0 n (nI f9) 0 y) Q := by
            intro x14 x15 t f9 hf9 lA lB e9 etI e15 e14 x9 x10 x11 x12 x13
            have tl : x15.toInt64 = Int64.ofInt t := by
              rw [e15]
              rcases tI_pm (G := T.2.2.2) (w := w) (κ := κ) x with h9 | h9 <;> rw [etI, h9] <;> rfl
            obtain ⟨a1, a2, a3, a4, b1, b2, b3, b4, b5⟩ := mtB_4 (t := t) hB (show R (fV9 T.2.2.2 x) < 16 by omega) (show R (T.2.2.1.2 (fV9 T.2.2.2 x)) < 16 by omega)
            have fin : ∀ (y9 : ow_MS) (t0 : Int32), fr (fun g => g = 54) z1 y9 → mtB9 y9 (fun i j => zS9 (fun o => if uns A o = 0 ∧ qP9 M pc (lbv A idN o) = true then (fun x => tI9 T.2.2.2 w κ x * rwZ9 T.2.2.1 T.2.2.2 R x i * rwZ9 T.2.2.1 T.2.2.2 R x j) (crs A o) else 0) o + t * (zd9 i (R (fV9 T.2.2.2 x)) - zd9 i (R (T.2.2.1.2 (fV9 T.2.2.2 x)))) * (zd9 j (R (fV9 T.2.2.2 x)) - zd9 j (R (T.2.2.1.2 (fV9 T.2.2.2 x))))) → t0 = iI (if w (fV9 T.2.2.2 x) = κ then 0 else sgI9 T.2.2.2 x) → ∀ (x7 x8 x9 x10 x11 x12 x13 x14 x15 x16 x17 : Int32), Tt (fun K i => q_X13_signatureOf K i 9 (nI v0) (nI p) (nI k) x5 (nI o) x7 x8 x9 x10 x11 x12 x13 x14 x15 x16 x17 n t0 x5 y9) Q := by
              intro y9 t0 hy9 hB9 ht0 x7 x8 x9 x10 x11 x12 x13 x14 x15 x16 x17
              refine u_X13_signatureOf_9 ?_; unfold qm_X13_signatureOf_9
              refine c10 _ y9 hy9 ?_ (fun i j hi9 hj9 => ?_)
              · rw [h5, ht0, iI_add]
                refine congrArg iI ?_
                show _ = zS9 _ o + (if uns A o = 0 ∧ qP9 M pc (lbv A idN o) = true then (fun x => if w (fV9 T.2.2.2 x) = κ then 0 else sgI9 T.2.2.2 x) (crs A o) else 0)
                rw [if_pos (show uns A o = 0 ∧ qP9 M pc (lbv A idN o) = true from ⟨hu0, hoq⟩), hxx]
              · refine (hB9 i j hi9 hj9).trans (congrArg Int64.ofInt ?_)
                show _ = zS9 _ o + (if uns A o = 0 ∧ qP9 M pc (lbv A idN o) = true then (fun x => tI9 T.2.2.2 w κ x * rwZ9 T.2.2.1 T.2.2.2 R x i * rwZ9 T.2.2.1 T.2.2.2 R x j) (crs A o) else 0)
                rw [if_pos (show uns A o = 0 ∧ qP9 M pc (lbv A idN o) = true from ⟨hu0, hoq⟩), hxx, etI]
                rfl
            refine u_X13_signatureOf_8 ?_; unfold qm_X13_signatureOf_8
            refine w_rdI ml53 rfl hf9 e9 ?_
            rw [s16_ix, s16_ix, s16_ix, s16_ix, tl]
            refine w_rdJ ml54 rfl (by omega) b1 (w_wrJ ml54 rfl (by omega) ?_)
            rw [← Int64.ofInt_add]
            refine w_rdJ ml54 rfl (by omega) b2 (w_wrJ ml54 rfl (by omega) ?_)
            rw [← Int64.ofInt_add]
            refine w_rdJ ml54 rfl (by omega) b3 (w_wrJ ml54 rfl (by omega) ?_)
            rw [← Int64.ofInt_sub, Int.sub_eq_add_neg]
            refine w_rdJ ml54 rfl (by omega) b4 (w_wrJ ml54 rfl (by omega) ?_)
            rw [← Int64.ofInt_sub, Int.sub_eq_add_neg, e14]
            have hyJ := fr_J2 (P := fun g => g = 54) (fr_J2 (fr_J2 (fr_J2 hy (i := 16 * R (fV9 T.2.2.2 x) + R (fV9 T.2.2.2 x)) (y := Int64.ofInt (a1 + t)) (h := 54) rfl) (i := 16 * R (T.2.2.1.2 (fV9 T.2.2.2 x)) + R (T.2.2.1.2 (fV9 T.2.2.2 x))) (y := Int64.ofInt (a2 + t)) (h := 54) rfl) (i := 16 * R (fV9 T.2.2.2 x) + R (T.2.2.1.2 (fV9 T.2.2.2 x))) (y := Int64.ofInt (a3 + -t)) (h := 54) rfl) (i := 16 * R (T.2.2.1.2 (fV9 T.2.2.2 x)) + R (fV9 T.2.2.2 x)) (y := Int64.ofInt (a4 + -t)) (h := 54) rfl
            by_cases hwf : w (fV9 T.2.2.2 x) = κ
            · rw [if_pos hwf]
              exact w_ifF (by decide) (fin _ _ hyJ b5 (by rw [if_pos hwf]; rfl) _ _ _ _ _ _ _ _ _ _ _)
            · rw [if_neg hwf]
              refine w_ifT rfl ?_
              by_cases hpl : 0 < T.2.2.2 x
              · rw [if_pos hpl]
                exact w_ifF (by decide) (fin _ _ hyJ b5 (by rw [if_neg hwf]; unfold sgI9; rw [if_pos hpl]; rfl) _ _ _ _ _ _ _ _ _ _ _)
              · rw [if_neg hpl]
                exact w_ifT rfl (fin _ _ hyJ b5 (by rw [if_neg hwf]; unfold sgI9; rw [if_neg hpl]; rfl) _ _ _ _ _ _ _ _ _ _ _)
          have col : y.2.1 52 (fl (2 * u)) = if w (fV9 T.2.2.2 x) = κ then 1 else 2 := by
            rw [y52, w1 (2 * u) (by rw [h2u]; exact uP), wf.1, cb0]
          have m12 : lbv A idN u = fV9 T.2.2.2 x := hlu
          refine u_X13_signatureOf_4 ?_; unfold qm_X13_signatureOf_4
          rw [show (2 : Int32) * nI u = nI (2 * u) from rn_mul2, show nI (2 * u) + 1 = nI (2 * u + 1) from nI_1 _]
          refine w_rdI (pl7 hn) rfl (by omega) (lk_m hd hO.1 hu) (w_rdI (pl14 hn) rfl (by omega) ea (w_rdI (pl14 hn) rfl (by omega) ee (w_rdI (pl10 hn) rfl (by omega) (lk_p hO.1 hu) (w_rdI (i := 2 * rn_pv A u) (pl14 hn) rn_mul2 (by omega) ew (w_rdI (pl10 hn) rfl (by omega) (lk_p hO.1 hmu) (w_rdI (i := 2 * rn_pv A (mtf A u)) (pl14 hn) rn_mul2 (by omega) eb (w_rdI ml52 rfl ha col ?_)))))))
          by_cases hwf : w (fV9 T.2.2.2 x) = κ
          · obtain ⟨ra, la⟩ := rA hwf
            obtain ⟨rb, lb9⟩ := rB hwf
            have c7 : ∀ x15 : Int32, x15 = iI (tI9 T.2.2.2 w κ x) → Tt (fun K i => q_X13_signatureOf K i 6 (nI v0) (nI p) (nI k) x5 (nI o) (if 0 < T.2.2.2 x then 1 else 0) (nI u) (nI (mtf A u)) (nI (fl (2 * u))) (nI (fl (2 * u + 1))) (nI (fl (2 * rn_pv A u))) (nI (fl (2 * rn_pv A (mtf A u)))) 1 0 0 0 n x15 0 y) Q := by
              intro x15 e15
              refine u_X13_signatureOf_6 ?_; unfold qm_X13_signatureOf_6
              refine w_ifF (by decide) ?_
              refine u_X13_signatureOf_7 ?_; unfold qm_X13_signatureOf_7
              refine w_rdI ml53 rfl ha ra (w_ifF (by decide) ?_)
              exact c8 1 x15 _ _ hb0 la lb9 rb rfl e15 (by rw [if_pos hwf]) _ _ _ _ _
            rw [if_pos hwf]
            refine w_ifT rfl ?_
            refine u_X13_signatureOf_5 ?_; unfold qm_X13_signatureOf_5
            by_cases hpl : 0 < T.2.2.2 x
            · refine w_ifT (by rw [if_pos hpl]) (c7 (-1) ?_)
              unfold tI9 sgI9
              rw [if_pos hwf, if_pos hpl]
              rfl
            · refine w_ifF (by rw [if_neg hpl]; decide) (c7 1 ?_)
              unfold tI9 sgI9
              rw [if_pos hwf, if_neg hpl]
              rfl
          · have hwn := bnot hwf
            obtain ⟨ra, la⟩ := rE hwn
            obtain ⟨rb, lb9⟩ := rW hwn
            have c7 : ∀ x15 : Int32, x15 = iI (tI9 T.2.2.2 w κ x) → Tt (fun K i => q_X13_signatureOf K i 6 (nI v0) (nI p) (nI k) x5 (nI o) (if 0 < T.2.2.2 x then 1 else 0) (nI u) (nI (mtf A u)) (nI (fl (2 * u))) (nI (fl (2 * u + 1))) (nI (fl (2 * rn_pv A u))) (nI (fl (2 * rn_pv A (mtf A u)))) 0 0 0 0 n x15 0 y) Q := by
              intro x15 e15
              refine u_X13_signatureOf_6 ?_; unfold qm_X13_signatureOf_6
              refine w_ifT rfl ?_
              refine u_X13_signatureOf_7 ?_; unfold qm_X13_signatureOf_7
              refine w_rdI ml53 rfl he ra (w_ifT rfl ?_)
              exact c8 0 x15 _ _ hw0 la lb9 rb rfl e15 (by rw [if_neg hwf]) _ _ _ _ _
            rw [if_neg hwf]
            refine w_ifF (by decide) ?_
            refine u_X13_signatureOf_5 ?_; unfold qm_X13_signatureOf_5
            by_cases hpl : 0 < T.2.2.2 x
            · refine w_ifF (by rw [if_pos hpl]; decide) (c7 1 ?_)
              unfold tI9 sgI9
              rw [if_neg hwf, if_pos hpl]
              rfl
            · refine w_ifT (by rw [if_neg hpl]) (c7 (-1) ?_)
              unfold tI9 sgI9
              rw [if_neg hwf, if_neg hpl]
              rfl
        refine u_X13_signatureOf_3 ?_; unfold qm_X13_signatureOf_3
        by_cases hpl : 0 < T.2.2.2 x
        · refine w_ifF (by rw [if_pos hpl]; decide) (c4 o hol ?_)
          rw [lo]
          unfold fV9
          rw [if_pos hpl]
        · refine w_ifT (by rw [if_neg hpl]) (w_rdI (pl7 hn) rfl (by omega) (lk_m hd hO.1 hol) (c4 _ hml ?_))
          rw [lm]
          unfold fV9
          rw [if_neg hpl]
      have sgn : y.2.1 (n + 6) (crs A o) = if sg (crs A o) then -1 else 1 := hO.2.1 _ (List.mem_of_getElem? (vAt_of hol))
      have gx := hi.2.2.2.2.2.2.1 o hol
      have gpm := hp1 (crs A o) lbo.2.2.1
      refine u_X13_signatureOf_2 ?_; unfold qm_X13_signatureOf_2
      refine w_rdF hO.1.V (w_leF (by omega) hol (w_rdI (pl5 hn) rfl (by omega) (lk_cu hO.1 hol).2 (w_if (fun hu9 => ?_) (fun hu9 => ?_))))
      · have hu0 : uns A o = 0 := nI_inj9 (by have := lbo.2.1; omega) (by omega) (hu9.trans nI_0.symm)
        refine w_rdI (pl8 hn) rfl (by omega) (lk_c hO.1 hol) (w_rdI (pl12 hn) rfl (by omega) rfl (w_if (fun hpp => ?_) (fun hpp => ?_)))
        · rw [y12] at hpp
          have hoP : inP A (z.2.1 (n + 12)) p o := ⟨hol, hpp⟩
          have k3 := c3 hu0 hoP
          refine w_rdI (pl4 hn) rfl (by omega) (lk_cu hO.1 hol).1 (w_rdI (pl6 hn) rfl (by omega) sgn ?_)
          have gx2 : T.2.2.2 (crs A o) < 0 ↔ sg (crs A o) = true := gx
          cases hsg : sg (crs A o) with
          | true =>
            have : T.2.2.2 (crs A o) < 0 := gx2.mpr hsg
            rw [if_neg (fun h9 => by
              rcases gpm with h8 | h8 <;> rw [h8] at this h9
              · exact absurd this (by decide)
              · exact absurd h9 (by decide))] at k3
            exact w_ifT (by decide) k3
          | false =>
            have hng : ¬ T.2.2.2 (crs A o) < 0 := fun h9 => by
              rw [gx2.mp h9] at hsg
              exact absurd hsg (by decide)
            rw [if_pos (by
              rcases gpm with h8 | h8 <;> rw [h8] at hng ⊢
              · decide
              · exact absurd (by decide) hng)] at k3
            exact w_ifF (by decide) k3
        · rw [y12] at hpp
          exact skip (fun h9 => hpp ((hqA o hol).mpr h9.2).2)
      · exact skip (fun h9 => hu9 (by rw [h9.1]; exact nI_0))
  have c1 : ∀ (d i : Nat) (y : ow_MS), i + d = 256 → fr (fun g => g = 54) z1 y → (∀ a, a < i → y.2.2 54 a = 0) → Tt (fun K t => q_X13_signatureOf K t 1 (nI v0) (nI p) (nI k) (nI i) 0 0 0 0 0 0 0 0 0 0 0 0 n 0 0 y) Q := by
    intro d
    induction d with
    | zero =>
      intro i y hi9 hf h0
      refine u_X13_signatureOf_1 ?_; unfold qm_X13_signatureOf_1
      exact w_leT (a := 256) (by omega) (by omega) (c2 A.flatten.length 0 0 y (by omega) hf rfl (fun a b ha hb2 => h0 _ (by omega)))
    | succ d ih =>
      intro i y hi9 hf h0
      refine u_X13_signatureOf_1 ?_; unfold qm_X13_signatureOf_1
      rw [nI_1]
      refine w_leF (a := 256) (by omega) (by omega) (w_wrJ ml54 rfl (by omega) (ih (i + 1) _ (by omega) (fr_J2 hf rfl) (fun a ha => ?_)))
      by_cases h9 : a = i
      · rw [h9]
        exact usJ_at
      · rw [usJ_ne h9]
        exact h0 a (by omega)
  exact c1 256 0 z1 (by omega) fr_rf (fun a ha => absurd ha (by omega))
end XSHA
end
section
/-! 99zzzzzzzzzzzzzzzzyzzzk.xshb -/
/-! signature, the reference: exactly -/
section XSHB
variable {X : (Nat → Nat → Int32) → Prop} {z : ow_MS} {St : plT} {T : ow_NT} {nn Pc : Nat} {M : Nat → Int32} {φ ψ : Nat → Nat} {w cf : Nat → Bool}
/-- marks of the list and marks of the net -/
theorem mk_M {A : rn_L} {sg : Nat → Bool} {mm : Nat → Nat} {P : Nat} (h : fcD9 T.1 T.2.2.1 T.2.2.2 w nn Pc M φ ψ cf) (hV : isoV A sg idN T) (hk : mk A mm P) {v u : Nat} (h1 : v < A.flatten.length) (h2 : u < A.flatten.length) : M (lbv A idN v) = M (lbv A idN u) ↔ mm (rn_c A v) = mm (rn_c A u) := by
  have hi := isoS_iff.mp hV.1
  have hv := h.1
  have hc : T.1 ≤ 12 := h.2.2.2.2.2.2.2.2.2.2.2.2.1
  have l1 := lbv_lt hi h1
  have l2 := lbv_lt hi h2
  rw [← part_iff hi hv hk h1 h2, parts_iff hv hc l1 l2]
  refine ⟨fun e => h.2.2.2.2.2.2.2.2.2.2.1 _ _ l1 l2 e, fun r => ?_⟩
  have := r (fun k => k < 2 * T.1 ∧ M k = M (lbv A idN v)) ⟨l1, rfl⟩ (fun j hj ⟨_, e⟩ => ⟨(hv j hj).1, by rw [(h.2.2.2.2.2.2.2.2.2.1 j hj).1]; exact e⟩) (fun j hj ⟨_, e⟩ => ⟨mt_lt hj, by rw [(h.2.2.2.2.2.2.2.2.2.1 j hj).2]; exact e⟩)
  exact this.2.symm
theorem xq_signature {d : Int32} (hXa : X53a X) (h : gI X z) (hR : relR z St) (hT : ∀ e A sg, e < 40 → d = nI e → St e = some (A, sg) → isoV A sg idN T ∧ pm1 T ∧ fcD9 T.1 T.2.2.1 T.2.2.2 w nn Pc M φ ψ cf) : Te (fun K => qe_X13_signature K d z) (fun r => (r.2.1 1 = nI 1 ∧ ∀ e, e < 40 → d = nI e → St e = none) ∨ ∃ e A sg, e < 40 ∧ d = nI e ∧ St e = some (A, sg) ∧ r.2.1 1 = 0 ∧ r.1 = iI (zS9 (fun p => vlG9 T.1 T.2.2.1 T.2.2.2 w nn M φ ψ cf p) Pc)) := by
  let Q : Int32 × ow_MS → Prop := fun r => (r.2.1 1 = nI 1 ∧ ∀ e, e < 40 → d = nI e → St e = none) ∨ ∃ e A sg, e < 40 ∧ d = nI e ∧ St e = some (A, sg) ∧ r.2.1 1 = 0 ∧ r.1 = iI (zS9 (fun p => vlG9 T.1 T.2.2.1 T.2.2.2 w nn M φ ψ cf p) Pc)
  have h1 := gI_1 (c := 0) h
  have hR1 := relR_1 (c := 0) hR
  refine e_X13_signature ?_
  refine u_X13_signature_0 ?_; unfold qm_X13_signature_0
  refine w_wrF (w_hasX hR1 (fun h0 => w_ifT rfl (w_mono (w_failX h1 fr_1) (fun r hr => Or.inl ⟨hr.2.1, h0⟩))) (fun e A sg he hx hs hv9 hne => w_ifF (by decide) ?_))
  obtain ⟨hV, hp1, hD⟩ := hT e A sg he hx hs
  subst hx
  have hi := isoS_iff.mp hV.1
  have hv := hD.1
  have hcT : T.1 ≤ 12 := hD.2.2.2.2.2.2.2.2.2.2.2.2.1
  have hPc : Pc ≤ 24 := hD.2.2.2.2.2.2.2.2.2.2.2.2.2.2
  refine w_cs0 (to_open pn1 he hv9) (fun z2 ⟨o2, f2⟩ => ?_)
  have hl := o2.len
  have hC := o2.2.2.2
  have hd := wkF_ok o2.wk
  obtain ⟨c, hok, hc⟩ := o2.2.2.1
  refine w_cs0 (tn_split pn1 (by omega) (by omega) hd o2.1) (fun z3 ⟨f3, P, hP3⟩ => ?_)
  obtain ⟨mm, hmk, hmm⟩ := mk_of (by omega) hP3
  have o3 : oNet z3 1000 A sg := oNet_fr f3 (fun g hg => by unfold frP at hg; omega) o2
  refine w_cs0 (xr_walk (Lb := fun s => φ (psS A s)) pn1 (by omega) hd o3.1 o3.2.1 (fun s hs9 => ?_)) (fun z4 ⟨f4, F, hF4, hw4⟩ => ?_)
  · show φ (psS A (phi A sg s)) = φ (psS A s)
    rw [← ps_on hV hp1 hs9]
    exact hD.2.2.2.1 _ (ps_lt hV hs9)
  have f4 : fr (frW 1000) z3 z4 := f4
  have o4 : oNet z4 1000 A sg := oNet_fr f4 (fun g hg => by unfold frW at hg; omega) o3
  have hP4 : rn_pt z4 1000 A P := by
    unfold rn_pt
    rw [(f4 1013 (by unfold frW; omega)).1, (f4 1012 (by unfold frW; omega)).2.1]
    exact hP3
  have hmm4 : ∀ c, c < A.length → z4.2.1 1012 c = nI (mm c) := fun c hc9 => by
    rw [(f4 1012 (by unfold frW; omega)).2.1]
    exact hmm c hc9
  have hI4 : fcI z4 1000 A sg F P := ⟨o4, hF4, hw4.1, hP4⟩
  have t4 : z4.1 1 = 0 := by
    rw [(f4 1 (by unfold frW; omega)).1, (f3 1 (by unfold frP; omega)).1, (f2 1 (by omega)).1]
    exact po_usF_at
  have iF : ∀ {y : ow_MS}, fr sgH z4 y → fcI y 1000 A sg F P := fun hf => fcI_fr pn1 hf (fun g hg => by unfold sgH at hg; omega) hI4
  have PA : P ≤ A.length := hP4.2.1
  have F80 := hF4.2.1
  -- the faces as a function
  obtain ⟨fl, hfl⟩ : ∃ fl : Nat → Nat, ∀ s, s < 2 * A.flatten.length → z4.2.1 1014 s = nI (fl s) ∧ fl s < F := by
    refine ⟨fun s => (z4.2.1 1014 s).toNatClampNeg, fun s hs9 => ?_⟩
    obtain ⟨f, hf, ef⟩ := hF4.2.2.1 s hs9
    have ef : z4.2.1 1014 s = nI f := ef
    dsimp only
    rw [ef, nI_clamp (by omega)]
    exact ⟨rfl, hf⟩
  have hfc : ∀ s, s < 2 * A.flatten.length → fl (phi A sg s) = fl s := fun s hs9 => by
    obtain ⟨a1, a2⟩ := hfl s hs9
    obtain ⟨b1, b2⟩ := hfl _ (phi_lt (sg := sg) hd hs9)
    have := (hw4.1 (fl s) a2 s hs9).mp a1
    have this : z4.2.1 1014 (phi A sg s) = nI (fl s) := this
    rw [b1] at this
    exact nI_inj9 (by omega) (by omega) this
  have hfi : ∀ s t, s < 2 * A.flatten.length → t < 2 * A.flatten.length → fl s = fl t → φ (psS A s) = φ (psS A t) := fun s t hs9 ht9 e9 => by
    obtain ⟨a1, a2⟩ := hfl s hs9
    obtain ⟨b1, b2⟩ := hfl t ht9
    rw [← e9] at b1
    exact (hw4.2 (fl s) a2).2 s t hs9 ht9 a1 b1
  -- which part of the net a part of the list is
  obtain ⟨D, hDD⟩ : ∃ D : Nat → Nat → Bool, ∀ p pc, D p pc = true ↔ ∃ v, v < A.flatten.length ∧ mm (rn_c A v) = p ∧ M (lbv A idN v) = nI pc := by
    have hex : ∀ p pc, ∃ b : Bool, b = true ↔ ∃ v, v < A.flatten.length ∧ mm (rn_c A v) = p ∧ M (lbv A idN v) = nI pc := fun p pc => by
      by_cases hs9 : ∃ v, v < A.flatten.length ∧ mm (rn_c A v) = p ∧ M (lbv A idN v) = nI pc
      · exact ⟨true, ⟨fun _ => hs9, fun _ => rfl⟩⟩
      · exact ⟨false, ⟨fun h9 => absurd h9 (by decide), fun h9 => absurd h9 hs9⟩⟩
    exact ⟨fun p pc => Classical.choose (hex p pc), fun p pc => Classical.choose_spec (hex p pc)⟩
  have Mn : ∀ v, v < A.flatten.length → ∃ pc, pc < Pc ∧ M (lbv A idN v) = nI pc := fun v hv1 => by
    have hl9 := lbv_lt hi hv1
    have a := hD.2.2.2.2.2.2.1 (2 * lbv A idN v) (by omega)
    rw [show 2 * lbv A idN v / 2 = lbv A idN v by omega] at a
    exact ⟨_, hD.2.2.2.2.2.1 _ (hD.2.2.1 _ (by omega)), a⟩
  let gv : Nat → Int := fun p => zS9 (fun pc => if D p pc = true then vlG9 T.1 T.2.2.1 T.2.2.2 w nn M φ ψ cf pc else 0) Pc
  have total : zS9 gv P = zS9 (fun p => vlG9 T.1 T.2.2.1 T.2.2.2 w nn M φ ψ cf p) Pc := by
    show zS9 (fun p => zS9 (fun pc => if D p pc = true then vlG9 T.1 T.2.2.1 T.2.2.2 w nn M φ ψ cf pc else 0) Pc) P = _
    rw [zS_sw]
    refine zS_cg (fun pc hpc => ?_)
    obtain ⟨u, u1, u2⟩ := hD.2.2.2.2.2.2.2.2.2.2.2.1 pc hpc
    obtain ⟨v, v1, v2⟩ := lbv_sur hi u1
    have v2 : lbv A idN v = u := v2
    have Mv : M (lbv A idN v) = nI pc := by rw [v2]; exact u2
    refine zS_one (P := fun p => D p pc) (g := fun _ => vlG9 T.1 T.2.2.1 T.2.2.2 w nn M φ ψ cf pc) (a := mm (rn_c A v)) (hmk.1 _ (rn_c_in A v v1).1) ((hDD _ _).mpr ⟨v, v1, rfl, Mv⟩) (fun b _ hb => ?_)
    obtain ⟨v', a1, a2, a3⟩ := (hDD b pc).mp hb
    rw [← a2]
    exact (mk_M hD hV hmk a1 v1).mp (by rw [a3, Mv])
  have c1 : ∀ (d9 p : Nat) (x2 : Int32) (y : ow_MS), p + d9 = P → fr sgH z4 y → x2 = iI (zS9 gv p) → Tt (fun K i => q_X13_signature K i 1 (nI e) x2 (nI p) 0 0 0 0 y) Q := by
    intro d9
    induction d9 with
    | zero =>
      intro p x2 y hp hf hx2
      have hp : p = P := by omega
      refine u_X13_signature_1 ?_; unfold qm_X13_signature_1
      refine w_rdF (iF hf).2.2.2.1 (w_leT (by omega) (by omega) (w_some (Or.inr ⟨e, A, sg, he, rfl, hs, ?_, ?_⟩)))
      · show y.1 1 = 0
        rw [(hf 1 (by unfold sgH; omega)).1]
        exact t4
      · show x2 = _
        rw [hx2, hp, total]
    | succ d9 ih =>
      intro p x2 y hp hf hx2
      have hIy := iF hf
      have y12 : y.2.1 1012 = z4.2.1 1012 := (hf 1012 (by unfold sgH; omega)).2.1
      have y14 : y.2.1 1014 = z4.2.1 1014 := (hf 1014 (by unfold sgH; omega)).2.1
      have inq : ∀ v, v < A.flatten.length → (inP A (y.2.1 1012) p v ↔ mm (rn_c A v) = p) := fun v hv1 => by
        have hcc := (rn_c_in A v hv1).1
        have := hmk.1 _ hcc
        unfold inP
        rw [y12, hmm4 _ hcc]
        exact ⟨fun h9 => nI_inj9 (by omega) (by omega) h9.2, fun h9 => ⟨hv1, by rw [h9]⟩⟩
      have c4 : ∀ (x4 x5 : Int32) (t : Int) (y : ow_MS), fr sgH z4 y → t = gv p → Tt (fun K i => q_X13_signature K i 4 (nI e) x2 (nI p) x4 x5 (iI t) x2 y) Q := by
        intro x4 x5 t y hf ht
        refine u_X13_signature_4 ?_; unfold qm_X13_signature_4
        rw [nI_1]
        refine ih (p + 1) _ y (by omega) hf ?_
        rw [hx2, ht, iI_add]
        rfl
      have c2 : ∀ (d : Nat) (x4 : Int32), d ≤ A.flatten.length → (x4 = -1 ∧ (∀ v, d ≤ v → v < A.flatten.length → mm (rn_c A v) ≠ p) ∨ ∃ v0, x4 = nI v0 ∧ inP A (y.2.1 1012) p v0) → Tt (fun K i => q_X13_signature K i 2 (nI e) x2 (nI p) x4 (iI ((d : Int) - 1)) 0 0 y) Q := by
        intro d
        induction d with
        | zero =>
          intro x4 _ h4
          refine u_X13_signature_2 ?_; unfold qm_X13_signature_2
          refine w_ifT (by show iI (-1) < iI 0; rw [iI_lt (by omega) (by omega) (by omega) (by omega)]; omega) (w_if (fun n4 => ?_) (fun n4 => ?_))
          · rcases h4 with ⟨h4, h5⟩ | ⟨v0, h4, hv0⟩
            · refine c4 _ _ 0 y hf ?_
              show 0 = zS9 (fun pc => if D p pc = true then vlG9 T.1 T.2.2.1 T.2.2.2 w nn M φ ψ cf pc else 0) Pc
              refine (zS_none (P := fun pc => D p pc) (fun pc _ => ?_)).symm
              cases e9 : D p pc with
              | false => rfl
              | true =>
                obtain ⟨v, a1, a2, -⟩ := (hDD p pc).mp e9
                exact absurd a2 (h5 v (Nat.zero_le _) a1)
            · rw [h4] at n4
              have := hv0.1
              exact absurd n4 (rn_neg1 (by omega))
          · rcases h4 with ⟨h4, -⟩ | ⟨v0, rfl, hv0⟩
            · exact absurd h4 n4
            · have hv0l := hv0.1
              obtain ⟨pc, pc1, pc2⟩ := Mn v0 hv0l
              have e0 := (inq v0 hv0l).mp hv0
              refine w_cs1 (xr_sigOf (pc := pc) (fl := fl) pn1 hok hc hIy (by omega) hv0 (fun s hs9 => by rw [y14]; exact hfl s hs9) hD hV hp1 pc1 (fun v hv1 => ?_) hfc hfi) (fun a y1 ⟨r1, f5⟩ => ?_)
              · rw [inq v hv1]
                have q := mk_M hD hV hmk hv1 hv0l
                rw [e0, pc2] at q
                rw [← q]
                exact ⟨fun h9 => decide_eq_true h9, fun h9 => of_decide_eq_true h9⟩
              · have r1 : a = _ := r1
                rw [r1]
                refine c4 _ _ _ y1 (fr_tr hf f5) ?_
                refine (zS_one (P := fun pc => D p pc) (g := fun pc => vlG9 T.1 T.2.2.1 T.2.2.2 w nn M φ ψ cf pc) (a := pc) pc1 ((hDD p pc).mpr ⟨v0, hv0l, e0, pc2⟩) (fun b hb hb2 => ?_)).symm
                obtain ⟨v, a1, a2, a3⟩ := (hDD p b).mp hb2
                have q := (mk_M hD hV hmk a1 hv0l).mpr (by rw [a2, e0])
                rw [a3, pc2] at q
                exact nI_inj9 (by omega) (by omega) q
        | succ d ih2 =>
          intro x4 hd9 h4
          have e1 : iI (((d + 1 : Nat) : Int) - 1) = nI d := iI_nI (by omega)
          have e2 : nI d + (-1) = iI ((d : Int) - 1) := by
            rw [nI_iI]
            show iI (d : Int) + iI (-1) = _
            rw [iI_add]
            rfl
          have hdl : d < A.flatten.length := by omega
          have hcc := (rn_c_in A d hdl).1
          rw [e1]
          refine u_X13_signature_2 ?_; unfold qm_X13_signature_2
          refine w_ifF (fun h9 => absurd h9 (nI_pos (by omega))) (w_rdI (pl8 pn1) rfl (by omega) (lk_c hIy.1.1 hdl) (w_rdI (pl12 pn1) rfl (by omega) rfl (w_if (fun h9 => ?_) (fun h9 => ?_))))
          · refine u_X13_signature_3 ?_; unfold qm_X13_signature_3
            rw [e2]
            exact ih2 _ (by omega) (Or.inr ⟨d, rfl, hdl, h9⟩)
          · refine u_X13_signature_3 ?_; unfold qm_X13_signature_3
            rw [e2]
            refine ih2 _ (by omega) ?_
            rcases h4 with ⟨h4, h5⟩ | h4
            · refine Or.inl ⟨h4, fun v hv1 hv2 => ?_⟩
              by_cases h8 : v = d
              · rw [h8]
                exact fun h7 => h9 ((inq d hdl).mpr h7).2
              · exact h5 v (by omega) hv2
            · exact Or.inr h4
      refine u_X13_signature_1 ?_; unfold qm_X13_signature_1
      refine w_rdF hIy.2.2.2.1 (w_leF (by omega) (by omega) (w_rdF hIy.1.1.V ?_))
      rw [show nI A.flatten.length - 1 = iI ((A.flatten.length : Nat) - 1) from by rw [nI_iI]; exact iI_sub _ 1]
      exact c2 A.flatten.length (-1) (Nat.le_refl _) (Or.inl ⟨rfl, fun v h8 h9 => by omega⟩)
  exact c1 P 0 0 z4 (by omega) fr_rf rfl
end XSHB
end
section
/-! 99zzzzzzzzzzzzzzzzyzzzl.xshc -/
/-! signature: both sides answer the same; it is a step of the law; what is left of the whole: two cases -/
section XSHC
variable {X : (Nat → Nat → Int32) → Prop} {z y : ow_MS} {vl : Nat → Nat} {x : Int32} {St : plT}
theorem xc_signature (hM : gM y) (hC : relC y St) (hS : okS St) : Te (fun K => ce_X11_signature vl K 0 x y) (fun r => (r.1 = 1 ∧ ∀ d, d < 40 → x = nI d → St d = none) ∨ ∃ d A sg, d < 40 ∧ x = nI d ∧ St d = some (A, sg) ∧ r.1 = 0 ∧ ∃ T w n P M φ ψ cf, isoV A sg idN T ∧ pm1 T ∧ fcD9 T.1 T.2.2.1 T.2.2.2 w n P M φ ψ cf ∧ r.2.1 = iI (zS9 (fun p => vlG9 T.1 T.2.2.1 T.2.2.2 w n M φ ψ cf p) P)) := by
  refine e_X11_signature ?_; unfold cm_X11_signature_0
  refine w_tc0 (xc_need hM.1.1 hC hS) ?_ ?_
  · rintro y1 ⟨h1, rfl⟩
    rcases h1 with h1 | ⟨-, d, A, sg, c, hd, rfl, hSt, hs, hA, hne, hpl⟩
    · exact absurd (show (0 : Nat) = 1 from h1.1) (by decide)
    · refine w_cs0 (tc_ld3 nH4 hM.1 hd hs hA) ?_
      rintro y2 ⟨g1, g2, S, G, g3, g4⟩
      obtain ⟨j1, j2, j3, j4⟩ := g4
      have hV : isoV A sg (fun x => x) (c, cirs A, S, G) := isoV_of j2 j3
      have hG : ∀ x, x < c → G x = 1 ∨ G x = -1 := fun x hx => by
        have h7 : G x = if sg x then -1 else 1 := j4 x hx
        rw [h7]
        split
        · exact Or.inr rfl
        · exact Or.inl rfl
      have hp1 : pm1 (c, cirs A, S, G) := hG
      have hpn : nt_plane (c, cirs A, S, G) = true := hpl (fun x => x) _ hV hp1
      obtain ⟨w, hw⟩ := plane_ga (T := (c, cirs A, S, G)) j3 hA.2.2.2.1 hpn
      refine w_cs1 (te_sgOf g3.1 g3.2.2.1.2.2.1 j3 hA.2.2.2.1 hw hG hpn) ?_
      rintro v z9 ⟨⟨n, P, M, φ, ψ, cf, hD, e9⟩, f3⟩
      exact w_some (Or.inr ⟨d, A, sg, hd, rfl, hSt, rfl, (c, cirs A, S, G), w, n, P, M, φ, ψ, cf, hV, hp1, hD, e9⟩)
  · rintro a y1 ha ⟨h1, rfl⟩
    rcases h1 with h1 | h1
    · exact w_some (Or.inl ⟨h1.1, h1.2⟩)
    · exact absurd h1.1 ha
theorem c_signature (hXa : X53a X) (hXb : X53b X) (h : rel3 X z y) : Te (fun K => qe_X13_signature K x z) (fun rr => Te (fun K => ce_X11_signature vl K 0 x y) (fun rc => rel3 X rr.2 rc.2.2 ∧ ansI [(1, 1)] rr rc)) := by
  obtain ⟨⟨St, k⟩, hM, h2⟩ := id h
  have hga := rel_ga vl hM.1 k.2.2.2.1 k.2.2.2.2
  have hpl := rel_plS hM.1 k.2.2.2.1 k.2.2.2.2
  refine te_two (te_all (α := ow_NT × (Nat → Bool) × Nat × Nat × (Nat → Int32) × (Nat → Nat) × (Nat → Nat) × (Nat → Bool)) (H := fun a => ∀ e A sg, e < 40 → x = nI e → St e = some (A, sg) → isoV A sg idN a.1 ∧ pm1 a.1 ∧ fcD9 a.1.1 a.1.2.2.1 a.1.2.2.2 a.2.1 a.2.2.1 a.2.2.2.1 a.2.2.2.2.1 a.2.2.2.2.2.1 a.2.2.2.2.2.2.1 a.2.2.2.2.2.2.2) (te_fo (tp_signature (d := x) hXa hXb k.1) (fun K => ff_X13_signature)) (fun a ha => xq_signature (St := St) hXa k.1 k.2.2.1 ha)) (te_and (tc_signature (x := x) hM hga hpl) (xc_signature hM k.2.2.2.1 k.2.2.2.2)) (fun rr rc ⟨⟨hgI, fR⟩, hr⟩ ⟨⟨hG, hf, _⟩, hc⟩ => ?_)
  have hC : relC rc.2.2 St := relC_fr hf (fun q hq h9 => by unfold cW at hq; unfold sxP at h9; omega) k.2.2.2.1
  have h2' : rel2 rr.2 rc.2.2 := by
    obtain ⟨k1, k2, k3, ⟨Ns, q1, q2, q3⟩, Ms, q4, q5, q6⟩ := h2
    exact ⟨relT_k fR hf (by decide) (by unfold sxP; omega) k1, relB_k fR hf (by decide) (by unfold sxP; omega) k2, brC_fr hf (by unfold sxP; omega) k3, ⟨Ns, rlR_k fR (by decide) q1, rlC_k hf (fun q hq => by unfold cV at hq; unfold sxP; omega) q2, q3⟩, Ms, rlR_k fR (by decide) q4, rlC_k hf (fun q hq => by unfold cV at hq; unfold sxP; omega) q5, q6⟩
  have fin : ansI [(1, 1)] rr rc → rel3 X rr.2 rc.2.2 ∧ ansI [(1, 1)] rr rc := fun ha => ⟨⟨⟨St, hgI, hG.1, relR_fr fR (by decide) k.2.2.1, hC, k.2.2.2.2⟩, hG, h2'⟩, ha⟩
  rcases hc with ⟨c1, c2⟩ | ⟨d, A, sg, hd, hx, hSt, c1, T, w, n, P, M, φ, ψ, cf, hV, hp1, hD, e9⟩
  · rcases hr ((0, 0, (fun _ => 0, fun _ => 0), fun _ => 0), fun _ => false, 0, 0, fun _ => 0, fun _ => 0, fun _ => 0, fun _ => false) (fun e A sg e0 e1 e2 => by
      rw [c2 e e0 e1] at e2
      cases e2) with ⟨r1, -⟩ | ⟨e, A, sg, e1, e2, e3, -⟩
    · exact fin (Or.inr ⟨1, 1, by simp, r1, c1⟩)
    · rw [c2 e e1 e2] at e3
      cases e3
  · rcases hr (T, w, n, P, M, φ, ψ, cf) (fun e A' sg' e0 e1 e2 => by
      have ed := nI_inj9 (a := e) (b := d) (by omega) (by omega) (by rw [← e1, hx])
      subst ed
      rw [hSt] at e2
      cases e2
      exact ⟨hV, hp1, hD⟩) with ⟨-, r2⟩ | ⟨e, A', sg', e1, e2, e3, e4, e5⟩
    · rw [r2 d hd hx] at hSt
      cases hSt
    · exact fin (Or.inl ⟨e4, c1, e5.trans e9.symm⟩)
theorem s2_signature : stp2 lst_signature := by
  intro S x1 x2 x3 x4 x5 h
  have hc := rel_of (vl := S.1) (y := S.2.1) (z := S.2.2) (em := [(1, 1)]) (fc := fun K => ce_X11_signature S.1 K 0 x1 S.2.1) (fm := fun K => qe_X13_signature K x1 S.2.2) h.1 (c_signature XR_a XR_b h.1.1) (fun K => ff_X13_signature) (fun K => ff_X11_signature) (by decide) (fun g hg h9 => by unfold ciH at h9; omega)
  have hn : Te (fun K => ce_X11_signature S.1 K 0 x1 S.2.1) (fun rc => NM rc.2.2) := te_nmF (te_in hc) (fun K => ff_X11_signature) (fun g hg h9 => by omega) h.2
  have hs : Te (lsV S.1 (fun K => ce_X11_signature S.1 K 0 x1 S.2.1) (fun k z => if k = 1 then some (1, z) else none) (fun K => qe_X13_signature K x1 S.2.2)) (fun S1 => REL S1 ∧ dPhi S.1 ≤ dPhi S1.1) := by
    refine st_int hc (fun j k hm => ?_)
    simp only [List.mem_cons, List.not_mem_nil, or_false, Prod.mk.injEq] at hm
    obtain ⟨rfl, rfl⟩ := hm
    exact ⟨by decide, by decide, by decide, fun _ => rfl⟩
  exact w_monoE (lsV_nm hs hn (fun k z r hr => by
    have hr : (if k = 1 then some (1, z) else none) = some r := hr
    by_cases c0 : k = 1
    · rw [if_pos c0] at hr
      cases hr
      rfl
    rw [if_neg c0] at hr
    cases hr)) (fun S1 ⟨⟨q1, q2⟩, q3⟩ => ⟨⟨q1, q3⟩, q2⟩)
variable {Pc Pr : ow_MS → Prop}
theorem s3_signature (hc : keepP ciX Pc) (hr : keepP rfX Pr) : stpX Pc Pr lst_signature := by
  intro S x1 x2 x3 x4 x5 h pc pr
  have hs : Te (lsV S.1 (fun K => ce_X11_signature S.1 K 0 x1 S.2.1) (fun k z => if k = 1 then some (1, z) else none) (fun K => qe_X13_signature K x1 S.2.2)) (fun S1 => REL2 S1 ∧ dPhi S.1 ≤ dPhi S1.1) := s2_signature S x1 x2 x3 x4 x5 h
  exact w_monoE (lsV_fo hs (fun K => ff_X11_signature) (fun K => ff_X13_signature) (fun k z r hr => by
    have hr : (if k = 1 then some (1, z) else none) = some r := hr
    by_cases c0 : k = 1
    · rw [if_pos c0] at hr
      cases hr
      rfl
    rw [if_neg c0] at hr
    cases hr)) (fun S1 ⟨q, f1, f2⟩ => ⟨q, hc _ _ _ f1 (fun g hg h9 => by unfold ciX at h9; omega) pc, hr _ _ _ f2 (pf_rf (by decide)) pr⟩)
end XSHC
end
section
/-! 99zzzzzzzzzzzzzzzzyzzzm.xshd -/
/-! the whole out of two cases: cover and colours -/
section XSHD
variable {Qc Qr : ow_MS → Prop}
end XSHD
end
section
/-! 99zzzzzzzzzzzzzzzzyzzzn.xcv1 -/
/-! cover: determinants of whole numbers -/
section XCV1
end XCV1
end
section
/-! 99zzzzzzzzzzzzzzzzyzzzo.xcv2 -/
/-! cover: minors, and what divides them all -/
section XCV2
variable {R n : Nat} {B : Nat → Nat → Int}
end XCV2
end
section
/-! 99zzzzzzzzzzzzzzzzyzzzp.xcv3 -/
/-! cover: rows and columns exchanged -/
section XCV3
end XCV3
end
section
/-! 99zzzzzzzzzzzzzzzzyzzzq.xcv4 -/
/-! cover: rows with one 1 and one -1: determinants are 0, 1 or -1; sums of two such rows: at most 2^k -/
section XCV4
end XCV4
end
section
/-! 99zzzzzzzzzzzzzzzzyzzzr.xcv5 -/
/-! cover: diagonal matrices -/
section XCV5
end XCV5
end
