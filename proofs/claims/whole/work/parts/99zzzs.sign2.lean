/-! signature has an answer: the parts -/
section SIG2
variable {X : (Nat → Nat → Int32) → Prop} {z : ow_MS}
abbrev sgH (g : Nat) : Prop := 52 ≤ g ∧ g ≤ 57
theorem e_X13_signatureOf {r1 : Nat} {x2 : Int32} {z : ow_MS} {Q : (Int32 × ow_MS) → Prop} (H : Tt (fun K k => q_X13_signatureOf K k 0 x2 0 0 0 0 0 0 0 0 0 0 0 0 0 0 0 r1 0 0 z) Q) : Te (fun K => qe_X13_signatureOf K r1 x2 z) Q := w_te H
theorem u_X13_signatureOf_0 {x2 : Int32} {x3 : Int32} {x4 : Int32} {x5 : Int32} {x6 : Int32} {x7 : Int32} {x8 : Int32} {x9 : Int32} {x10 : Int32} {x11 : Int32} {x12 : Int32} {x13 : Int32} {x14 : Int32} {x15 : Int32} {x16 : Int32} {x17 : Int32} {r1 : Nat} {t0 : Int32} {t1 : Int32} {z : ow_MS} {Q : (Int32 × ow_MS) → Prop} (H : Tt (fun K k => qm_X13_signatureOf_0 K (q_X13_signatureOf K k) x2 x3 x4 x5 x6 x7 x8 x9 x10 x11 x12 x13 x14 x15 x16 x17 r1 t0 t1 z) Q) : Tt (fun K k => q_X13_signatureOf K k 0 x2 x3 x4 x5 x6 x7 x8 x9 x10 x11 x12 x13 x14 x15 x16 x17 r1 t0 t1 z) Q := w_un (fun _ _ => rfl) H
theorem u_X13_signatureOf_2 {x2 : Int32} {x3 : Int32} {x4 : Int32} {x5 : Int32} {x6 : Int32} {x7 : Int32} {x8 : Int32} {x9 : Int32} {x10 : Int32} {x11 : Int32} {x12 : Int32} {x13 : Int32} {x14 : Int32} {x15 : Int32} {x16 : Int32} {x17 : Int32} {r1 : Nat} {t0 : Int32} {t1 : Int32} {z : ow_MS} {Q : (Int32 × ow_MS) → Prop} (H : Tt (fun K k => qm_X13_signatureOf_2 K (q_X13_signatureOf K k) x2 x3 x4 x5 x6 x7 x8 x9 x10 x11 x12 x13 x14 x15 x16 x17 r1 t0 t1 z) Q) : Tt (fun K k => q_X13_signatureOf K k 2 x2 x3 x4 x5 x6 x7 x8 x9 x10 x11 x12 x13 x14 x15 x16 x17 r1 t0 t1 z) Q := w_un (fun _ _ => rfl) H
theorem u_X13_signatureOf_10 {x2 : Int32} {x3 : Int32} {x4 : Int32} {x5 : Int32} {x6 : Int32} {x7 : Int32} {x8 : Int32} {x9 : Int32} {x10 : Int32} {x11 : Int32} {x12 : Int32} {x13 : Int32} {x14 : Int32} {x15 : Int32} {x16 : Int32} {x17 : Int32} {r1 : Nat} {t0 : Int32} {t1 : Int32} {z : ow_MS} {Q : (Int32 × ow_MS) → Prop} (H : Tt (fun K k => qm_X13_signatureOf_10 K (q_X13_signatureOf K k) x2 x3 x4 x5 x6 x7 x8 x9 x10 x11 x12 x13 x14 x15 x16 x17 r1 t0 t1 z) Q) : Tt (fun K k => q_X13_signatureOf K k 10 x2 x3 x4 x5 x6 x7 x8 x9 x10 x11 x12 x13 x14 x15 x16 x17 r1 t0 t1 z) Q := w_un (fun _ _ => rfl) H
theorem u_X13_signatureOf_9 {x2 : Int32} {x3 : Int32} {x4 : Int32} {x5 : Int32} {x6 : Int32} {x7 : Int32} {x8 : Int32} {x9 : Int32} {x10 : Int32} {x11 : Int32} {x12 : Int32} {x13 : Int32} {x14 : Int32} {x15 : Int32} {x16 : Int32} {x17 : Int32} {r1 : Nat} {t0 : Int32} {t1 : Int32} {z : ow_MS} {Q : (Int32 × ow_MS) → Prop} (H : Tt (fun K k => qm_X13_signatureOf_9 K (q_X13_signatureOf K k) x2 x3 x4 x5 x6 x7 x8 x9 x10 x11 x12 x13 x14 x15 x16 x17 r1 t0 t1 z) Q) : Tt (fun K k => q_X13_signatureOf K k 9 x2 x3 x4 x5 x6 x7 x8 x9 x10 x11 x12 x13 x14 x15 x16 x17 r1 t0 t1 z) Q := w_un (fun _ _ => rfl) H
theorem u_X13_signatureOf_8 {x2 : Int32} {x3 : Int32} {x4 : Int32} {x5 : Int32} {x6 : Int32} {x7 : Int32} {x8 : Int32} {x9 : Int32} {x10 : Int32} {x11 : Int32} {x12 : Int32} {x13 : Int32} {x14 : Int32} {x15 : Int32} {x16 : Int32} {x17 : Int32} {r1 : Nat} {t0 : Int32} {t1 : Int32} {z : ow_MS} {Q : (Int32 × ow_MS) → Prop} (H : Tt (fun K k => qm_X13_signatureOf_8 K (q_X13_signatureOf K k) x2 x3 x4 x5 x6 x7 x8 x9 x10 x11 x12 x13 x14 x15 x16 x17 r1 t0 t1 z) Q) : Tt (fun K k => q_X13_signatureOf K k 8 x2 x3 x4 x5 x6 x7 x8 x9 x10 x11 x12 x13 x14 x15 x16 x17 r1 t0 t1 z) Q := w_un (fun _ _ => rfl) H
theorem u_X13_signatureOf_7 {x2 : Int32} {x3 : Int32} {x4 : Int32} {x5 : Int32} {x6 : Int32} {x7 : Int32} {x8 : Int32} {x9 : Int32} {x10 : Int32} {x11 : Int32} {x12 : Int32} {x13 : Int32} {x14 : Int32} {x15 : Int32} {x16 : Int32} {x17 : Int32} {r1 : Nat} {t0 : Int32} {t1 : Int32} {z : ow_MS} {Q : (Int32 × ow_MS) → Prop} (H : Tt (fun K k => qm_X13_signatureOf_7 K (q_X13_signatureOf K k) x2 x3 x4 x5 x6 x7 x8 x9 x10 x11 x12 x13 x14 x15 x16 x17 r1 t0 t1 z) Q) : Tt (fun K k => q_X13_signatureOf K k 7 x2 x3 x4 x5 x6 x7 x8 x9 x10 x11 x12 x13 x14 x15 x16 x17 r1 t0 t1 z) Q := w_un (fun _ _ => rfl) H
theorem u_X13_signatureOf_6 {x2 : Int32} {x3 : Int32} {x4 : Int32} {x5 : Int32} {x6 : Int32} {x7 : Int32} {x8 : Int32} {x9 : Int32} {x10 : Int32} {x11 : Int32} {x12 : Int32} {x13 : Int32} {x14 : Int32} {x15 : Int32} {x16 : Int32} {x17 : Int32} {r1 : Nat} {t0 : Int32} {t1 : Int32} {z : ow_MS} {Q : (Int32 × ow_MS) → Prop} (H : Tt (fun K k => qm_X13_signatureOf_6 K (q_X13_signatureOf K k) x2 x3 x4 x5 x6 x7 x8 x9 x10 x11 x12 x13 x14 x15 x16 x17 r1 t0 t1 z) Q) : Tt (fun K k => q_X13_signatureOf K k 6 x2 x3 x4 x5 x6 x7 x8 x9 x10 x11 x12 x13 x14 x15 x16 x17 r1 t0 t1 z) Q := w_un (fun _ _ => rfl) H
theorem u_X13_signatureOf_5 {x2 : Int32} {x3 : Int32} {x4 : Int32} {x5 : Int32} {x6 : Int32} {x7 : Int32} {x8 : Int32} {x9 : Int32} {x10 : Int32} {x11 : Int32} {x12 : Int32} {x13 : Int32} {x14 : Int32} {x15 : Int32} {x16 : Int32} {x17 : Int32} {r1 : Nat} {t0 : Int32} {t1 : Int32} {z : ow_MS} {Q : (Int32 × ow_MS) → Prop} (H : Tt (fun K k => qm_X13_signatureOf_5 K (q_X13_signatureOf K k) x2 x3 x4 x5 x6 x7 x8 x9 x10 x11 x12 x13 x14 x15 x16 x17 r1 t0 t1 z) Q) : Tt (fun K k => q_X13_signatureOf K k 5 x2 x3 x4 x5 x6 x7 x8 x9 x10 x11 x12 x13 x14 x15 x16 x17 r1 t0 t1 z) Q := w_un (fun _ _ => rfl) H
theorem u_X13_signatureOf_4 {x2 : Int32} {x3 : Int32} {x4 : Int32} {x5 : Int32} {x6 : Int32} {x7 : Int32} {x8 : Int32} {x9 : Int32} {x10 : Int32} {x11 : Int32} {x12 : Int32} {x13 : Int32} {x14 : Int32} {x15 : Int32} {x16 : Int32} {x17 : Int32} {r1 : Nat} {t0 : Int32} {t1 : Int32} {z : ow_MS} {Q : (Int32 × ow_MS) → Prop} (H : Tt (fun K k => qm_X13_signatureOf_4 K (q_X13_signatureOf K k) x2 x3 x4 x5 x6 x7 x8 x9 x10 x11 x12 x13 x14 x15 x16 x17 r1 t0 t1 z) Q) : Tt (fun K k => q_X13_signatureOf K k 4 x2 x3 x4 x5 x6 x7 x8 x9 x10 x11 x12 x13 x14 x15 x16 x17 r1 t0 t1 z) Q := w_un (fun _ _ => rfl) H
theorem u_X13_signatureOf_3 {x2 : Int32} {x3 : Int32} {x4 : Int32} {x5 : Int32} {x6 : Int32} {x7 : Int32} {x8 : Int32} {x9 : Int32} {x10 : Int32} {x11 : Int32} {x12 : Int32} {x13 : Int32} {x14 : Int32} {x15 : Int32} {x16 : Int32} {x17 : Int32} {r1 : Nat} {t0 : Int32} {t1 : Int32} {z : ow_MS} {Q : (Int32 × ow_MS) → Prop} (H : Tt (fun K k => qm_X13_signatureOf_3 K (q_X13_signatureOf K k) x2 x3 x4 x5 x6 x7 x8 x9 x10 x11 x12 x13 x14 x15 x16 x17 r1 t0 t1 z) Q) : Tt (fun K k => q_X13_signatureOf K k 3 x2 x3 x4 x5 x6 x7 x8 x9 x10 x11 x12 x13 x14 x15 x16 x17 r1 t0 t1 z) Q := w_un (fun _ _ => rfl) H
theorem u_X13_signatureOf_1 {x2 : Int32} {x3 : Int32} {x4 : Int32} {x5 : Int32} {x6 : Int32} {x7 : Int32} {x8 : Int32} {x9 : Int32} {x10 : Int32} {x11 : Int32} {x12 : Int32} {x13 : Int32} {x14 : Int32} {x15 : Int32} {x16 : Int32} {x17 : Int32} {r1 : Nat} {t0 : Int32} {t1 : Int32} {z : ow_MS} {Q : (Int32 × ow_MS) → Prop} (H : Tt (fun K k => qm_X13_signatureOf_1 K (q_X13_signatureOf K k) x2 x3 x4 x5 x6 x7 x8 x9 x10 x11 x12 x13 x14 x15 x16 x17 r1 t0 t1 z) Q) : Tt (fun K k => q_X13_signatureOf K k 1 x2 x3 x4 x5 x6 x7 x8 x9 x10 x11 x12 x13 x14 x15 x16 x17 r1 t0 t1 z) Q := w_un (fun _ _ => rfl) H
theorem tp_sigOf {n F P p v0 c : Nat} {A : rn_L} {sg : Nat → Bool} (hn : mw_net n) (hok : okF A.flatten c) (hc : c ≤ 12) (hI : fcI z n A sg F P) (hp : p < P) (hv0 : inP A (z.2.1 (n + 12)) p v0) (h53 : ∀ f, f < 80 → inR z 53 f 16) : Te (fun K => qe_X13_signatureOf K n (nI v0) z) (fun r => fr sgH z r.2 ∧ ∀ f, f < 80 → inR r.2 53 f 16) := by
  have hV := okF_len hok
  have hmn := net_mod hn
  have hd := wkF_ok hI.1.wk
  have hC := hI.1.2.2.2
  let Q : Int32 × ow_MS → Prop := fun r => fr sgH z r.2 ∧ ∀ f, f < 80 → inR r.2 53 f 16
  have iF : ∀ {y : ow_MS}, fr sgH z y → fcI y n A sg F P := fun hf => fcI_fr hn hf (fun g hg => by unfold sgH at hg; omega) hI
  have hv0l := hv0.1
  have hcc0 := (rn_c_in A v0 hv0l).1
  refine e_X13_signatureOf ?_
  refine u_X13_signatureOf_0 ?_; unfold qm_X13_signatureOf_0
  refine w_rdI (pl8 hn) rfl (by omega) (lk_c hI.1.1 hv0.1) (w_rdI (pl12 hn) rfl (by omega) hv0.2 (w_cs1 (tp_colour hn hok hc hI hp hv0 h53) (fun a1 z1 ⟨⟨k, hk1, hk14, ek⟩, f1, w1⟩ => ?_)))
  have ek : a1 = nI k := ek
  have f1 : fr (fun g => g = 52 ∨ g = 53) z z1 := f1
  have w1 : ∀ f, f < 80 → inR z1 53 f 16 := w1
  rw [ek]
  have hf1 : fr sgH z z1 := fr_mono (fun g hg => by unfold sgH; omega) f1
  have c2 : ∀ (d o : Nat) (x5 : Int32) (y : ow_MS), o + d = A.flatten.length → fr sgH z y → (∀ f, f < 80 → inR y 53 f 16) → Tt (fun K i => q_X13_signatureOf K i 2 (nI v0) (nI p) (nI k) x5 (nI o) 0 0 0 0 0 0 0 0 0 0 0 n 0 0 y) Q := by
    intro d
    induction d with
    | zero =>
      intro o x5 y ho hf hw
      refine u_X13_signatureOf_2 ?_; unfold qm_X13_signatureOf_2
      rw [show nI k - 1 = nI (k - 1) from pk_sub (b := 1) hk1]
      exact w_rdF (iF hf).1.1.V (w_leT (by omega) (by omega) (w_cs1 (tp_roots (by omega)) (fun a y1 f2 => w_some ⟨fr_tr hf (fr_mono (fun g hg => by unfold rtH at hg; unfold sgH; omega) f2), fun f h9 => inR_fr f2 (by unfold rtH; omega) (hw f h9)⟩)))
    | succ d ih =>
      intro o x5 y ho hf hw
      have hol : o < A.flatten.length := by omega
      have hIy := iF hf
      have hO := hIy.1
      obtain ⟨x1, x2, x3⟩ := hO.cx hol
      have hcc := (rn_c_in A o hol).1
      have hml := mtf_lt hd hol
      have c10 : ∀ (x5 : Int32) (y : ow_MS), fr sgH z y → (∀ f, f < 80 → inR y 53 f 16) → Tt (fun K i => q_X13_signatureOf K i 10 (nI v0) (nI p) (nI k) x5 (nI o) 0 0 0 0 0 0 0 0 0 0 0 n 0 0 y) Q := by
        intro x5 y hf hw
        refine u_X13_signatureOf_10 ?_; unfold qm_X13_signatureOf_10
        rw [nI_1]
        exact ih (o + 1) x5 y (by omega) hf hw
      have face : ∀ s, s < 2 * A.flatten.length → ∃ f, f < 80 ∧ y.2.1 (n + 14) s = nI f := fun s hs => by
        obtain ⟨f, h1, h2⟩ := hIy.2.1.2.2.1 s hs
        exact ⟨f, by have := hIy.2.1.2.1; omega, h2⟩
      have c4 : ∀ (t0 : Int32) (u : Nat), u < A.flatten.length → Tt (fun K i => q_X13_signatureOf K i 4 (nI v0) (nI p) (nI k) x5 (nI o) t0 0 0 0 0 0 0 0 0 0 0 n (nI u) 0 y) Q := by
        intro x7 u hu
        have hmu := mtf_lt hd hu
        have hpu := rn_pv_lt hu
        have hpm := rn_pv_lt hmu
        obtain ⟨fa, ha, ea⟩ := face (2 * u) (by omega)
        obtain ⟨fe, he, ee⟩ := face (2 * u + 1) (by omega)
        obtain ⟨fw, hw0, ew⟩ := face (2 * rn_pv A u) (by omega)
        obtain ⟨fb, hb, eb⟩ := face (2 * rn_pv A (mtf A u)) (by omega)
        have c9 : ∀ (x8 x9 x10 x11 x12 x13 x14 x15 x16 x17 t0 t1 : Int32) (y : ow_MS), fr sgH z y → (∀ f, f < 80 → inR y 53 f 16) → Tt (fun K i => q_X13_signatureOf K i 9 (nI v0) (nI p) (nI k) x5 (nI o) x7 x8 x9 x10 x11 x12 x13 x14 x15 x16 x17 n t0 t1 y) Q := by
          intro x8 x9 x10 x11 x12 x13 x14 x15 x16 x17 t0 t1 y hf hw
          refine u_X13_signatureOf_9 ?_; unfold qm_X13_signatureOf_9
          exact c10 _ y hf hw
        have c8 : ∀ (x14 x15 : Int32) (i f : Nat), i < 16 → f < 80 → Tt (fun K t => q_X13_signatureOf K t 8 (nI v0) (nI p) (nI k) x5 (nI o) x7 (nI u) (nI (mtf A u)) (nI fa) (nI fe) (nI fw) (nI fb) x14 x15 (nI i) 0 n (nI f) 0 y) Q := by
          intro x14 x15 i f hi hf80
          obtain ⟨j, hj, ej⟩ := hw f hf80
          refine u_X13_signatureOf_8 ?_; unfold qm_X13_signatureOf_8
          refine w_rdI ml53 rfl hf80 ej ?_
          rw [s16_ix, s16_ix, s16_ix, s16_ix]
          have hfJ : fr sgH z (usJ (usJ (usJ (usJ y 54 (16 * i + i) (y.2.2 54 (16 * i + i) + x15.toInt64)) 54 (16 * j + j) ((usJ y 54 (16 * i + i) (y.2.2 54 (16 * i + i) + x15.toInt64)).2.2 54 (16 * j + j) + x15.toInt64)) 54 (16 * i + j) ((usJ (usJ y 54 (16 * i + i) (y.2.2 54 (16 * i + i) + x15.toInt64)) 54 (16 * j + j) ((usJ y 54 (16 * i + i) (y.2.2 54 (16 * i + i) + x15.toInt64)).2.2 54 (16 * j + j) + x15.toInt64)).2.2 54 (16 * i + j) - x15.toInt64)) 54 (16 * j + i) ((usJ (usJ (usJ y 54 (16 * i + i) (y.2.2 54 (16 * i + i) + x15.toInt64)) 54 (16 * j + j) ((usJ y 54 (16 * i + i) (y.2.2 54 (16 * i + i) + x15.toInt64)).2.2 54 (16 * j + j) + x15.toInt64)) 54 (16 * i + j) ((usJ (usJ y 54 (16 * i + i) (y.2.2 54 (16 * i + i) + x15.toInt64)) 54 (16 * j + j) ((usJ y 54 (16 * i + i) (y.2.2 54 (16 * i + i) + x15.toInt64)).2.2 54 (16 * j + j) + x15.toInt64)).2.2 54 (16 * i + j) - x15.toInt64)).2.2 54 (16 * j + i) - x15.toInt64)) := fr_J2 (fr_J2 (fr_J2 (fr_J2 hf (by unfold sgH; omega)) (by unfold sgH; omega)) (by unfold sgH; omega)) (by unfold sgH; omega)
          exact w_rdJ ml54 rfl (by omega) rfl (w_wrJ ml54 rfl (by omega) (w_rdJ ml54 rfl (by omega) rfl (w_wrJ ml54 rfl (by omega) (w_rdJ ml54 rfl (by omega) rfl (w_wrJ ml54 rfl (by omega) (w_rdJ ml54 rfl (by omega) rfl (w_wrJ ml54 rfl (by omega) (w_if (fun _ => w_if (fun _ => c9 _ _ _ _ _ _ _ _ _ _ _ _ _ hfJ hw) (fun _ => c9 _ _ _ _ _ _ _ _ _ _ _ _ _ hfJ hw)) (fun _ => c9 _ _ _ _ _ _ _ _ _ _ _ _ _ hfJ hw)))))))))
        have c7 : ∀ (x14 x15 : Int32) (f : Nat), f < 80 → Tt (fun K t => q_X13_signatureOf K t 7 (nI v0) (nI p) (nI k) x5 (nI o) x7 (nI u) (nI (mtf A u)) (nI fa) (nI fe) (nI fw) (nI fb) x14 x15 0 0 n (nI f) 0 y) Q := by
          intro x14 x15 f hf80
          obtain ⟨i, hi, ei⟩ := hw f hf80
          refine u_X13_signatureOf_7 ?_; unfold qm_X13_signatureOf_7
          exact w_rdI ml53 rfl hf80 ei (w_if (fun _ => c8 _ _ i fw hi hw0) (fun _ => c8 _ _ i fb hi hb))
        have c6 : ∀ (x14 t0 : Int32), Tt (fun K t => q_X13_signatureOf K t 6 (nI v0) (nI p) (nI k) x5 (nI o) x7 (nI u) (nI (mtf A u)) (nI fa) (nI fe) (nI fw) (nI fb) x14 0 0 0 n t0 0 y) Q := by
          intro x14 t0
          refine u_X13_signatureOf_6 ?_; unfold qm_X13_signatureOf_6
          exact w_if (fun _ => c7 _ _ fe he) (fun _ => c7 _ _ fa ha)
        have c5 : ∀ (t0 : Int32), Tt (fun K t => q_X13_signatureOf K t 5 (nI v0) (nI p) (nI k) x5 (nI o) x7 (nI u) (nI (mtf A u)) (nI fa) (nI fe) (nI fw) (nI fb) 0 0 0 0 n t0 0 y) Q := by
          intro t0
          refine u_X13_signatureOf_5 ?_; unfold qm_X13_signatureOf_5
          exact w_if (fun _ => c6 _ _) (fun _ => c6 _ _)
        refine u_X13_signatureOf_4 ?_; unfold qm_X13_signatureOf_4
        rw [show (2 : Int32) * nI u = nI (2 * u) from rn_mul2, show nI (2 * u) + 1 = nI (2 * u + 1) from nI_1 _]
        exact w_rdI (pl7 hn) rfl (by omega) (lk_m hd hO.1 hu) (w_rdI (pl14 hn) rfl (by omega) ea (w_rdI (pl14 hn) rfl (by omega) ee (w_rdI (pl10 hn) rfl (by omega) (lk_p hO.1 hu) (w_rdI (i := 2 * rn_pv A u) (pl14 hn) rn_mul2 (by omega) ew (w_rdI (pl10 hn) rfl (by omega) (lk_p hO.1 hmu) (w_rdI (i := 2 * rn_pv A (mtf A u)) (pl14 hn) rn_mul2 (by omega) eb (w_rdI ml52 rfl ha rfl (w_if (fun _ => c5 _) (fun _ => c5 _)))))))))
      have c3 : ∀ (t0 : Int32), Tt (fun K i => q_X13_signatureOf K i 3 (nI v0) (nI p) (nI k) x5 (nI o) 0 0 0 0 0 0 0 0 0 0 0 n t0 0 y) Q := by
        intro t0
        refine u_X13_signatureOf_3 ?_; unfold qm_X13_signatureOf_3
        exact w_if (fun _ => w_rdI (pl7 hn) rfl (by omega) (lk_m hd hO.1 hol) (c4 _ _ hml)) (fun _ => c4 _ _ hol)
      refine u_X13_signatureOf_2 ?_; unfold qm_X13_signatureOf_2
      exact w_rdF hO.1.V (w_leF (by omega) hol (w_rdI (pl5 hn) rfl (by omega) (lk_cu hO.1 hol).2 (w_if (fun _ => w_rdI (pl8 hn) rfl (by omega) (lk_c hO.1 hol) (w_rdI (pl12 hn) rfl (by omega) rfl (w_if (fun _ => w_rdI (pl4 hn) rfl (by omega) (lk_cu hO.1 hol).1 (w_rdI (pl6 hn) rfl (by omega) rfl (w_if (fun _ => c3 _) (fun _ => c3 _)))) (fun _ => c10 _ y hf hw)))) (fun _ => c10 _ y hf hw))))
  have c1 : ∀ (d i : Nat) (y : ow_MS), i + d = 256 → fr sgH z y → (∀ f, f < 80 → inR y 53 f 16) → Tt (fun K t => q_X13_signatureOf K t 1 (nI v0) (nI p) (nI k) (nI i) 0 0 0 0 0 0 0 0 0 0 0 0 n 0 0 y) Q := by
    intro d
    induction d with
    | zero =>
      intro i y hi hf hw
      refine u_X13_signatureOf_1 ?_; unfold qm_X13_signatureOf_1
      exact w_leT (a := 256) (by omega) (by omega) (c2 A.flatten.length 0 0 y (by omega) hf hw)
    | succ d ih =>
      intro i y hi hf hw
      refine u_X13_signatureOf_1 ?_; unfold qm_X13_signatureOf_1
      rw [nI_1]
      exact w_leF (a := 256) (by omega) (by omega) (w_wrJ ml54 rfl (by omega) (ih (i + 1) _ (by omega) (fr_J2 hf (by unfold sgH; omega)) hw))
  exact c1 256 0 z1 (by omega) hf1 w1
/-- row 53 is scratch that keeps its bounds -/
def X53a (X : (Nat → Nat → Int32) → Prop) : Prop := ∀ W, X W → ∀ f, f < 80 → ∃ i, i < 16 ∧ W 53 f = nI i
def X53b (X : (Nat → Nat → Int32) → Prop) : Prop := ∀ W W' : Nat → Nat → Int32, X W → (∀ g, g ≠ 53 → W' g = W g) → (∀ f, f < 80 → ∃ i, i < 16 ∧ W' 53 f = nI i) → X W'
theorem gI_53 {P : Nat → Prop} {z z1 : ow_MS} (hX : X53b X) (hf : fr P z z1) (hP : ∀ g, P g → g = 53 ∨ ¬ per g) (hr : ∀ f, f < 80 → inR z1 53 f 16) (h : gI X z) : gI X z1 := by
  obtain ⟨h1, h2, h3, h4, h5, h6, h7⟩ := h
  have no : ∀ g, per g → g ≠ 53 → ¬ P g := fun g hg hn h9 => (hP g h9).elim hn (fun h8 => h8 hg)
  refine ⟨gTape_fr hf (no 11 (by decide) (by decide)) h1, gRows_fr hf (no 12 (by decide) (by decide)) h2, gList_fr hf (no 20 (by decide) (by decide)) (no 21 (by decide) (by decide)) (no 22 (by decide) (by decide)) h3, gSum_fr hf (no 35 (by decide) (by decide)) (no 39 (by decide) (by decide)) (no 36 (by decide) (by decide)) h4, gCash_fr hf (no 43 (by decide) (by decide)) (no 45 (by decide) (by decide)) (no 50 (by decide) (by decide)) (no 65 (by decide) (by decide)) (no 67 (by decide) (by decide)) h5, gBrs_fr hf (no 94 (by decide) (by decide)) (no 95 (by decide) (by decide)) (no 96 (by decide) (by decide)) h6, hX _ _ h7 (fun g hg => ?_) (fun f hf80 => hr f hf80)⟩
  by_cases h9 : g = 53 ∨ 73 ≤ g ∧ g ≤ 76 ∨ 97 ≤ g ∧ g ≤ 105
  · show z1.2.1 (if _ then _ else _) = z.2.1 (if _ then _ else _)
    rw [if_pos h9]
    exact (hf g (no g (by unfold per; omega) hg)).2.1
  · show z1.2.1 (if _ then _ else _) = z.2.1 (if _ then _ else _)
    rw [if_neg h9]
    exact (hf 73 (no 73 (by decide) (by decide))).2.1
theorem e_X13_signature {x1 : Int32} {z : ow_MS} {Q : (Int32 × ow_MS) → Prop} (H : Tt (fun K k => q_X13_signature K k 0 x1 0 0 0 0 0 0 z) Q) : Te (fun K => qe_X13_signature K x1 z) Q := w_te H
theorem u_X13_signature_0 {x1 : Int32} {x2 : Int32} {x3 : Int32} {x4 : Int32} {x5 : Int32} {t0 : Int32} {t1 : Int32} {z : ow_MS} {Q : (Int32 × ow_MS) → Prop} (H : Tt (fun K k => qm_X13_signature_0 K (q_X13_signature K k) x1 x2 x3 x4 x5 t0 t1 z) Q) : Tt (fun K k => q_X13_signature K k 0 x1 x2 x3 x4 x5 t0 t1 z) Q := w_un (fun _ _ => rfl) H
theorem u_X13_signature_1 {x1 : Int32} {x2 : Int32} {x3 : Int32} {x4 : Int32} {x5 : Int32} {t0 : Int32} {t1 : Int32} {z : ow_MS} {Q : (Int32 × ow_MS) → Prop} (H : Tt (fun K k => qm_X13_signature_1 K (q_X13_signature K k) x1 x2 x3 x4 x5 t0 t1 z) Q) : Tt (fun K k => q_X13_signature K k 1 x1 x2 x3 x4 x5 t0 t1 z) Q := w_un (fun _ _ => rfl) H
theorem u_X13_signature_4 {x1 : Int32} {x2 : Int32} {x3 : Int32} {x4 : Int32} {x5 : Int32} {t0 : Int32} {t1 : Int32} {z : ow_MS} {Q : (Int32 × ow_MS) → Prop} (H : Tt (fun K k => qm_X13_signature_4 K (q_X13_signature K k) x1 x2 x3 x4 x5 t0 t1 z) Q) : Tt (fun K k => q_X13_signature K k 4 x1 x2 x3 x4 x5 t0 t1 z) Q := w_un (fun _ _ => rfl) H
theorem u_X13_signature_2 {x1 : Int32} {x2 : Int32} {x3 : Int32} {x4 : Int32} {x5 : Int32} {t0 : Int32} {t1 : Int32} {z : ow_MS} {Q : (Int32 × ow_MS) → Prop} (H : Tt (fun K k => qm_X13_signature_2 K (q_X13_signature K k) x1 x2 x3 x4 x5 t0 t1 z) Q) : Tt (fun K k => q_X13_signature K k 2 x1 x2 x3 x4 x5 t0 t1 z) Q := w_un (fun _ _ => rfl) H
theorem u_X13_signature_3 {x1 : Int32} {x2 : Int32} {x3 : Int32} {x4 : Int32} {x5 : Int32} {t0 : Int32} {t1 : Int32} {z : ow_MS} {Q : (Int32 × ow_MS) → Prop} (H : Tt (fun K k => qm_X13_signature_3 K (q_X13_signature K k) x1 x2 x3 x4 x5 t0 t1 z) Q) : Tt (fun K k => q_X13_signature K k 3 x1 x2 x3 x4 x5 t0 t1 z) Q := w_un (fun _ _ => rfl) H
theorem tp_signature {d : Int32} (hXa : X53a X) (hXb : X53b X) (h : gI X z) : Te (fun K => qe_X13_signature K d z) (fun r => gI X r.2) := by
  have h1 := gI_1 (c := 0) h
  refine e_X13_signature ?_
  refine u_X13_signature_0 ?_; unfold qm_X13_signature_0
  refine w_wrF (w_has h1.2.1 (w_ifT rfl (w_fail h1)) (fun e A sg he hx hv hne => w_ifF (by decide) ?_))
  subst hx
  refine w_cs0 (to_open pn1 he hv) (fun z2 ⟨o2, f2⟩ => ?_)
  have g2 : gI X z2 := gI_net pn1 f2 (fun g hg => by omega) h1
  have hl := o2.len
  have hC := o2.2.2.2
  have hd := wkF_ok o2.wk
  obtain ⟨c, hok, hc⟩ := o2.2.2.1
  refine w_cs0 (tn_split pn1 (by omega) (by omega) hd o2.1) (fun z3 ⟨f3, P, hP3⟩ => ?_)
  have o3 : oNet z3 1000 A sg := oNet_fr f3 (fun g hg => by unfold frP at hg; omega) o2
  have g3 : gI X z3 := gI_net pn1 f3 (fun g hg => by unfold frP at hg; omega) g2
  refine w_cs0 (tn_walk2 pn1 (by omega) hd o3.1 o3.2.1) (fun z4 ⟨f4, F, hF4, hw4⟩ => ?_)
  have o4 : oNet z4 1000 A sg := oNet_fr f4 (fun g hg => by unfold frW at hg; omega) o3
  have g4 : gI X z4 := gI_net pn1 f4 (fun g hg => by unfold frW at hg; omega) g3
  have hP4 : rn_pt z4 1000 A P := by
    unfold rn_pt
    rw [(f4 1013 (by unfold frW; omega)).1, (f4 1012 (by unfold frW; omega)).2.1]
    exact hP3
  have hI4 : fcI z4 1000 A sg F P := ⟨o4, hF4, hw4, hP4⟩
  have iF : ∀ {y : ow_MS}, fr sgH z4 y → fcI y 1000 A sg F P := fun hf => fcI_fr pn1 hf (fun g hg => by unfold sgH at hg; omega) hI4
  have gF : ∀ {y : ow_MS}, fr sgH z4 y → (∀ f, f < 80 → inR y 53 f 16) → gI X y := fun hf hw => gI_53 hXb hf (fun g hg => by
    by_cases h9 : g = 53
    · exact Or.inl h9
    · exact Or.inr (by unfold sgH at hg; unfold per; omega)) hw g4
  have c1 : ∀ (d p : Nat) (x2 : Int32) (y : ow_MS), p + d = P → fr sgH z4 y → (∀ f, f < 80 → inR y 53 f 16) → Tt (fun K i => q_X13_signature K i 1 (nI e) x2 (nI p) 0 0 0 0 y) (fun r => gI X r.2) := by
    intro d
    induction d with
    | zero =>
      intro p x2 y hp hf hw
      have hP := (iF hf).2.2.2.2.1
      refine u_X13_signature_1 ?_; unfold qm_X13_signature_1
      exact w_rdF (iF hf).2.2.2.1 (w_leT (by omega) (by omega) (w_some (gF hf hw)))
    | succ d ih =>
      intro p x2 y hp hf hw
      have hIy := iF hf
      have hP := hIy.2.2.2.2.1
      have c4 : ∀ (x4 x5 t0 : Int32) (y : ow_MS), fr sgH z4 y → (∀ f, f < 80 → inR y 53 f 16) → Tt (fun K i => q_X13_signature K i 4 (nI e) x2 (nI p) x4 x5 t0 x2 y) (fun r => gI X r.2) := by
        intro x4 x5 t0 y hf hw
        refine u_X13_signature_4 ?_; unfold qm_X13_signature_4
        rw [nI_1]
        exact ih (p + 1) _ y (by omega) hf hw
      have c2 : ∀ (d : Nat) (x4 : Int32), d ≤ A.flatten.length → (x4 = -1 ∨ ∃ v0, x4 = nI v0 ∧ inP A (y.2.1 1012) p v0) → Tt (fun K i => q_X13_signature K i 2 (nI e) x2 (nI p) x4 (iI ((d : Int) - 1)) 0 0 y) (fun r => gI X r.2) := by
        intro d
        induction d with
        | zero =>
          intro x4 _ h4
          refine u_X13_signature_2 ?_; unfold qm_X13_signature_2
          refine w_ifT (by show iI (-1) < iI 0; rw [iI_lt (by omega) (by omega) (by omega) (by omega)]; omega) (w_if (fun _ => c4 _ _ _ y hf hw) (fun n4 => ?_))
          rcases h4 with h4 | ⟨v0, rfl, hv0⟩
          · exact absurd h4 n4
          · refine w_cs1 (tp_sigOf pn1 hok hc hIy (by omega) hv0 hw) (fun a y1 ⟨f5, w5⟩ => c4 _ _ _ y1 (fr_tr hf f5) w5)
        | succ d ih2 =>
          intro x4 hd9 h4
          have e1 : iI (((d + 1 : Nat) : Int) - 1) = nI d := iI_nI (by omega)
          have e2 : nI d + (-1) = iI ((d : Int) - 1) := by
            rw [nI_iI]
            show iI (d : Int) + iI (-1) = _
            rw [iI_add]
            rfl
          have hdl : d < A.flatten.length := by omega
          have hcc := (rn_c_in A d hdl).1
          rw [e1]
          refine u_X13_signature_2 ?_; unfold qm_X13_signature_2
          refine w_ifF (fun h9 => absurd h9 (nI_pos (by omega))) (w_rdI (pl8 pn1) rfl (by omega) (lk_c hIy.1.1 hdl) (w_rdI (pl12 pn1) rfl (by omega) rfl (w_if (fun h9 => ?_) (fun _ => ?_))))
          · refine u_X13_signature_3 ?_; unfold qm_X13_signature_3
            rw [e2]
            exact ih2 _ (by omega) (Or.inr ⟨d, rfl, hdl, h9⟩)
          · refine u_X13_signature_3 ?_; unfold qm_X13_signature_3
            rw [e2]
            exact ih2 _ (by omega) h4
      refine u_X13_signature_1 ?_; unfold qm_X13_signature_1
      refine w_rdF hIy.2.2.2.1 (w_leF (by omega) (by omega) (w_rdF hIy.1.1.V ?_))
      rw [show nI A.flatten.length - 1 = iI ((A.flatten.length : Nat) - 1) from by rw [nI_iI]; exact iI_sub _ 1]
      exact c2 A.flatten.length (-1) (Nat.le_refl _) (Or.inl rfl)
  exact c1 P 0 0 z4 (by omega) fr_rf (fun f hf => hXa _ g4.2.2.2.2.2.2 f hf)
end SIG2
