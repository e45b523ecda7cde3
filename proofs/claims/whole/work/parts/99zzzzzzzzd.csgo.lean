/-! the class: signature -/
theorem lst_ex {p : Nat → Prop} : ∀ n, p n → ∃ m, p m ∧ ∀ u, u < m → ¬ p u := by
  intro n
  induction n using Nat.strongRecOn with
  | ind n ih =>
    intro h
    by_cases hx : ∃ u, u < n ∧ p u
    · obtain ⟨u, u1, u2⟩ := hx
      exact ih u u1 u2
    · exact ⟨n, h, fun u hu h9 => hx ⟨u, hu, h9⟩⟩
def sgL (g : Nat) : Prop := 6003 ≤ g ∧ g ≤ 6008
/-- what the walk over the parts asks of faces and parts -/
def fpI (c n P : Nat) (M : Nat → Int32) (φ : Nat → Nat) : Prop := (∀ s, s < 4 * c → φ s < n) ∧ (∀ v, v < 2 * c → ∃ r, r < P ∧ M v = nI r) ∧ (∀ r, r < P → ∃ v, v < 2 * c ∧ M v = nI r) ∧ (∀ f, f < n → ∃ s, s < 4 * c ∧ φ s = f) ∧ (∀ s t, s < 4 * c → t < 4 * c → φ s = φ t → M (s / 2) = M (t / 2)) ∧ (∀ v, v < 2 * c → φ (2 * v) ≠ φ (2 * v + 1)) ∧ n = c + 2 * P ∧ c ≤ 12 ∧ n ≤ 48 ∧ P ≤ 24
theorem fp_psi {c n P : Nat} {M : Nat → Int32} {φ : Nat → Nat} (h : fpI c n P M φ) : ∃ ψ : Nat → Nat, (∀ f, f < n → ψ f < P) ∧ ∀ s, s < 4 * c → M (s / 2) = nI (ψ (φ s)) := by
  obtain ⟨h1, h2, h3, h4, h5, h6, h7, h8, h9, h10⟩ := h
  have hex : ∀ f, ∃ q, f < n → q < P ∧ ∀ s, s < 4 * c → φ s = f → M (s / 2) = nI q := by
    intro f
    by_cases hf : f < n
    · obtain ⟨s, s1, s2⟩ := h4 f hf
      obtain ⟨r, r1, r2⟩ := h2 (s / 2) (by omega)
      exact ⟨r, fun _ => ⟨r1, fun t t1 t2 => by rw [← r2]; exact h5 t s t1 s1 (by rw [t2, s2])⟩⟩
    · exact ⟨0, fun h9 => absurd h9 hf⟩
  exact ⟨fun f => Classical.choose (hex f), fun f hf => (Classical.choose_spec (hex f) hf).1, fun s hs => (Classical.choose_spec (hex (φ s)) (h1 s hs)).2 s hs rfl⟩
theorem fp_bound {c n P p : Nat} {M : Nat → Int32} {φ : Nat → Nat} (h : fpI c n P M φ) (hp : p < P) {z : ow_MS} (hM : ∀ v, v < 2 * c → z.2.1 4006 v = M v) : cntR z c n φ (nI p) 0 + cntR z c n φ (nI p) 1 ≤ c + 2 := by
  obtain ⟨ψ, e1, e2⟩ := fp_psi h
  obtain ⟨h1, h2, h3, h4, h5, h6, h7, h8, h9, h10⟩ := h
  have two : ∀ q, q < P → 2 ≤ nF (fun f => decide (ψ f = q)) n := by
    intro q hq
    obtain ⟨v, v1, v2⟩ := h3 q hq
    have pa : ∀ s, s < 4 * c → s / 2 = v → ψ (φ s) = q := by
      intro s hs e
      have := e2 s hs
      rw [e, v2] at this
      have hl := e1 (φ s) (h1 s hs)
      exact (nI_inj9 (by omega) (by omega) this).symm
    have n1 := nF_pos (q := fun f => decide (f = φ (2 * v))) (a := φ (2 * v)) (decide_eq_true rfl) n (h1 _ (by omega))
    have n2 := nF_pos (q := fun f => decide (f = φ (2 * v + 1))) (a := φ (2 * v + 1)) (decide_eq_true rfl) n (h1 _ (by omega))
    have := nF_two (q1 := fun f => decide (f = φ (2 * v))) (q2 := fun f => decide (f = φ (2 * v + 1))) (q := fun f => decide (ψ f = q)) (fun k hk => by
      have hk := of_decide_eq_true hk
      rw [hk]
      exact ⟨decide_eq_true (pa _ (by omega) (by omega)), decide_eq_false (h6 v v1)⟩) (fun k hk => by
      have hk := of_decide_eq_true hk
      rw [hk]
      exact decide_eq_true (pa _ (by omega) (by omega))) n
    omega
  have hf := pt_face (c := c) (p := p) e1 two h7 hp
  have seen : ∀ x k, snS φ (cdN z φ (nI p) x) (4 * c) k = true → ψ k = p ∧ z.2.1 6003 k = x := by
    intro x k hk
    obtain ⟨t, t1, t2, t3⟩ := (snS_t _).mp hk
    obtain ⟨u1, u2⟩ := of_decide_eq_true t2
    rw [hM _ (by omega), e2 t t1, t3] at u1
    have hl := e1 (φ t) (h1 t t1)
    rw [t3] at hl u2
    exact ⟨nI_inj9 (by omega) (by omega) u1, u2⟩
  refine Nat.le_trans (nF_two (q := fun f => decide (ψ f = p)) (fun k hk => ?_) (fun k hk => decide_eq_true (seen 1 k hk).1) n) hf
  obtain ⟨a, b⟩ := seen 0 k hk
  refine ⟨decide_eq_true a, ?_⟩
  cases e : snS φ (cdN z φ (nI p) 1) (4 * c) k with
  | false => rfl
  | true =>
    have := (seen 1 k e).2
    rw [b] at this
    exact absurd this (by decide)
section SO
variable {vl : Nat → Nat} {y : ow_MS} {T : ow_NT} {n P : Nat} {M : Nat → Int32} {φ : Nat → Nat}
theorem u_X4_signatureOf_1 {vl : Nat → Nat} {x2 : Int32} {x3 : Int32} {r0 : Nat} {r1 : Nat} {z : ow_MS} {Q : (Int32 × ow_MS) → Prop} (H : Tt (fun K k => cm_X4_signatureOf_1 vl K (c_X4_signatureOf vl K k) x2 x3 r0 r1 z) Q) : Tt (fun K k => c_X4_signatureOf vl K k 1 x2 x3 r0 r1 z) Q := w_un (fun _ _ => rfl) H
theorem tc_sgLoop (hy : cAt y 4000 T) (hv : vn T.1 T.2.2.1) (h11 : y.1 4011 = nI P) (h2 : y.1 6002 = nI n) (hM : ∀ v, v < 2 * T.1 → y.2.1 4006 v = M v) (hφ : ∀ s, s < 4 * T.1 → y.2.1 6001 s = nI (φ s)) (hI : fpI T.1 n P M φ) : ∀ (d p : Nat) (x : Int32) (z : ow_MS), p + d = P → fr sgL y z → (∀ s q, s < 4 * T.1 → p ≤ q → q < P → M (s / 2) = nI q → z.2.1 6003 (φ s) = -1) → Tt (fun K k => c_X4_signatureOf vl K k 1 x (nI p) 6000 4000 z) (fun r => fr sgL y r.2) := by
  have hI0 := hI
  obtain ⟨i1, i2, i3, i4, i5, i6, i7, i8, i9, i10⟩ := hI
  intro d
  induction d with
  | zero =>
    intro p x z hp hz _
    refine u_X4_signatureOf_1 ?_; unfold cm_X4_signatureOf_1
    exact w_rdF ((hz 4011 (by unfold sgL; omega)).1.trans h11) (w_leT (by omega) (by omega) (w_some hz))
  | succ d ih =>
    intro p x z hp hz hcol
    have zc : cAt z 4000 T := cAt_fr hz (fun g hg h9 => by unfold cP at hg; unfold sgL at h9; omega) hy
    have z2 : z.1 6002 = nI n := (hz 6002 (by unfold sgL; omega)).1.trans h2
    have zφ : ∀ s, s < 4 * T.1 → z.2.1 6001 s = nI (φ s) ∧ φ s < n := fun s hs => ⟨by rw [(hz 6001 (by unfold sgL; omega)).2.1]; exact hφ s hs, i1 s hs⟩
    have zM : ∀ v, v < 2 * T.1 → z.2.1 4006 v = M v := fun v hv => by rw [(hz 4006 (by unfold sgL; omega)).2.1]; exact hM v hv
    refine u_X4_signatureOf_1 ?_; unfold cm_X4_signatureOf_1
    refine w_rdF ((hz 4011 (by unfold sgL; omega)).1.trans h11) (w_leF (by omega) (by omega) (w_cs0 (tc_paint (x2 := nI p) zc.1 i8 i9 zφ) ?_))
    rintro z5 ⟨f5, o5, g5⟩
    have y5 : fr sgL y z5 := fr_tr hz (fr_mono (fun g hg => by unfold sgL; omega) f5)
    have c5 : cAt z5 4000 T := cAt_fr y5 (fun g hg h9 => by unfold cP at hg; unfold sgL at h9; omega) hy
    have t5 : z5.1 6002 = nI n := (y5 6002 (by unfold sgL; omega)).1.trans h2
    have φ5 : ∀ s, s < 4 * T.1 → z5.2.1 6001 s = nI (φ s) ∧ φ s < n := fun s hs => ⟨by rw [(y5 6001 (by unfold sgL; omega)).2.1]; exact hφ s hs, i1 s hs⟩
    have M5 : ∀ v, v < 2 * T.1 → z5.2.1 4006 v = M v := fun v hv => by rw [(y5 4006 (by unfold sgL; omega)).2.1]; exact hM v hv
    obtain ⟨v, v1, v2⟩ := i3 p (by omega)
    obtain ⟨v0, ⟨a1, a2⟩, a3⟩ := lst_ex (p := fun v => v < 2 * T.1 ∧ M v = nI p) v ⟨v1, v2⟩
    have hfs : fsV z T.1 (nI p) v0 := ⟨a1, (zM v0 a1).trans a2, fun u hu h9 => a3 u hu ⟨by omega, (zM u (by omega)).symm.trans h9⟩⟩
    obtain ⟨b0, b1⟩ := g5 v0 hfs (i6 v0 a1) (hcol (2 * v0 + 1) p (by omega) (Nat.le_refl _) (by omega) (by rw [show (2 * v0 + 1) / 2 = v0 by omega]; exact a2))
    have pos : ∀ x s, s < 4 * T.1 → s / 2 = v0 → z5.2.1 6003 (φ s) = x → 1 ≤ cntR z5 T.1 n φ (nI p) x := by
      intro x s hs e1 e2
      refine nF_pos (a := φ s) ((snS_t _).mpr ⟨s, hs, decide_eq_true ⟨?_, e2⟩, rfl⟩) n (i1 s hs)
      rw [e1, M5 v0 a1]
      exact a2
    have p0 := pos 0 (2 * v0) (by omega) (by omega) b0
    have p1 := pos 1 (2 * v0 + 1) (by omega) (by omega) b1
    have bd := fp_bound hI0 (show p < P by omega) M5
    refine w_cs1 (tc_rarer c5.1 i8 t5 i9 φ5) ?_
    rintro x3 z7 ⟨r1, f7⟩
    have y7 : fr sgL y z7 := fr_tr y5 (fr_mono (fun g hg => by unfold sgL; omega) f7)
    have c7 : cAt z7 4000 T := cAt_fr y7 (fun g hg h9 => by unfold cP at hg; unfold sgL at h9; omega) hy
    have φ7 : ∀ s, s < 4 * T.1 → z7.2.1 6001 s = nI (φ s) ∧ φ s < n := fun s hs => ⟨by rw [(y7 6001 (by unfold sgL; omega)).2.1]; exact hφ s hs, i1 s hs⟩
    have hR : 1 ≤ cntR z7 T.1 n φ (nI p) x3 ∧ cntR z7 T.1 n φ (nI p) x3 ≤ 9 := by
      rw [cntR_fr f7 (by omega) (by omega)]
      dsimp only at r1
      rcases r1 with ⟨e, h⟩ | ⟨e, h⟩
      · rw [e]
        omega
      · rw [e]
        omega
    refine w_cs1 (tc_sgPart c7 hv i8 ((y7 6002 (by unfold sgL; omega)).1.trans h2) i9 φ7 hR.1 hR.2) ?_
    rintro x4 z9 f9
    have sp : ∀ g, spP g → sgL g ∧ g ≠ 6003 := fun g hg => by
      unfold spP fcP at hg
      unfold sgL
      omega
    rw [nI_1]
    refine ih (p + 1) _ z9 (by omega) (fr_tr y7 (fr_mono (fun g hg => (sp g hg).1) f9)) (fun s q hs hq hqP hsq => ?_)
    rw [(f9 6003 (fun h9 => (sp _ h9).2 rfl)).2.1, (f7 6003 (by omega)).2.1, o5 (φ s) (fun t ht h9 h8 => ?_)]
    · exact hcol s q hs (by omega) hqP hsq
    · rw [zM _ (by omega), i5 t s ht hs h8, hsq] at h9
      have := nI_inj9 (by omega) (by omega) h9
      omega
end SO
