/-! signature, the class: the sum over the parts, exactly -/
section XSGW
variable {vl : Nat → Nat} {y : ow_MS} {T : ow_NT} {n P : Nat} {M : Nat → Int32} {φ ψ : Nat → Nat} {w cf : Nat → Bool}
/-- a plane net has faces, colours and parts as they are wanted -/
theorem fcD_of {c : Nat} {S : ow_NP} {G : Nat → Int32} (hv : vn c S) (hc : c ≤ 12) (hw : gaO c S w) (hp : (np_faces c S G).2 = c + 2 * (np_parts c S.1).2) : ∃ ψ cf, fcD9 c S G w (np_faces c S G).2 (np_parts c S.1).2 (np_parts c S.1).1 (fun s => ((np_faces c S G).1 s).toNatClampNeg) ψ cf := by
  obtain ⟨hI, hval⟩ := fp_of hv hc hw hp
  obtain ⟨ψ, e1, e2⟩ := fp_psi hI
  obtain ⟨h1, h2, h3, h4, h5, h6, h7, h8, h9, h10⟩ := hI
  obtain ⟨q1, q2, q3, q4⟩ := parts_I hv hc
  have m1 : mrI (kS w) (4 * c) (4 * c) (np_faces c S G) := mr_out_k (fun a ha => ⟨fc_on_vn hv G ha, ga_on hw hv ha⟩) (fun _ _ => rfl) (by omega) (4 * c) (Nat.le_refl _)
  have mC : mrC (fc_on S G) (4 * c) (np_faces c S G).1 := mr_out_C (fun a ha => fc_on_vn hv G ha) (fun a b ha hb => fc_on_inj hv ha hb) (by omega) (fun k _ => rfl) (4 * c) (Nat.le_refl _)
  have same : ∀ s t, s < 4 * c → t < 4 * c → ((np_faces c S G).1 s).toNatClampNeg = ((np_faces c S G).1 t).toNatClampNeg → kS w s = kS w t := fun s t hs ht e => m1.2.2.2.2 s t hs ht (m1.2.2.1 s hs) (by rw [hval s hs, hval t ht, e])
  have hex : ∀ f, ∃ b : Bool, ∀ s, s < 4 * c → ((np_faces c S G).1 s).toNatClampNeg = f → kS w s = b := fun f => by
    by_cases hs : ∃ s, s < 4 * c ∧ ((np_faces c S G).1 s).toNatClampNeg = f
    · obtain ⟨s, s1, s2⟩ := hs
      exact ⟨kS w s, fun t t1 t2 => same t s t1 s1 (by rw [t2, s2])⟩
    · exact ⟨true, fun s s1 s2 => absurd ⟨s, s1, s2⟩ hs⟩
  refine ⟨ψ, fun f => Classical.choose (hex f), hv, hw, h1, fun s hs => ?_, fun s hs => Classical.choose_spec (hex _) s hs rfl, e1, e2, h4, h7, q1, fun u v hu hvl e => (parts_iff hv hc hu hvl).mp e, h3, h8, h9, h10⟩
  show ((np_faces c S G).1 (fc_on S G s)).toNatClampNeg = _
  rw [mC s hs]
theorem te_sgLoop (hy : cAt y 4000 T) (h : fcD9 T.1 T.2.2.1 T.2.2.2 w n P M φ ψ cf) (hG : ∀ x, x < T.1 → T.2.2.2 x = 1 ∨ T.2.2.2 x = -1) (h11 : y.1 4011 = nI P) (h2 : y.1 6002 = nI n) (hM : ∀ v, v < 2 * T.1 → y.2.1 4006 v = M v) (hφ : ∀ s, s < 4 * T.1 → y.2.1 6001 s = nI (φ s)) : ∀ (d p : Nat) (x : Int32) (z : ow_MS), p + d = P → fr sgL y z → x = iI (zS9 (fun p => vlG9 T.1 T.2.2.1 T.2.2.2 w n M φ ψ cf p) p) → (∀ s q, s < 4 * T.1 → p ≤ q → q < P → M (s / 2) = nI q → z.2.1 6003 (φ s) = -1) → Tt (fun K k => c_X4_signatureOf vl K k 1 x (nI p) 6000 4000 z) (fun r => r.1 = iI (zS9 (fun p => vlG9 T.1 T.2.2.1 T.2.2.2 w n M φ ψ cf p) P) ∧ fr sgL y r.2) := by
  have hv := h.1
  have hw := h.2.1
  have i1 := h.2.2.1
  have ho := h.2.2.2.1
  have i8 : T.1 ≤ 12 := h.2.2.2.2.2.2.2.2.2.2.2.2.1
  have i9 : n ≤ 48 := h.2.2.2.2.2.2.2.2.2.2.2.2.2.1
  have i10 : P ≤ 24 := h.2.2.2.2.2.2.2.2.2.2.2.2.2.2
  intro d
  induction d with
  | zero =>
    intro p x z hp hz hx _
    have hp : p = P := by omega
    refine u_X4_signatureOf_1 ?_; unfold cm_X4_signatureOf_1
    refine w_rdF ((hz 4011 (by unfold sgL; omega)).1.trans h11) (w_leT (by omega) (by omega) (w_some ⟨?_, hz⟩))
    rw [← hp]
    exact hx
  | succ d ih =>
    intro p x z hp hz hx hcol
    have hpP : p < P := by omega
    have zc : cAt z 4000 T := cAt_fr hz (fun g hg h9 => by unfold cP at hg; unfold sgL at h9; omega) hy
    have z2 : z.1 6002 = nI n := (hz 6002 (by unfold sgL; omega)).1.trans h2
    have zφ : ∀ s, s < 4 * T.1 → z.2.1 6001 s = nI (φ s) ∧ φ s < n := fun s hs => ⟨by rw [(hz 6001 (by unfold sgL; omega)).2.1]; exact hφ s hs, i1 s hs⟩
    have zM : ∀ v, v < 2 * T.1 → z.2.1 4006 v = M v := fun v hv => by rw [(hz 4006 (by unfold sgL; omega)).2.1]; exact hM v hv
    obtain ⟨v, v1, v2⟩ := h.2.2.2.2.2.2.2.2.2.2.2.1 p hpP
    obtain ⟨v0, ⟨a1, a2⟩, a3⟩ := lst_ex (p := fun v => v < 2 * T.1 ∧ M v = nI p) v ⟨v1, v2⟩
    -- the colours that the faces get
    have kL : ∀ v, v < 2 * T.1 → cf (φ (2 * v)) = w v ∧ cf (φ (2 * v + 1)) = !w v := fun v hv1 => by
      have k1 := h.2.2.2.2.1 (2 * v) (by omega)
      have k2 := h.2.2.2.2.1 (2 * v + 1) (by omega)
      unfold kS at k1 k2
      rw [if_pos (by omega), show 2 * v / 2 = v by omega] at k1
      rw [if_neg (by omega), show (2 * v + 1) / 2 = v by omega] at k2
      exact ⟨k1.symm, k2.symm⟩
    have fc2 : ∀ f, (fun f => if cf f = w v0 then (0 : Int32) else 1) f = 0 ∨ (fun f => if cf f = w v0 then (0 : Int32) else 1) f = 1 := fun f => by
      dsimp only
      split
      · exact Or.inl rfl
      · exact Or.inr rfl
    refine u_X4_signatureOf_1 ?_; unfold cm_X4_signatureOf_1
    refine w_rdF ((hz 4011 (by unfold sgL; omega)).1.trans h11) (w_leF (by omega) (by omega) (w_cs0 (te_paint (x2 := nI p) (q := qP9 M p) (S := T.2.2.1) (G := T.2.2.2) (fc := fun f => if cf f = w v0 then 0 else 1) (v0 := v0) hv (ptQ_of h p) zc.1 i8 i9 zφ ho (fun v hv1 => ?_) fc2 (fun v hv1 hvq => ?_) a1 (decide_eq_true a2) (fun u hu => ?_) ?_ (fun s hs hsq => hcol s p hs (Nat.le_refl _) hpP (of_decide_eq_true hsq))) ?_))
    · rw [zM v hv1]
      exact ⟨fun h9 => decide_eq_true h9, fun h9 => of_decide_eq_true h9⟩
    · rw [(kL v hv1).1, (kL v hv1).2]
      by_cases h9 : w v = w v0
      · rw [if_pos h9, if_neg (by rw [h9]; cases w v0 <;> decide)]
        rfl
      · rw [if_neg h9, if_pos (by rw [bnot h9, Bool.not_not])]
        rfl
    · exact decide_eq_false (fun h9 => a3 u hu ⟨by omega, h9⟩)
    · rw [(kL v0 a1).1, if_pos rfl]
    rintro z5 ⟨f5, o5, g5⟩
    have f5 : fr (fun g => g = 6003) z z5 := f5
    have g5 : ∀ s, s < 4 * T.1 → qP9 M p (s / 2) = true → z5.2.1 6003 (φ s) = if cf (φ s) = w v0 then 0 else 1 := g5
    have y5 : fr sgL y z5 := fr_tr hz (fr_mono (fun g hg => by unfold sgL; omega) f5)
    have c5 : cAt z5 4000 T := cAt_fr y5 (fun g hg h9 => by unfold cP at hg; unfold sgL at h9; omega) hy
    have t5 : z5.1 6002 = nI n := (y5 6002 (by unfold sgL; omega)).1.trans h2
    have φ5 : ∀ s, s < 4 * T.1 → z5.2.1 6001 s = nI (φ s) ∧ φ s < n := fun s hs => ⟨by rw [(y5 6001 (by unfold sgL; omega)).2.1]; exact hφ s hs, i1 s hs⟩
    have M5 : ∀ v, v < 2 * T.1 → z5.2.1 4006 v = M v := fun v hv => by rw [(y5 4006 (by unfold sgL; omega)).2.1]; exact hM v hv
    have co0 : coI9 z5 T.1 φ cf M p 0 (w v0) := fun s hs hsM => by
      rw [g5 s hs (decide_eq_true hsM)]
      by_cases h9 : cf (φ s) = w v0
      · rw [if_pos h9]
        exact ⟨fun _ => h9, fun _ => rfl⟩
      · rw [if_neg h9]
        exact ⟨fun h8 => absurd h8 (by decide), fun h8 => absurd h8 h9⟩
    have co1 : coI9 z5 T.1 φ cf M p 1 (!w v0) := fun s hs hsM => by
      rw [g5 s hs (decide_eq_true hsM)]
      by_cases h9 : cf (φ s) = w v0
      · rw [if_pos h9]
        exact ⟨fun h8 => absurd h8 (by decide), fun h8 => absurd (h9.symm.trans h8) (by cases w v0 <;> decide)⟩
      · rw [if_neg h9]
        exact ⟨fun _ => bnot h9, fun _ => rfl⟩
    have n0 : cntR z5 T.1 n φ (nI p) 0 = kF9 ψ cf n p (w v0) := nF_cg n (cnt_kF h hpP M5 co0)
    have n1 : cntR z5 T.1 n φ (nI p) 1 = kF9 ψ cf n p (!w v0) := nF_cg n (cnt_kF h hpP M5 co1)
    have eu := eul_p h hpP (w v0)
    have cl := nF_le (fun x => qP9 M p (2 * x)) T.1
    refine w_cs1 (tc_rarer c5.1 i8 t5 i9 φ5) ?_
    rintro x3 z7 ⟨r1, f7⟩
    have f7 : fr (fun g => g = 6004) z5 z7 := f7
    have y7 : fr sgL y z7 := fr_tr y5 (fr_mono (fun g hg => by unfold sgL; omega) f7)
    have c7 : cAt z7 4000 T := cAt_fr y7 (fun g hg h9 => by unfold cP at hg; unfold sgL at h9; omega) hy
    have φ7 : ∀ s, s < 4 * T.1 → z7.2.1 6001 s = nI (φ s) ∧ φ s < n := fun s hs => ⟨by rw [(y7 6001 (by unfold sgL; omega)).2.1]; exact hφ s hs, i1 s hs⟩
    have M7 : ∀ v, v < 2 * T.1 → z7.2.1 4006 v = M v := fun v hv => by rw [(y7 4006 (by unfold sgL; omega)).2.1]; exact hM v hv
    have co7 : ∀ {x : Int32} {κ : Bool}, coI9 z5 T.1 φ cf M p x κ → coI9 z7 T.1 φ cf M p x κ := fun hco s hs hsM => by
      rw [(f7 6003 (by omega)).2.1]
      exact hco s hs hsM
    have tl : ∀ κ, coI9 z7 T.1 φ cf M p x3 κ → kF9 ψ cf n p κ ≤ 9 → Tt (fun K k => cs1 (ce_X4_signatureOfPart vl K 6000 4000 (nI p) x3 z7) fun v10 z9 => c_X4_signatureOf vl K k 1 (x + v10) (nI p + 1) 6000 4000 z9) (fun r => r.1 = iI (zS9 (fun p => vlG9 T.1 T.2.2.1 T.2.2.2 w n M φ ψ cf p) P) ∧ fr sgL y r.2) := by
      intro κ hco hk
      refine w_cs1 (te_sgPart c7 h hpP hG ((y7 6002 (by unfold sgL; omega)).1.trans h2) φ7 M7 hco hk) ?_
      rintro x4 z9 ⟨a4, f9⟩
      have a4 : x4 = _ := a4
      have f9 : fr spP z7 z9 := f9
      have sp : ∀ g, spP g → sgL g ∧ g ≠ 6003 := fun g hg => by
        unfold spP fcP at hg
        unfold sgL
        omega
      rw [nI_1]
      refine ih (p + 1) _ z9 (by omega) (fr_tr y7 (fr_mono (fun g hg => (sp g hg).1) f9)) ?_ (fun s q hs hq hqP hsq => ?_)
      · rw [hx, a4, iI_add]
        rfl
      · rw [(f9 6003 (fun h9 => (sp _ h9).2 rfl)).2.1, (f7 6003 (by omega)).2.1, o5 (φ s) (fun t ht h9 h8 => ?_)]
        · exact hcol s q hs (by omega) hqP hsq
        · have e1 := h.2.2.2.2.2.2.1 t ht
          rw [h8, ← h.2.2.2.2.2.2.1 s hs, hsq, of_decide_eq_true h9] at e1
          have := nI_inj9 (by omega) (by omega) e1
          omega
    dsimp only at r1
    rw [n0, n1] at r1
    rcases r1 with ⟨e, hh⟩ | ⟨e, hh⟩
    · have e : x3 = 0 := e
      exact tl (w v0) (by rw [e]; exact co7 co0) (by omega)
    · have e : x3 = 1 := e
      exact tl (!w v0) (by rw [e]; exact co7 co1) (by omega)
theorem te_sgOf {c ci : Nat} {S : ow_NP} {G : Nat → Int32} (hy : cAt y 4000 (c, ci, S, G)) (hb : ow_b24 S) (hv : vn c S) (hc : c ≤ 12) (hw : gaO c S w) (hG : ∀ x, x < c → G x = 1 ∨ G x = -1) (hp : nt_plane (c, ci, S, G) = true) : Te (fun K => ce_X4_signatureOf vl K 6000 4000 y) (fun r => (∃ n P M φ ψ cf, fcD9 c S G w n P M φ ψ cf ∧ r.1 = iI (zS9 (fun p => vlG9 c S G w n M φ ψ cf p) P)) ∧ fr sgP2 y r.2) := by
  have hp' : (np_faces c S G).2 = c + 2 * (np_parts c S.1).2 := of_decide_eq_true hp
  obtain ⟨hI, hval⟩ := fp_of hv hc hw hp'
  obtain ⟨ψ, cf, hD⟩ := fcD_of hv hc hw hp'
  have hN : ∀ k, k < 2 * c → S.1 k < 2 * c := fun k hk => (hv k hk).1
  refine e_X4_signatureOf ?_
  refine u_X4_signatureOf_0 ?_; unfold cm_X4_signatureOf_0
  refine w_cs0 (tc_markParts nH4 hy hN hc) ?_
  rintro z1 ⟨m1, m2, m3⟩
  have q := np_parts_of (N := S.1) (c := c) hN hc (y.2.1 (4000 + 6))
  have c1 : cAt z1 4000 (c, ci, S, G) := cAt_fr m3 (fun g hg h9 => by unfold cP at hg; unfold cQ at h9; omega) hy
  refine w_cs0 (tc_faces nH4 (Or.inl rfl) (Or.inl (by omega)) c1 hb hv hc) ?_
  rintro z2 ⟨k1, k2, k3⟩
  have q2 := mr_out_rl (fun a ha => fc_on_vn hv G ha) (rl_fill (4 * c) (z1.2.1 (6000 + 1)) (-1)) (4 * c) (Nat.le_refl _)
  dsimp only at m1 m2 k1 k2
  rw [q2.2] at k2
  rw [q.2] at m2
  have hn48 := hI.2.2.2.2.2.2.2.2.1
  have k2' : z2.1 6002 = nI (np_faces c S G).2 := k2
  refine w_rdF k2' (w_cs0 (tc_fill (a := 0) (b := (np_faces c S G).2) cg_6003 (by omega) hn48 (by omega)) ?_)
  rintro z4 ⟨f4, f5⟩
  have c4 : cAt z4 4000 (c, ci, S, G) := cAt_fr f5 (fun g hg h9 => by unfold cP at hg; omega) (cAt_fr k3 (fun g hg h9 => by unfold cP at hg; unfold cF at h9; omega) c1)
  refine w_mono (te_sgLoop (T := (c, ci, S, G)) c4 hD hG ?_ ?_ ?_ ?_ (np_parts c S.1).2 0 0 z4 (by omega) fr_rf rfl ?_) ?_
  · rw [(f5 4011 (by omega)).1, (k3 4011 (by unfold cF; omega)).1]
    exact m2
  · rw [(f5 6002 (by omega)).1]
    exact k2'
  · intro v hv1
    rw [(f5 4006 (by omega)).2.1, (k3 4006 (by unfold cF; omega)).2.1]
    exact (m1 v).trans (q.1 v hv1)
  · intro s hs
    rw [(f5 6001 (by omega)).2.1]
    exact ((k1 s).trans (q2.1 s hs)).trans (hval s hs)
  · intro s r hs _ _ _
    have := hI.1 s hs
    rw [f4, if_pos ⟨Nat.zero_le _, this⟩]
  · intro r hr
    exact ⟨⟨_, _, _, _, _, _, hD, hr.1⟩, fr_tr (fr_tr (fr_tr (fr_mono (fun g hg => Or.inl hg) m3) (fr_mono (fun g hg => Or.inr (by unfold cF at hg; omega)) k3)) (fr_mono (fun g hg => Or.inr (by omega)) f5)) (fr_mono (fun g hg => Or.inr (by unfold sgL at hg; omega)) hr.2)⟩
end XSGW
