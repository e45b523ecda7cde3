/-! the class: signature has an answer -/
def sgP2 (g : Nat) : Prop := cQ 4000 g ∨ 6001 ≤ g ∧ g ≤ 6008
section ST
variable {vl : Nat → Nat} {y : ow_MS} {c : Nat} {S : ow_NP} {G : Nat → Int32} {w : Nat → Bool}
theorem fp_of (hv : vn c S) (hc : c ≤ 12) (hw : gaO c S w) (hp : (np_faces c S G).2 = c + 2 * (np_parts c S.1).2) : fpI c (np_faces c S G).2 (np_parts c S.1).2 (np_parts c S.1).1 (fun s => ((np_faces c S G).1 s).toNatClampNeg) ∧ ∀ s, s < 4 * c → (np_faces c S G).1 s = nI ((np_faces c S G).1 s).toNatClampNeg := by
  obtain ⟨q1, q2, q3, q4⟩ := parts_I hv hc
  have m1 : mrI (kS w) (4 * c) (4 * c) (np_faces c S G) := mr_out_k (fun a ha => ⟨fc_on_vn hv G ha, ga_on hw hv ha⟩) (fun _ _ => rfl) (by omega) (4 * c) (Nat.le_refl _)
  have hpt : ∀ a, a < 4 * c → (np_parts c S.1).1 (fc_on S G a / 2) = (np_parts c S.1).1 (a / 2) := by
    intro a ha
    have he : fc_end S.1 a < 2 * c ∧ (np_parts c S.1).1 (fc_end S.1 a) = (np_parts c S.1).1 (a / 2) := by
      unfold fc_end
      split
      · exact ⟨(hv _ (by omega)).1, (q1 _ (by omega)).1⟩
      · exact ⟨by omega, rfl⟩
    have hm := mt_lt he.1
    have em := (q1 _ he.1).2
    unfold fc_on
    split
    · rw [show 2 * mt (fc_end S.1 a) / 2 = mt (fc_end S.1 a) by omega, em, he.2]
    · rw [show (2 * S.2 (mt (fc_end S.1 a)) + 1) / 2 = S.2 (mt (fc_end S.1 a)) by omega]
      have h3 := (q1 (S.2 (mt (fc_end S.1 a))) (hv _ hm).2.1).1
      rw [(hv _ hm).2.2.2] at h3
      rw [← h3, em, he.2]
  have m2 : mrI (fun s => (np_parts c S.1).1 (s / 2)) (4 * c) (4 * c) (np_faces c S G) := mr_out_k (fun a ha => ⟨fc_on_vn hv G ha, hpt a ha⟩) (fun _ _ => rfl) (by omega) (4 * c) (Nat.le_refl _)
  obtain ⟨a1, a2, a3, a4, a5⟩ := m1
  obtain ⟨-, -, -, -, b5⟩ := m2
  have val : ∀ s, s < 4 * c → ∃ r, r < (np_faces c S G).2 ∧ (np_faces c S G).1 s = nI r ∧ ((np_faces c S G).1 s).toNatClampNeg = r := by
    intro s hs
    obtain ⟨r, r1, r2⟩ := (a2 s hs).resolve_left (a3 s hs)
    exact ⟨r, r1, r2, by rw [r2, nI_clamp (by omega)]⟩
  have inj : ∀ s t, s < 4 * c → t < 4 * c → ((np_faces c S G).1 s).toNatClampNeg = ((np_faces c S G).1 t).toNatClampNeg → (np_faces c S G).1 s = (np_faces c S G).1 t := by
    intro s t hs ht e
    obtain ⟨r, r1, r2, r3⟩ := val s hs
    obtain ⟨u, u1, u2, u3⟩ := val t ht
    rw [r2, u2, ← r3, ← u3, e]
  refine ⟨⟨fun s hs => ?_, q2, q3, fun f hf => ?_, fun s t hs ht e => ?_, fun v hv1 e => ?_, hp, hc, by omega, by omega⟩, fun s hs => ?_⟩
  · obtain ⟨r, r1, r2, r3⟩ := val s hs
    show ((np_faces c S G).1 s).toNatClampNeg < _
    rw [r3]
    exact r1
  · obtain ⟨k, k1, k2⟩ := a4 f hf
    exact ⟨k, k1, by show ((np_faces c S G).1 k).toNatClampNeg = f; rw [k2, nI_clamp (by omega)]⟩
  · exact b5 s t hs ht (a3 s hs) (inj s t hs ht e)
  · exact kS_lr v (a5 (2 * v) (2 * v + 1) (by omega) (by omega) (a3 _ (by omega)) (inj _ _ (by omega) (by omega) e))
  · obtain ⟨r, r1, r2, r3⟩ := val s hs
    rw [r3]
    exact r2
theorem e_X4_signatureOf {vl : Nat → Nat} {r0 : Nat} {r1 : Nat} {z : ow_MS} {Q : (Int32 × ow_MS) → Prop} (H : Tt (fun K k => c_X4_signatureOf vl K k 0 0 0 r0 r1 z) Q) : Te (fun K => ce_X4_signatureOf vl K r0 r1 z) Q := w_te H
theorem u_X4_signatureOf_0 {vl : Nat → Nat} {x2 : Int32} {x3 : Int32} {r0 : Nat} {r1 : Nat} {z : ow_MS} {Q : (Int32 × ow_MS) → Prop} (H : Tt (fun K k => cm_X4_signatureOf_0 vl K (c_X4_signatureOf vl K k) x2 x3 r0 r1 z) Q) : Tt (fun K k => c_X4_signatureOf vl K k 0 x2 x3 r0 r1 z) Q := w_un (fun _ _ => rfl) H
theorem tc_sgOf {ci : Nat} (hy : cAt y 4000 (c, ci, S, G)) (hb : ow_b24 S) (hv : vn c S) (hc : c ≤ 12) (hw : gaO c S w) (hp : nt_plane (c, ci, S, G) = true) : Te (fun K => ce_X4_signatureOf vl K 6000 4000 y) (fun r => fr sgP2 y r.2) := by
  have hp' : (np_faces c S G).2 = c + 2 * (np_parts c S.1).2 := of_decide_eq_true hp
  obtain ⟨hI, hval⟩ := fp_of hv hc hw hp'
  have hN : ∀ k, k < 2 * c → S.1 k < 2 * c := fun k hk => (hv k hk).1
  refine e_X4_signatureOf ?_
  refine u_X4_signatureOf_0 ?_; unfold cm_X4_signatureOf_0
  refine w_cs0 (tc_markParts nH4 hy hN hc) ?_
  rintro z1 ⟨m1, m2, m3⟩
  have q := np_parts_of (N := S.1) (c := c) hN hc (y.2.1 (4000 + 6))
  have c1 : cAt z1 4000 (c, ci, S, G) := cAt_fr m3 (fun g hg h9 => by unfold cP at hg; unfold cQ at h9; omega) hy
  refine w_cs0 (tc_faces nH4 (Or.inl rfl) (Or.inl (by omega)) c1 hb hv hc) ?_
  rintro z2 ⟨k1, k2, k3⟩
  have q2 := mr_out_rl (fun a ha => fc_on_vn hv G ha) (rl_fill (4 * c) (z1.2.1 (6000 + 1)) (-1)) (4 * c) (Nat.le_refl _)
  dsimp only at m1 m2 k1 k2
  rw [q2.2] at k2
  rw [q.2] at m2
  have hn48 := hI.2.2.2.2.2.2.2.2.1
  have k2' : z2.1 6002 = nI (np_faces c S G).2 := k2
  refine w_rdF k2' (w_cs0 (tc_fill (a := 0) (b := (np_faces c S G).2) cg_6003 (by omega) hn48 (by omega)) ?_)
  rintro z4 ⟨f4, f5⟩
  have e4 : ∀ g, g = 6001 ∨ g = 6002 ∨ g = 4011 ∨ g = 4006 → g ≠ 6003 := fun g hg => by omega
  have c4 : cAt z4 4000 (c, ci, S, G) := cAt_fr f5 (fun g hg h9 => by unfold cP at hg; omega) (cAt_fr k3 (fun g hg h9 => by unfold cP at hg; unfold cF at h9; omega) c1)
  refine w_mono (tc_sgLoop (φ := fun s => ((np_faces c S G).1 s).toNatClampNeg) (M := (np_parts c S.1).1) c4 hv ?_ ?_ ?_ ?_ hI (np_parts c S.1).2 0 0 z4 (by omega) fr_rf ?_) ?_
  · rw [(f5 4011 (by omega)).1, (k3 4011 (by unfold cF; omega)).1]
    exact m2
  · rw [(f5 6002 (by omega)).1]
    exact k2'
  · intro v hv1
    rw [(f5 4006 (by omega)).2.1, (k3 4006 (by unfold cF; omega)).2.1]
    exact (m1 v).trans (q.1 v hv1)
  · intro s hs
    rw [(f5 6001 (by omega)).2.1]
    exact ((k1 s).trans (q2.1 s hs)).trans (hval s hs)
  · intro s r hs _ _ _
    have := hI.1 s hs
    rw [f4, if_pos ⟨Nat.zero_le _, this⟩]
  · intro r hr
    exact fr_tr (fr_tr (fr_tr (fr_mono (fun g hg => Or.inl hg) m3) (fr_mono (fun g hg => Or.inr (by unfold cF at hg; omega)) k3)) (fr_mono (fun g hg => Or.inr (by omega)) f5)) (fr_mono (fun g hg => Or.inr (by unfold sgL at hg; omega)) hr)
/-- every diagram that is kept is plane -/
def plS (y : ow_MS) : Prop := ∀ d A sg c, d < 40 → slC y 1000 d (clC sg A) → okL A c → ∀ T, isoV A sg (fun x => x) T → (∀ x, x < T.1 → T.2.2.2 x ≠ 0) → nt_plane T = true
def sxP (g : Nat) : Prop := 4001 ≤ g ∧ g ≤ 4011 ∨ 6001 ≤ g ∧ g ≤ 6008
theorem e_X11_signature {vl : Nat → Nat} {r0 : Nat} {x1 : Int32} {z : ow_MS} {Q : (Nat × Int32 × ow_MS) → Prop} (H : Tt (fun K _ => cm_X11_signature_0 vl K x1 r0 z) Q) : Te (fun K => ce_X11_signature vl K r0 x1 z) Q := w_te0 H
theorem tc_signature {x : Int32} (hM : gM y) (hg : gaS y) (hpl : plS y) : Te (fun K => ce_X11_signature vl K 0 x y) (fun r => gM r.2.2 ∧ fr sxP y r.2.2 ∧ (r.1 = 0 ∧ isO y x ∨ r.1 = 1 ∧ ∀ d, d < 40 → x = nI d → y.2.1 1002 d = 0)) := by
  refine e_X11_signature ?_; unfold cm_X11_signature_0
  refine w_tc0 (tc_need hM.1.1) ?_ ?_
  · rintro y1 ⟨h1, e0⟩
    have e0 : y1 = y := e0
    rw [e0]
    rcases h1 with ⟨-, ho⟩ | h1
    · obtain ⟨d, A, sg, c, hd, rfl, hs, hA, hne⟩ := id ho
      refine w_cs0 (tc_ld3 nH4 hM.1 hd hs hA) ?_
      rintro y2 ⟨g1, g2, S, G, g3, g4⟩
      obtain ⟨j1, j2, j3, j4⟩ := g4
      have hV : isoV A sg (fun x => x) (c, cirs A, S, G) := isoV_of j2 j3
      obtain ⟨w0, hw0⟩ := hg d A sg c hd hs hA
      obtain ⟨w, hw⟩ := gaT_of hV hw0
      refine w_cs1 (tc_sgOf g3.1 g3.2.2.1.2.2.1 j3 hA.2.2.2.1 hw (hpl d A sg c hd hs hA _ hV (fun x hx => by have h7 : G x = if sg x then -1 else 1 := j4 x hx; show G x ≠ 0; rw [h7]; split <;> decide))) ?_
      rintro v z f3
      have f3 : fr sgP2 y2 z := f3
      have key : ∀ a, a ∈ nHL → 4000 ≤ a ∧ a ≤ 4000 ∨ 4012 ≤ a ∧ (a ≤ 5000 ∨ 6010 ≤ a) := by decide
      refine w_some ⟨⟨⟨dgC_fr f3 (fun g h7 h8 h9 => by unfold sgP2 cQ at h9; omega) g1.1, nsC_fr f3 (fun h' hh' g hg h9 => ?_) g1.2.1, kdC_fr f3 (fun g hg => by unfold sgP2 cQ at hg; omega) g1.2.2⟩, tbs_fr (fr_tr (fr_mono (fun g hg => Or.inl hg) g2) (fr_mono (fun g hg => Or.inr hg) f3)) (fun g (hg : cL 4000 g ∨ sgP2 g) => by unfold cL sgP2 cQ at hg; omega) hM.2⟩, fr_tr (fr_mono (fun g hg => by unfold sxP; unfold cL at hg; omega) g2) (fr_mono (fun g hg => by unfold sxP; unfold sgP2 cQ at hg; omega) f3), Or.inl ⟨rfl, ho⟩⟩
      have := key h' hh'
      unfold cP at hg
      unfold sgP2 cQ at h9
      omega
    · exact absurd (show (0 : Nat) = 1 from h1.1) (by decide)
  · rintro a y1 ha ⟨h1, e0⟩
    have e0 : y1 = y := e0
    rw [e0]
    refine w_some ⟨hM, fr_rf, ?_⟩
    rcases h1 with ⟨h9, -⟩ | h1
    · exact absurd h9 ha
    · exact Or.inr h1
end ST
