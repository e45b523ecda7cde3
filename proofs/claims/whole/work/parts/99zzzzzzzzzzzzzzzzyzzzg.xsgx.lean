/-! signature: the reference's faces number the class's -/
section XSGX
variable {A : rn_L} {sg : Nat → Bool} {T : ow_NT} {n P : Nat} {M : Nat → Int32} {φ ψ : Nat → Nat} {w cf : Nat → Bool}
theorem nF_fil (q : Nat → Bool) : ∀ n, nF q n = ((List.range n).filter q).length := by
  intro n
  induction n with
  | zero => rfl
  | succ n ih =>
    show nF q n + (if q n = true then 1 else 0) = _
    rw [List.range_succ, List.filter_append, List.length_append, ← ih]
    by_cases h : q n = true
    · rw [if_pos h, List.filter_cons_of_pos h]
      rfl
    · rw [if_neg h, List.filter_cons_of_neg h]
      rfl
theorem nF_map {q r : Nat → Bool} {n m : Nat} (g : Nat → Nat) (h1 : ∀ a, a < n → q a = true → g a < m ∧ r (g a) = true) (h2 : ∀ a b, a < n → b < n → q a = true → q b = true → g a = g b → a = b) : nF q n ≤ nF r m := by
  rw [nF_fil, nF_fil]
  have := nodup_le (((List.range n).filter q).map g) ((List.range m).filter r) (nodup_map (List.nodup_range.filter _) (fun x y hx hy e => by
    obtain ⟨x1, x2⟩ := List.mem_filter.mp hx
    obtain ⟨y1, y2⟩ := List.mem_filter.mp hy
    exact h2 x y (List.mem_range.mp x1) (List.mem_range.mp y1) x2 y2 e)) (fun b hb => by
    obtain ⟨a, a1, a2⟩ := List.mem_map.mp hb
    obtain ⟨x1, x2⟩ := List.mem_filter.mp a1
    obtain ⟨u1, u2⟩ := h1 a (List.mem_range.mp x1) x2
    rw [← a2]
    exact List.mem_filter.mpr ⟨List.mem_range.mpr u1, u2⟩)
  rw [List.length_map] at this
  exact this
theorem ps_h (s : Nat) : psS A s / 2 = lbv A idN (s / 2) := by
  unfold psS
  omega
theorem ref_nb (h : fcD9 T.1 T.2.2.1 T.2.2.2 w n P M φ ψ cf) (hV : isoV A sg idN T) (hp1 : pm1 T) {p F : Nat} (hp : p < P) {κ : Bool} {fl : Nat → Nat} {wh qA : Nat → Bool} (hqA : ∀ v, v < A.flatten.length → qA v = qP9 M p (lbv A idN v)) (hF : ∀ s, s < 2 * A.flatten.length → fl s < F) (hfl : ∀ s, s < 2 * A.flatten.length → fl (phi A sg s) = fl s) (hfi : ∀ s t, s < 2 * A.flatten.length → t < 2 * A.flatten.length → fl s = fl t → φ (psS A s) = φ (psS A t)) (hw1 : ∀ s, s < 2 * A.flatten.length → qA (s / 2) = true → (wh (fl s) = true ↔ kS w (psS A s) = κ)) (hw2 : ∀ f, f < F → wh f = true → ∃ s, s < 2 * A.flatten.length ∧ qA (s / 2) = true ∧ kS w (psS A s) = κ ∧ fl s = f) : ∃ R : Nat → Nat, nbG9 T.1 T.2.2.1 T.2.2.2 w (qP9 M p) κ R (kF9 ψ cf n p κ) ∧ nF wh F = kF9 ψ cf n p κ ∧ ∀ s, s < 2 * A.flatten.length → qA (s / 2) = true → kS w (psS A s) = κ → R (lbv A idN (s / 2)) = nF wh (fl s) := by
  have hv := h.1
  have hw := h.2.1
  have hd := wkF_ok (isoS_iff.mp hV.1).1
  obtain ⟨isd, hisd⟩ : ∃ isd : Nat → Nat, ∀ a, a < 4 * T.1 → isd a < 2 * A.flatten.length ∧ psS A (isd a) = a := by
    refine Classical.axiomOfChoice (r := fun a s => a < 4 * T.1 → s < 2 * A.flatten.length ∧ psS A s = a) (fun a => ?_)
    by_cases ha : a < 4 * T.1
    · obtain ⟨s, s1, s2⟩ := ps_sur hV ha
      exact ⟨s, fun _ => ⟨s1, s2⟩⟩
    · exact ⟨0, fun h9 => absurd h9 ha⟩
  have back : ∀ s, s < 2 * A.flatten.length → isd (psS A s) = s := fun s hs => by
    obtain ⟨a1, a2⟩ := hisd _ (ps_lt hV hs)
    exact ps_inj hV a1 hs a2
  have on9 : ∀ a, a < 4 * T.1 → (fun a => fl (isd a)) (fc_on T.2.2.1 T.2.2.2 a) = (fun a => fl (isd a)) a := fun a ha => by
    obtain ⟨a1, a2⟩ := hisd a ha
    have e := ps_on hV hp1 a1
    rw [a2] at e
    have hl := phi_lt (sg := sg) hd a1
    show fl (isd (fc_on T.2.2.1 T.2.2.2 a)) = fl (isd a)
    rw [e, back _ hl, hfl _ a1]
  have qv : ∀ v, v < 2 * T.1 → ∀ κ', qA (isd (ws9 w κ' v) / 2) = qP9 M p v ∧ kS w (psS A (isd (ws9 w κ' v))) = κ' ∧ isd (ws9 w κ' v) < 2 * A.flatten.length := fun v hv1 κ' => by
    obtain ⟨b1, b2, b3⟩ := ws_k (w := w) κ' v
    obtain ⟨a1, a2⟩ := hisd (ws9 w κ' v) (by omega)
    refine ⟨?_, by rw [a2]; exact b1, a1⟩
    rw [hqA _ (by omega), ← ps_h, a2, b2]
  have nb := nb_of (G := T.2.2.2) (φ := fun a => fl (isd a)) (q := qP9 M p) (κ := κ) (ρ := fun f => nF wh f) (k := nF wh F) hv hw on9 (fun v hv1 hq => by
    obtain ⟨c1, c2, c3⟩ := qv v hv1 κ
    have := (hw1 _ c3 (by rw [c1]; exact hq)).mpr c2
    exact nF_lt (hF _ c3) this) (fun j hj => by
    obtain ⟨f, f1, f2, f3⟩ := nF_sur hj
    obtain ⟨s, s1, s2, s3, s4⟩ := hw2 f f1 f2
    have e1 : psS A s = ws9 w κ (lbv A idN (s / 2)) := by
      have := ws_of s3
      rw [ps_h] at this
      exact this
    have hl := lbv_lt (isoS_iff.mp hV.1) (v := s / 2) (by omega)
    refine ⟨lbv A idN (s / 2), hl, ?_, ?_⟩
    · rw [← hqA _ (by omega)]
      exact s2
    · show nF wh (fl (isd (ws9 w κ (lbv A idN (s / 2))))) = j
      rw [← e1, back s s1, s4]
      exact f3)
  obtain ⟨v0, v1, v2⟩ := h.2.2.2.2.2.2.2.2.2.2.2.1 p hp
  have k1 : 1 ≤ nF wh F := by
    obtain ⟨c1, c2, c3⟩ := qv v0 v1 κ
    exact nF_pos ((hw1 _ c3 (by rw [c1]; exact decide_eq_true v2)).mpr c2) F (hF _ c3)
  have le1 := eul_G hv hw (ptQ_of h p) k1 (kF_pos h hp (!κ)) nb (nb_can h hp (!κ))
  have eu := eul_p h hp κ
  -- as many faces
  have le2 : kF9 ψ cf n p κ ≤ nF wh F := by
    obtain ⟨vv, hvv⟩ : ∃ vv : Nat → Nat, ∀ f, f < n → qF9 ψ cf p κ f = true → vv f < 2 * T.1 ∧ qP9 M p (vv f) = true ∧ φ (ws9 w κ (vv f)) = f := by
      refine Classical.axiomOfChoice (r := fun f v => f < n → qF9 ψ cf p κ f = true → v < 2 * T.1 ∧ qP9 M p v = true ∧ φ (ws9 w κ v) = f) (fun f => ?_)
      by_cases hf : f < n ∧ qF9 ψ cf p κ f = true
      · obtain ⟨v, a⟩ := fc_of h hf.1 hf.2
        exact ⟨v, fun _ _ => a⟩
      · exact ⟨0, fun a b => absurd ⟨a, b⟩ hf⟩
    refine nF_map (fun f => fl (isd (ws9 w κ (vv f)))) (fun f hf hq => ?_) (fun f g hf hg qf qg e => ?_)
    · obtain ⟨a1, a2, a3⟩ := hvv f hf hq
      obtain ⟨c1, c2, c3⟩ := qv _ a1 κ
      exact ⟨hF _ c3, (hw1 _ c3 (by rw [c1]; exact a2)).mpr c2⟩
    · obtain ⟨a1, a2, a3⟩ := hvv f hf qf
      obtain ⟨b1, b2, b3⟩ := hvv g hg qg
      obtain ⟨c1, c2, c3⟩ := qv _ a1 κ
      obtain ⟨d1, d2, d3⟩ := qv _ b1 κ
      have e2 := hfi _ _ c3 d3 e
      obtain ⟨u1, u2, u3⟩ := ws_k (w := w) κ (vv f)
      obtain ⟨x1, x2, x3⟩ := ws_k (w := w) κ (vv g)
      rw [(hisd _ (by omega)).2, (hisd _ (by omega)).2, a3, b3] at e2
      exact e2
  have ek : nF wh F = kF9 ψ cf n p κ := by omega
  rw [ek] at nb
  refine ⟨_, nb, ek, fun s hs hsq hsk => ?_⟩
  have e1 : psS A s = ws9 w κ (lbv A idN (s / 2)) := by
    have := ws_of hsk
    rw [ps_h] at this
    exact this
  show nF wh (fl (isd (ws9 w κ (lbv A idN (s / 2))))) = _
  rw [← e1, back s hs]
end XSGX
