/-! related places: every kept diagram of the class is plane, and its visits are of two kinds that alternate -/
section XGA
variable {vl : Nat → Nat} {y : ow_MS} {St : plT}
theorem rel_pl (hN : gN y) (hC : relC y St) (hS : okS St) {d c : Nat} {A : rn_L} {sg : Nat → Bool} (hd : d < 40) (hs : slC y 1000 d (clC sg A)) (hA : okL A c) (hne : A ≠ []) : plnA A sg := by
  have hl : 0 < (clC sg A).2.length := by
    show 0 < (ucd sg 0 [] A).length
    rw [ucd_len]
    have := List.length_pos_iff.mpr hne
    omega
  have ok := (okL_c (sg := sg) hA).2
  cases e : St d with
  | none =>
    have h9 := (hC d hd).1 e
    have h8 : y.2.1 1002 d = nI (clC sg A).2.length := hs.2.1
    rw [h8] at h9
    have := nI_inj9 (a := (clC sg A).2.length) (b := 0) (by have := ok.2.1; omega) (by omega) h9
    omega
  | some P =>
    obtain ⟨k1, k2, c', k3⟩ := hS d P.1 P.2 hd e
    have eC := slC_uni ok (okL_c k3).2 hs ((hC d hd).2 P.1 P.2 e)
    obtain ⟨q1, q2, q3⟩ := clC_inj hA k3 eC
    intro f T hi hT
    rw [q1] at hi
    exact k2 f T (isoV_sg hi (fun p hp => (q3 p.1 (by
      have := ((k3.1.2 p).mp hp).1
      omega)).symm)) hT
theorem rel_ga (vl : Nat → Nat) (hN : gN y) (hC : relC y St) (hS : okS St) : gaS y := fun d A sg c hd hs hA => by
  by_cases hne : A = []
  · rw [hne]
    exact ⟨fun _ => false, fun L hL => (by cases hL), fun x hx => (by cases hx)⟩
  · obtain ⟨y1, -, g1, g2, T, hT, hT1, hV, hpm, hTp⟩ := xc_ld (vl := vl) hN hd hs hA (rel_pl hN hC hS hd hs hA hne)
    obtain ⟨w, hw⟩ := plane_ga (isoV_vn hV) hV.1.2.2.1 hTp
    exact ⟨_, gaA_of hV hw⟩
/-- signs made 1, 0, -1 -/
def sg3 (G : Nat → Int32) (x : Nat) : Int32 := if G x < 0 then -1 else if G x = 0 then 0 else 1
theorem sg3_lt {G : Nat → Int32} {x : Nat} : (sg3 G x < 0 ↔ G x < 0) ∧ (0 < sg3 G x ↔ 0 < G x) := by
  unfold sg3
  by_cases h : G x < 0
  · rw [if_pos h]
    exact ⟨⟨fun _ => h, fun _ => by decide⟩, fun h9 => absurd h9 (by decide), fun h9 => absurd (Int32.lt_trans h h9) (Int32.lt_irrefl)⟩
  · rw [if_neg h]
    by_cases h0 : G x = 0
    · rw [if_pos h0, h0]
      exact ⟨Iff.rfl, Iff.rfl⟩
    · rw [if_neg h0]
      refine ⟨⟨fun h9 => absurd h9 (by decide), fun h9 => absurd h9 h⟩, fun _ => ?_, fun _ => by decide⟩
      have a1 : ¬ (G x).toInt < (0 : Int32).toInt := fun h9 => h (Int32.lt_iff_toInt_lt.mpr h9)
      have a2 : (G x).toInt ≠ (0 : Int32).toInt := fun h9 => h0 (Int32.toInt_inj.mp h9)
      refine Int32.lt_iff_toInt_lt.mpr ?_
      omega
theorem stG_3 {G : Nat → Int32} : stG (sg3 G) = stG G := funext fun v => by
  unfold stG
  rw [decide_eq_decide.mpr (sg3_lt (G := G) (x := v / 2)).2]
theorem rel_plS (hN : gN y) (hC : relC y St) (hS : okS St) : plS y := fun d A sg c hd hs hA T hV hT => by
  have hv := isoV_vn hV
  by_cases hne : A = []
  · have h0 : T.1 = 0 := by
      have := hV.1.2.1
      rw [hne] at this
      have this : 0 = 2 * T.1 := this
      omega
    rw [plane_iff hv hV.1.2.2.1]
    refine ⟨[], fun v hv9 => by omega, fun d => d, [], fun d hd9 => by omega, fun x hx => absurd hx List.not_mem_nil, List.nodup_nil, ?_⟩
    show T.1 + 2 * 0 ≤ 0
    omega
  · have hp := rel_pl hN hC hS hd hs hA hne
    have hV' : isoV A sg (fun x => x) (T.1, T.2.1, T.2.2.1, sg3 T.2.2.2) := ⟨⟨hV.1.1, hV.1.2.1, hV.1.2.2.1, hV.1.2.2.2.1, hV.1.2.2.2.2.1, hV.1.2.2.2.2.2.1, fun p hp9 => sg3_lt.1.trans (hV.1.2.2.2.2.2.2.1 p hp9), hV.1.2.2.2.2.2.2.2⟩, hV.2⟩
    have hpm : pm1 (T.1, T.2.1, T.2.2.1, sg3 T.2.2.2) := fun x hx => by
      have hx0 := hT x hx
      show sg3 T.2.2.2 x = 1 ∨ sg3 T.2.2.2 x = -1
      unfold sg3
      by_cases h : T.2.2.2 x < 0
      · rw [if_pos h]
        exact Or.inr rfl
      · rw [if_neg h, if_neg hx0]
        exact Or.inl rfl
    have h1 := (plane_iff (T := (T.1, T.2.1, T.2.2.1, sg3 T.2.2.2)) hv hV.1.2.2.1).mp (hp _ _ hV' hpm)
    have h1 : pn_pl T.1 T.2.2.1 (stG (sg3 T.2.2.2)) := h1
    rw [stG_3] at h1
    exact (plane_iff hv hV.1.2.2.1).mpr h1
end XGA
