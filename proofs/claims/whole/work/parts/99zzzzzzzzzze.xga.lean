/-! related places: every kept diagram of the class is plane, and its visits are of two kinds that alternate -/
section XGA
variable {vl : Nat → Nat} {y : ow_MS} {St : plT}
theorem rel_pl (hN : gN y) (hC : relC y St) (hS : okS St) {d c : Nat} {A : rn_L} {sg : Nat → Bool} (hd : d < 40) (hs : slC y 1000 d (clC sg A)) (hA : okL A c) (hne : A ≠ []) : plnA A sg := by
  have hl : 0 < (clC sg A).2.length := by
    show 0 < (ucd sg 0 [] A).length
    rw [ucd_len]
    have := List.length_pos_iff.mpr hne
    omega
  have ok := (okL_c (sg := sg) hA).2
  cases e : St d with
  | none =>
    have h9 := (hC d hd).1 e
    have h8 : y.2.1 1002 d = nI (clC sg A).2.length := hs.2.1
    rw [h8] at h9
    have := nI_inj9 (a := (clC sg A).2.length) (b := 0) (by have := ok.2.1; omega) (by omega) h9
    omega
  | some P =>
    obtain ⟨k1, k2, c', k3⟩ := hS d P.1 P.2 hd e
    have eC := slC_uni ok (okL_c k3).2 hs ((hC d hd).2 P.1 P.2 e)
    obtain ⟨q1, q2, q3⟩ := clC_inj hA k3 eC
    intro f T hi hT
    rw [q1] at hi
    exact k2 f T (isoV_sg hi (fun p hp => (q3 p.1 (by
      have := ((k3.1.2 p).mp hp).1
      omega)).symm)) hT
theorem rel_ga (vl : Nat → Nat) (hN : gN y) (hC : relC y St) (hS : okS St) : gaS y := fun d A sg c hd hs hA => by
  by_cases hne : A = []
  · rw [hne]
    exact ⟨fun _ => false, fun L hL => (by cases hL), fun x hx => (by cases hx)⟩
  · obtain ⟨y1, -, g1, g2, T, hT, hT1, hV, hpm, hTp⟩ := xc_ld (vl := vl) hN hd hs hA (rel_pl hN hC hS hd hs hA hne)
    obtain ⟨w, hw⟩ := plane_ga (isoV_vn hV) hV.1.2.2.1 hTp
    exact ⟨_, gaA_of hV hw⟩
end XGA
