/-! two: letters far apart -/
section XTWF
variable {n g h x y : Nat} {W W' A B U U' : wd9} {L : List (List tk9)}
theorem sg_cg (hU : ∀ p, sgm U p = sgm U' p) : ∀ (B : wd9) (p : tk9), sgm (B ++ U) p = sgm (B ++ U') p
  | [], p => hU p
  | l :: B, p => by
    show sgm (l :: (B ++ U)) p = sgm (l :: (B ++ U')) p
    by_cases h1 : p = (l.2, 1)
    · rw [h1, sgm_1, sgm_1]
    · by_cases h0 : p = (l.2, 0)
      · rw [h0, sgm_0, sgm_0]
      · rw [sgm_o h1 h0, sgm_o h1 h0, sg_cg hU B p]
theorem th_c1 (hf : g + 1 < h ∨ h + 1 < g) : thz h y (g, 2) = (g, 2) ∧ thz h y (g + 1, 2) = (g + 1, 2) := ⟨thz_o (g := h) (x := y) (p := (g, 2)) (mk_ne (by omega)) (mk_ne (by omega)), thz_o (g := h) (x := y) (p := (g + 1, 2)) (mk_ne (by omega)) (mk_ne (by omega))⟩
theorem th_cm (hf : g + 1 < h ∨ h + 1 < g) (q : tk9) : thz g x (thz h y q) = thz h y (thz g x q) := by
  have f1 := th_c1 (y := y) hf
  have f2 := th_c1 (g := h) (h := g) (y := x) (Or.symm hf)
  have v1 : ∀ (a b i : Nat) (z : Nat), i ≠ 2 → thz a b (z, i) = (z, i) := fun a b i z hi => thz_v (p := (z, i)) hi
  by_cases c0 : q = (g, 2)
  · rw [c0, f1.1, thz_1, v1 _ _ _ _ (by decide)]
  · by_cases c1 : q = (g + 1, 2)
    · rw [c1, f1.2, thz_0, v1 _ _ _ _ (by decide)]
    · by_cases c2 : q = (h, 2)
      · rw [c2, f2.1, thz_1, v1 _ _ _ _ (by decide)]
      · by_cases c3 : q = (h + 1, 2)
        · rw [c3, f2.2, thz_0, v1 _ _ _ _ (by decide)]
        · rw [thz_o c2 c3, thz_o c0 c1, thz_o c2 c3]
theorem sg_cm (hf : g + 1 < h ∨ h + 1 < g) (hxy : x ≠ y) (p : tk9) : sgm ((g, x) :: (h, y) :: A) p = sgm ((h, y) :: (g, x) :: A) p := by
  have hyx := Ne.symm hxy
  have f1 := th_c1 (y := y) hf
  have f2 := th_c1 (g := h) (h := g) (y := x) (Or.symm hf)
  have L1 : sgm ((g, x) :: (h, y) :: A) (x, 1) = (g + 1, 2) := sgm_1 (l := (g, x))
  have L0 : sgm ((g, x) :: (h, y) :: A) (x, 0) = (g, 2) := sgm_0 (l := (g, x))
  have R1 : sgm ((h, y) :: (g, x) :: A) (y, 1) = (h + 1, 2) := sgm_1 (l := (h, y))
  have R0 : sgm ((h, y) :: (g, x) :: A) (y, 0) = (h, 2) := sgm_0 (l := (h, y))
  have L3 : sgm ((g, x) :: (h, y) :: A) (y, 1) = (h + 1, 2) := by
    rw [sgm_o (mk_ne hyx) (mk_ne hyx), show sgm ((h, y) :: A) (y, 1) = (h + 1, 2) from sgm_1 (l := (h, y))]
    exact f2.2
  have L2 : sgm ((g, x) :: (h, y) :: A) (y, 0) = (h, 2) := by
    rw [sgm_o (mk_ne hyx) (mk_ne hyx), show sgm ((h, y) :: A) (y, 0) = (h, 2) from sgm_0 (l := (h, y))]
    exact f2.1
  have R3 : sgm ((h, y) :: (g, x) :: A) (x, 1) = (g + 1, 2) := by
    rw [sgm_o (mk_ne hxy) (mk_ne hxy), show sgm ((g, x) :: A) (x, 1) = (g + 1, 2) from sgm_1 (l := (g, x))]
    exact f1.2
  have R2 : sgm ((h, y) :: (g, x) :: A) (x, 0) = (g, 2) := by
    rw [sgm_o (mk_ne hxy) (mk_ne hxy), show sgm ((g, x) :: A) (x, 0) = (g, 2) from sgm_0 (l := (g, x))]
    exact f1.1
  by_cases c0 : p = (x, 1)
  · rw [c0, L1, R3]
  · by_cases c1 : p = (x, 0)
    · rw [c1, L0, R2]
    · by_cases c2 : p = (y, 1)
      · rw [c2, L3, R1]
      · by_cases c3 : p = (y, 0)
        · rw [c3, L2, R0]
        · rw [sgm_o (l := (g, x)) c0 c1, sgm_o (l := (h, y)) c2 c3, sgm_o (l := (h, y)) c2 c3, sgm_o (l := (g, x)) c0 c1]
          exact th_cm hf _
theorem cm_or (hs : ∀ p, sgm W p = sgm W' p) (hn : ∀ z, z ∈ nmz W ↔ z ∈ nmz W') (hL : orz n W L) : orz n W' L := by
  refine ⟨fun c hc => ?_, hL.2.1, fun p => ?_⟩
  · rw [← funext hs]
    exact hL.1 c hc
  · rw [hL.2.2]
    exact ⟨fun h9 => h9.elim Or.inl (fun h8 => Or.inr ⟨h8.1, (hn _).mp h8.2⟩), fun h9 => h9.elim Or.inl (fun h8 => Or.inr ⟨h8.1, (hn _).mpr h8.2⟩)⟩
theorem ok_pm (hp : W.Perm W') (ho : okw n W) : okw n W' := ⟨fun l hl => ho.1 l (hp.mem_iff.mpr hl), (hp.map Prod.snd).nodup_iff.mp ho.2⟩
theorem nm_pm (hp : W.Perm W') (z : Nat) : z ∈ nmz W ↔ z ∈ nmz W' := (hp.map Prod.snd).mem_iff
theorem cm_pm : (B ++ (g, x) :: (h, y) :: A).Perm (B ++ (h, y) :: (g, x) :: A) := List.Perm.append_left B (List.Perm.swap _ _ _)
theorem cm_ne (ho : okw n (B ++ (g, x) :: (h, y) :: A)) : x ≠ y ∧ (x ∉ nmz A ∧ x ∉ nmz B) ∧ y ∉ nmz A ∧ y ∉ nmz B := by
  obtain ⟨h1, h2, h3⟩ := okw_d ho
  obtain ⟨k1, k2, -⟩ := okw_d h3
  exact ⟨fun h9 => h1 (by rw [h9]; exact List.mem_cons_self), ⟨fun h9 => h1 (List.mem_cons_of_mem _ h9), h2⟩, k1, k2⟩
theorem cm_V (hf : g + 1 < h ∨ h + 1 < g) : ∀ (k : Nat) (B A : wd9) (L : List (List tk9)), (B ++ (g, x) :: (h, y) :: A).length = k → okw n (B ++ (g, x) :: (h, y) :: A) → orz n (B ++ (g, x) :: (h, y) :: A) L → (∀ V, V.length < k → okw n V → PhZ n V) → ∀ ov : Nat → Bool, vlz (Gz n (B ++ (g, x) :: (h, y) :: A)) L ov = vlz (Gz n (B ++ (h, y) :: (g, x) :: A)) L ov
  | 0, B, A, L, hk, _, _, _, _ => by
    rw [List.length_append] at hk
    simp at hk
  | k + 1, B, A, L, hk, ho, hL, hP, ov => by
    obtain ⟨hxy, ⟨hxA, hxB⟩, hyA, hyB⟩ := cm_ne ho
    have hyx := Ne.symm hxy
    have cc : ∀ (z : Nat) (l : Nat × Nat) (V : wd9), l.2 ≠ z → dlz z (l :: V) = l :: dlz z V := fun z l V h => dlz_c h
    unfold vlz
    refine goz_cg (S := nmz (B ++ (g, x) :: (h, y) :: A)) (fun z hz o o' hoo => ?_) _ ov ov (fun p hp => fs_nm hL hp) (fun _ _ => rfl)
    show Fz n (dlz z (B ++ (g, x) :: (h, y) :: A)) o = Fz n (dlz z (B ++ (h, y) :: (g, x) :: A)) o'
    obtain ⟨Lz, hLz⟩ := orz_dl ho hL hz
    have hoz := ok_dl (x := z) ho
    rw [Fz_cg hoz hLz (fun t ht => hoo t (nm_dl.mp ht).1)]
    by_cases zx : z = x
    · rw [zx, dlz_a, dlz_a, dlz_x, cc x (h, y) _ hyx, cc x (h, y) _ hyx, dlz_x]
    · by_cases zy : z = y
      · rw [zy, dlz_a, dlz_a, dlz_x, cc y (g, x) _ hxy, cc y (g, x) _ hxy, dlz_x]
      · have e1 : dlz z (B ++ (g, x) :: (h, y) :: A) = dlz z B ++ (g, x) :: (h, y) :: dlz z A := by
          rw [dlz_a, cc z (g, x) _ (Ne.symm zx), cc z (h, y) _ (Ne.symm zy)]
        have e2 : dlz z (B ++ (h, y) :: (g, x) :: A) = dlz z B ++ (h, y) :: (g, x) :: dlz z A := by
          rw [dlz_a, cc z (h, y) _ (Ne.symm zy), cc z (g, x) _ (Ne.symm zx)]
        have hl := len_dl ho hz
        rw [e1] at hLz hoz hl
        have hoz2 : okw n (dlz z B ++ (h, y) :: (g, x) :: dlz z A) := ok_pm cm_pm hoz
        have hLz2 : orz n (dlz z B ++ (h, y) :: (g, x) :: dlz z A) Lz := cm_or (sg_cg (sg_cm hf hxy) _) (nm_pm cm_pm) hLz
        have hl2 : (dlz z B ++ (h, y) :: (g, x) :: dlz z A).length = (dlz z B ++ (g, x) :: (h, y) :: dlz z A).length := by
          rw [List.length_append, List.length_append]
          rfl
        rw [e1, e2, ← hP _ (by omega) hoz Lz o' hLz, ← hP _ (by omega) hoz2 Lz o' hLz2]
        exact cm_V hf k (dlz z B) (dlz z A) Lz (by omega) hoz hLz (fun V hV => hP V (by omega)) o'
theorem cm_P (hf : g + 1 < h ∨ h + 1 < g) (ho : okw n (B ++ (g, x) :: (h, y) :: A)) (hP : ∀ V, V.length < (B ++ (g, x) :: (h, y) :: A).length → okw n V → PhZ n V) (h0 : PhZ n (B ++ (h, y) :: (g, x) :: A)) : PhZ n (B ++ (g, x) :: (h, y) :: A) := fun L ov hL => by
  have hO := orc_o hL
  obtain ⟨hxy, -⟩ := cm_ne ho
  have tr : ∀ L, orz n (B ++ (g, x) :: (h, y) :: A) L → orz n (B ++ (h, y) :: (g, x) :: A) L := fun L h9 => cm_or (sg_cg (sg_cm hf hxy) _) (nm_pm cm_pm) h9
  rw [Fz_e ho hL, cm_V hf _ B A L rfl ho hL hP, cm_V hf _ B A _ rfl ho hO hP, h0 L ov (tr L hL), h0 _ ov (tr _ hO)]
end XTWF
