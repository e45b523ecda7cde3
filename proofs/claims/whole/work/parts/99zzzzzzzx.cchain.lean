/-! the class: chain -/
section CH2
variable {vl : Nat → Nat} {y : ow_MS} {W C : Nat}
/-- every diagram that is kept has gaps of two kinds that alternate -/
def gaS (y : ow_MS) : Prop := ∀ d A sg c, d < 40 → slC y 1000 d (clC sg A) → okL A c → ∃ w, gaA A w
theorem tc_chain {x x' : Int32} (hv : vI vl W C) (hM : gM y) (hg : gaS y) (htb : tbP y) (hch : chP y) : Te (fun K => ce_X11_chain K 0 x x' vl y) (fun r => gM r.2.2.2 ∧ fr chG y r.2.2.2 ∧ dPhi vl ≤ dPhi r.2.2.1 ∧ ∃ W' C', vI r.2.2.1 W' C') := by
  have st : ∀ (a : Nat) (v : Int32), gM y ∧ fr chG y y ∧ dPhi vl ≤ dPhi vl ∧ ∃ W' C', vI vl W' C' := fun _ _ => ⟨hM, fr_rf, Nat.le_refl _, W, C, hv⟩
  unfold ce_X11_chain
  refine w_te0 ?_
  refine w_tc0 (tc_need hM.1.1) ?_ ?_
  · rintro y1 ⟨h1, e0⟩
    have e0 : y1 = y := e0
    rw [e0]
    rcases h1 with ⟨-, d, A, sg, c, hd, rfl, hs, hA, hne⟩ | h1
    · refine w_if (fun _ => w_some (st 2 0)) (fun hx2 => w_if (fun _ => w_some (st 2 0)) (fun hx9 => ?_))
      obtain ⟨p, hp31, rfl⟩ := nI_of (x := x') (fun h8 => hx2 (by
        rw [Int32.lt_iff_toInt_lt] at h8 ⊢
        exact Int.lt_trans h8 (by decide)))
      have hp2 : 2 ≤ p := by
        rcases Nat.lt_or_ge p 2 with h8 | h8
        · exact absurd (nI_lt (b := 2) h8 (by omega)) hx2
        · exact h8
      have hp9 : p ≤ 997 := by
        rcases Nat.lt_or_ge 997 p with h8 | h8
        · exact absurd (nI_lt (a := 997) h8 hp31) hx9
        · exact h8
      refine w_cs1 (tc_isPrime hp2 hp9) ?_
      rintro v z ⟨e, -⟩
      have e : z = y := e
      rw [e]
      refine w_if (fun _ => w_some (st 2 0)) (fun _ => ?_)
      refine w_cs0 (tc_ld3 nH4 hM.1 hd hs hA) ?_
      rintro y2 ⟨g1, g2, S, G, g3, g4⟩
      obtain ⟨j1, j2, j3, j4⟩ := g4
      have hc12 : c ≤ 12 := hA.2.2.2.1
      have hnv : nv (c, cirs A, S, G) := g3.2.2.1
      refine w_cs0 (tc_markParts nH4 g3.1 (fun k hk => (j3 k hk).1) hc12) ?_
      rintro y3 ⟨-, q2, q3⟩
      have pe := (np_parts_of (N := S.1) (c := c) (fun k hk => (j3 k hk).1) hc12 (y2.2.1 (4000 + 6))).2
      have pl := mp_out_le S.1 (2 * c) (np_fill (y2.2.1 (4000 + 6)) 0 (2 * c) (-1)) (2 * c)
      dsimp only at q2
      generalize (mp_out S.1 (2 * c) (np_fill (y2.2.1 (4000 + 6)) 0 (2 * c) (-1)) (2 * c)).2 = P at q2 pe pl
      have a3 : cAt y3 4000 (c, cirs A, S, G) := cAt_fr q3 (fun g hg h9 => by unfold cP at hg; unfold cQ at h9; omega) g3.1
      have hci : cirs A ≤ 6 := by
        have h9 : np_rg c S + cirs A ≤ 6 := hnv.2.2.2
        omega
      have f3 : fr chG y y3 := fr_tr (fr_mono (fun g hg => Or.inl (by unfold cL at hg; omega)) g2) (fr_mono (fun g hg => Or.inl (by unfold cQ at hg; omega)) q3)
      have n44 : ∃ T, cAt y3 44000 T ∧ ow_b24 T.2.2.1 := by
        obtain ⟨T, t1, t2⟩ := g1.2.1 44000 nH44
        exact ⟨T, cAt_fr q3 (fun g hg h9 => by unfold cP at hg; unfold cQ at h9; omega) t1, t2⟩
      refine w_rdF a3.1 (w_rdF q2 (w_rdF a3.2.1 ?_))
      dsimp only
      rw [nI_add, nI_add]
      refine w_le (a := c + P + cirs A) (b := 9) (by omega) (by omega) (fun h9 => ?_) (fun _ => w_some ⟨gM_ch g1 g2 (fr_mono (fun g hg => Or.inl hg) q3) n44 hM, f3, Nat.le_refl _, W, C, hv⟩)
      have hV : isoV A sg (fun x => x) (c, cirs A, S, G) := isoV_of j2 j3
      obtain ⟨w, hw⟩ := hg d A sg c hd hs hA
      have hT : tyI (c, cirs A, S, G) := by
        refine ⟨hnv, fun k hk => ?_, A, sg, fun x => x, w, max 1 (P + cirs A), hV, hw, hA.2.2.2.2, pLe_of hV ?_, by omega, ?_⟩
        · show G k ≠ 0
          rw [j4 k hk]
          split <;> decide
        · show (np_parts c S.1).2 + cirs A ≤ _
          omega
        · show c + max 1 (P + cirs A) ≤ 9
          rcases Nat.eq_zero_or_pos (P + cirs A) with h0 | h0
          · have : c = 0 := by
              rcases Nat.eq_zero_or_pos c with h7 | h7
              · exact h7
              · obtain ⟨-, u2, -⟩ := parts_I j3 hc12
                obtain ⟨r, r1, -⟩ := u2 0 (by omega)
                omega
            omega
          · omega
      refine w_dc1 (tc_compute hv a3 n44 hT (tbP_fr f3 (by unfold chG cmG cP; omega) htb) (chP_fr f3 (fun g hg => by unfold chG cmG cP at hg; omega) hch) hp2 hp9) ?_
      rintro v v1 z1 ⟨r1, r2, r3, W2, C2, r4⟩
      exact w_some ⟨gM_ch g1 g2 (fr_tr (fr_mono (fun g hg => Or.inl hg) q3) (fr_mono (fun g hg => Or.inr hg) r3)) r2 hM, fr_tr f3 (fr_mono (fun g hg => Or.inr hg) r3), r1, W2, C2, r4⟩
    · exact absurd (show (0 : Nat) = 1 from h1.1) (by decide)
  · rintro a y1 ha ⟨h1, rfl⟩
    exact w_some (st a 0)
end CH2
