/-! chain: the class exactly -/
/-- the tables stay -/
def tkC (y y1 : ow_MS) : Prop := y1.1 43019 = y.1 43019 ∧ y1.1 43020 = y.1 43020 ∧ y1.2.1 43018 = y.2.1 43018
theorem tkC_fr {P : Nat → Prop} {y y1 : ow_MS} (hf : fr P y y1) (h1 : ¬ P 43018) (h2 : ¬ P 43019) (h3 : ¬ P 43020) : tkC y y1 := ⟨(hf _ h2).1, (hf _ h3).1, (hf _ h1).2.1⟩
theorem tkC_tr {z z1 z2 : ow_MS} (h : tkC z z1) (h1 : tkC z1 z2) : tkC z z2 := ⟨h1.1.trans h.1, h1.2.1.trans h.2.1, h1.2.2.trans h.2.2⟩
section XCL1
variable {vl : Nat → Nat} {y : ow_MS} {W C : Nat} {St : plT} {x x' : Int32}
theorem okL_bd {A : rn_L} {c : Nat} (hA : okL A c) : bdA A := ⟨hA.1.1, fun p hp => by
  have h1 := (hA.1.2 p).mp hp
  have h2 := hA.2.2.2.1
  omega, by
  have := hA.2.2.2.2
  omega⟩
theorem jnN_pm {A : rn_L} {sg : Nat → Bool} {c : Nat} {S : ow_NP} {G : Nat → Int32} (h : jnN A sg c S G) : pm1 (c, cirs A, S, G) := fun k hk => by
  have := h.2.2.2 k hk
  show G k = 1 ∨ G k = -1
  rw [this]
  split
  · exact Or.inr rfl
  · exact Or.inl rfl
theorem rel_prC (vl : Nat → Nat) (hN : gN y) (hg : gaS y) (hC : relC y St) (hS : okS St) {d : Nat} {A : rn_L} {sg : Nat → Bool} (hd : d < 40) (h : St d = some (A, sg)) : prC A sg := by
  obtain ⟨hne, hpl, c, hA⟩ := hS d A sg hd h
  have hs := (hC d hd).2 A sg h
  obtain ⟨w, hw⟩ := hg d A sg c hd hs hA
  obtain ⟨y2, -, g1, g2, S, G, g3, g4⟩ := tc_ld3 (vl := vl) nH4 hN hd hs hA
  exact ⟨(c, cirs A, S, G), w, g4.2.1, g4.2.2.1, jnN_pm g4, hw, okL_bd hA⟩
theorem xc_chain (hv : vI vl W C) (hM : gM y) (hg : gaS y) (htb : tbP y) (hch : chP y) (hC : relC y St) (hS : okS St) : Te (fun K => ce_X11_chain K 0 x x' vl y) (fun r => (r.1 = 1 ∧ tkC y r.2.2.2 ∧ ∀ d, d < 40 → x = nI d → St d = none) ∨ ∃ d A sg, d < 40 ∧ x = nI d ∧ St d = some (A, sg) ∧ (r.1 = 2 ∧ tkC y r.2.2.2 ∧ (¬ ∃ p, x' = nI p ∧ prT p ∧ p ≤ 997) ∨ ∃ p, x' = nI p ∧ prT p ∧ p ≤ 997 ∧ ∃ c P mm, okF A.flatten c ∧ mk A mm P ∧ (r.1 = 4 ∧ tkC y r.2.2.2 ∧ 9 < c + P ∨ r.1 = 0 ∧ c + P ≤ 9 ∧ clN p sg A c r.2.2.2 r.2.1))) := by
  unfold ce_X11_chain
  refine w_te0 ?_
  refine w_tc0 (xc_need hM.1.1 hC hS) ?_ ?_
  · rintro y1 ⟨h1, e0⟩
    have e0 : y1 = y := e0
    rw [e0]
    rcases h1 with h1 | ⟨-, d, A, sg, c, hd, rfl, hSt, hs, hA, hne, hpl⟩
    · exact absurd (show (0 : Nat) = 1 from h1.1) (by decide)
    · refine w_if (fun h8 => w_some (Or.inr ⟨d, A, sg, hd, rfl, hSt, Or.inl ⟨rfl, ⟨rfl, rfl, rfl⟩, ?_⟩⟩)) (fun hx2 => w_if (fun h8 => w_some (Or.inr ⟨d, A, sg, hd, rfl, hSt, Or.inl ⟨rfl, ⟨rfl, rfl, rfl⟩, ?_⟩⟩)) (fun hx9 => ?_))
      · rintro ⟨p, rfl, hp, h9⟩
        have := (nI_ltI (b := 2) (by omega) (by omega)).mp h8
        have := hp.1
        omega
      · rintro ⟨p, rfl, hp, h9⟩
        have := (nI_ltI (a := 997) (by omega) (by omega)).mp h8
        omega
      obtain ⟨p, hp31, rfl⟩ := nI_of (x := x') (fun h8 => hx2 (by
        rw [Int32.lt_iff_toInt_lt] at h8 ⊢
        exact Int.lt_trans h8 (by decide)))
      have hp2 : 2 ≤ p := by
        rcases Nat.lt_or_ge p 2 with h8 | h8
        · exact absurd (nI_lt (b := 2) h8 (by omega)) hx2
        · exact h8
      have hp9 : p ≤ 997 := by
        rcases Nat.lt_or_ge 997 p with h8 | h8
        · exact absurd (nI_lt (a := 997) h8 hp31) hx9
        · exact h8
      refine w_cs1 (tc_isPrime hp2 hp9) ?_
      rintro v z ⟨e, hpr⟩
      have e : z = y := e
      rw [e]
      have hpr : v = 1 ∧ prT p ∨ v = 0 ∧ ¬ prT p := hpr
      refine w_if (fun h8 => w_some (Or.inr ⟨d, A, sg, hd, rfl, hSt, Or.inl ⟨rfl, ⟨rfl, rfl, rfl⟩, ?_⟩⟩)) (fun h8 => ?_)
      · rcases hpr with ⟨k, -⟩ | ⟨-, k⟩
        · rw [k] at h8
          exact absurd h8 (by decide)
        · rintro ⟨p', e', hp', h9'⟩
          rw [← nI_inj9 (a := p) (b := p') (by omega) (by omega) e'] at hp'
          exact k hp'
      have hp : prT p := by
        rcases hpr with ⟨-, k⟩ | ⟨k, -⟩
        · exact k
        · exact absurd k h8
      refine w_cs0 (tc_ld3 nH4 hM.1 hd hs hA) ?_
      rintro y2 ⟨g1, g2, S, G, g3, g4⟩
      obtain ⟨mm, P9, hmk⟩ := mk_ex A
      have hpm := jnN_pm g4
      obtain ⟨j1, j2, j3, j4⟩ := g4
      have hP9 := parts_cnt j2 j3 hmk
      have hc12 : c ≤ 12 := hA.2.2.2.1
      have hnv : nv (c, cirs A, S, G) := g3.2.2.1
      refine w_cs0 (tc_markParts nH4 g3.1 (fun k hk => (j3 k hk).1) hc12) ?_
      rintro y3 ⟨-, q2, q3⟩
      have pe := (np_parts_of (N := S.1) (c := c) (fun k hk => (j3 k hk).1) hc12 (y2.2.1 (4000 + 6))).2
      have hP9 : (np_parts c S.1).2 + cirs A = P9 := hP9
      have pl := mp_out_le S.1 (2 * c) (np_fill (y2.2.1 (4000 + 6)) 0 (2 * c) (-1)) (2 * c)
      dsimp only at q2
      generalize (mp_out S.1 (2 * c) (np_fill (y2.2.1 (4000 + 6)) 0 (2 * c) (-1)) (2 * c)).2 = P at q2 pe pl
      have a3 : cAt y3 4000 (c, cirs A, S, G) := cAt_fr q3 (fun g hg h9 => by unfold cP at hg; unfold cQ at h9; omega) g3.1
      have hci : cirs A ≤ 6 := by
        have h9 : np_rg c S + cirs A ≤ 6 := hnv.2.2.2
        omega
      have f3 : fr chG y y3 := fr_tr (fr_mono (fun g hg => Or.inl (by unfold cL at hg; omega)) g2) (fr_mono (fun g hg => Or.inl (by unfold cQ at hg; omega)) q3)
      have n44 : ∃ T, cAt y3 44000 T ∧ ow_b24 T.2.2.1 := by
        obtain ⟨T, t1, t2⟩ := g1.2.1 44000 nH44
        exact ⟨T, cAt_fr q3 (fun g hg h9 => by unfold cP at hg; unfold cQ at h9; omega) t1, t2⟩
      refine w_rdF a3.1 (w_rdF q2 (w_rdF a3.2.1 ?_))
      dsimp only
      rw [nI_add, nI_add]
      refine w_le (a := c + P + cirs A) (b := 9) (by omega) (by omega) (fun h9 => ?_) (fun h9 => w_some (Or.inr ⟨d, A, sg, hd, rfl, hSt, Or.inr ⟨p, rfl, hp, hp9, c, P9, mm, hA.1, hmk, Or.inl ⟨rfl, tkC_tr (tkC_fr g2 (by unfold cL; omega) (by unfold cL; omega) (by unfold cL; omega)) (tkC_fr q3 (by unfold cQ; omega) (by unfold cQ; omega) (by unfold cQ; omega)), by omega⟩⟩⟩))
      have hV : isoV A sg (fun x => x) (c, cirs A, S, G) := isoV_of j2 j3
      obtain ⟨w, hw⟩ := hg d A sg c hd hs hA
      have hT : tyI (c, cirs A, S, G) := by
        refine ⟨hnv, fun k hk => ?_, A, sg, fun x => x, w, max 1 (P + cirs A), hV, hw, hA.2.2.2.2, pLe_of hV ?_, by omega, ?_⟩
        · show G k ≠ 0
          rw [j4 k hk]
          split <;> decide
        · show (np_parts c S.1).2 + cirs A ≤ _
          omega
        · show c + max 1 (P + cirs A) ≤ 9
          rcases Nat.eq_zero_or_pos (P + cirs A) with h0 | h0
          · have : c = 0 := by
              rcases Nat.eq_zero_or_pos c with h7 | h7
              · exact h7
              · obtain ⟨-, u2, -⟩ := parts_I j3 hc12
                obtain ⟨r, r1, -⟩ := u2 0 (by omega)
                omega
            omega
          · omega
      have hJ : tdJ p sg A c (c, cirs A, S, G) := tdJ_0 hpm hV hw (okL_bd hA) (prp_of hp) (iv_of hp)
      refine w_dc1 (te_compute hv a3 n44 hT hJ (tbP_fr f3 (by unfold chG cmG cP; omega) htb) (chP_fr f3 (fun g hg => by unfold chG cmG cP at hg; omega) hch) hp hp9) ?_
      rintro v v1 z1 ⟨r1, r2, r3, r4, r5⟩
      have r5 : clT p sg A c z1 v := r5
      exact w_some (Or.inr ⟨d, A, sg, hd, rfl, hSt, Or.inr ⟨p, rfl, hp, hp9, c, P9, mm, hA.1, hmk, Or.inr ⟨rfl, by omega, clN_of hp r5 ⟨_, nm_id j2 j3⟩⟩⟩⟩)
  · rintro a y1 ha ⟨h1, rfl⟩
    rcases h1 with h1 | h1
    · exact w_some (Or.inl ⟨h1.1, ⟨rfl, rfl, rfl⟩, h1.2⟩)
    · exact absurd h1.1 ha
end XCL1
