/-! exact calls: linking, of both -/
def sL (G : vT → Int32) (L : List vT) : Int32 := L.foldl (fun s p => s + G p) 0
theorem sL_s {G : vT → Int32} {L : List vT} {p : vT} : sL G (L ++ [p]) = sL G L + G p := by
  unfold sL
  rw [List.foldl_append]
  rfl
theorem sL_pm {G : vT → Int32} {L L' : List vT} (h : L.Perm L') : sL G L = sL G L' := by
  unfold sL
  refine h.foldl_eq' (fun x _ y _ z => ?_) 0
  rw [Int32.add_assoc, Int32.add_comm (G x), ← Int32.add_assoc]
def pairs (c : Nat) : List vT := (List.range c).flatMap (fun x => [(x, 0), (x, 1)])
theorem pairs_s (c : Nat) : pairs (c + 1) = pairs c ++ [(c, 0), (c, 1)] := by
  unfold pairs
  rw [List.range_succ, List.flatMap_append]
  rfl
theorem pairs_mem {c : Nat} {p : vT} : p ∈ pairs c ↔ p.1 < c ∧ p.2 < 2 := by
  unfold pairs
  rw [List.mem_flatMap]
  constructor
  · rintro ⟨x, hx, hp⟩
    have hx := List.mem_range.mp hx
    rcases List.mem_cons.mp hp with rfl | hp
    · exact ⟨hx, by show 0 < 2; omega⟩
    · rw [List.mem_singleton.mp hp]
      exact ⟨hx, by show 1 < 2; omega⟩
  · rintro ⟨h1, h2⟩
    refine ⟨p.1, List.mem_range.mpr h1, ?_⟩
    rcases (show p.2 = 0 ∨ p.2 = 1 by omega) with e | e
    · exact List.mem_cons.mpr (Or.inl (Prod.ext rfl e))
    · exact List.mem_cons.mpr (Or.inr (List.mem_singleton.mpr (Prod.ext rfl e)))
theorem pairs_nd : ∀ c, (pairs c).Nodup
  | 0 => List.nodup_nil
  | c + 1 => by
    rw [pairs_s]
    refine List.nodup_append.mpr ⟨pairs_nd c, ?_, fun p hp q hq e => ?_⟩
    · refine List.nodup_cons.mpr ⟨fun h => ?_, List.nodup_cons.mpr ⟨List.not_mem_nil, List.nodup_nil⟩⟩
      have := List.mem_singleton.mp h
      exact absurd (Prod.mk.inj this).2 (by decide)
    · have h1 := (pairs_mem.mp hp).1
      have h2 : q.1 = c := by
        rcases List.mem_cons.mp hq with rfl | hq
        · rfl
        · rw [List.mem_singleton.mp hq]
      rw [e, h2] at h1
      omega
theorem nd_perm {L L' : List vT} (h1 : L.Nodup) (h2 : L'.Nodup) (h : ∀ p, p ∈ L ↔ p ∈ L') : L.Perm L' := by
  refine List.perm_iff_count.mpr (fun p => ?_)
  have a1 := List.nodup_iff_count.mp h1 p
  have a2 := List.nodup_iff_count.mp h2 p
  by_cases e : p ∈ L
  · have b1 := List.count_pos_iff.mpr e
    have b2 := List.count_pos_iff.mpr ((h p).mp e)
    omega
  · rw [List.count_eq_zero.mpr e, List.count_eq_zero.mpr (fun h9 => e ((h p).mpr h9))]
theorem okF_pairs {F : List vT} {c : Nat} (h : okF F c) : F.Perm (pairs c) := nd_perm h.1 (pairs_nd c) (fun p => by rw [h.2, pairs_mem])
theorem vAt_mtf {A : rn_L} (hF : wkF A.flatten) {v : Nat} (hv : v < A.flatten.length) : vAt A (mtf A v) = ((vAt A v).1, 1 - (vAt A v).2) := by
  obtain ⟨v0, v1, a1, b1, a2, b2, m0, m1, all⟩ := vis_two hF hv
  rcases all v hv rfl with e | e
  · rw [e, m0, b2, a2]
    rfl
  · rw [e, m1, a2, b2]
    rfl
/-- what a visit adds to the linking number of i and j -/
def lkG (A : rn_L) (sg : Nat → Bool) (i j : Nat) (p : vT) : Int32 := if cidx A p = i ∧ cidx A (p.1, 1 - p.2) = j then (if sg p.1 then -1 else 1) else 0
def lkR (A : rn_L) (sg : Nat → Bool) (i j : Nat) : Int32 := sL (lkG A sg i j) A.flatten / 2
section XL
variable {X : (Nat → Nat → Int32) → Prop} {z : ow_MS} {St : plT}
theorem xq_linking {d a b : Int32} (h : gI X z) (hR : relR z St) : Te (fun K => qe_X13_linking K d a b z) (fun r => rFl X z 1 r ∧ (∀ e, e < 40 → d = nI e → St e = none) ∨ ∃ e A sg, e < 40 ∧ d = nI e ∧ St e = some (A, sg) ∧ (rFl X z 1 r ∧ ¬ (in9 a A.length ∧ in9 b A.length) ∨ ∃ i j, i < A.length ∧ j < A.length ∧ a = nI i ∧ b = nI j ∧ (rFl X z 2 r ∧ i = j ∨ rOk X z r ∧ i ≠ j ∧ r.1 = lkR A sg i j))) := by
  let Q : Int32 × ow_MS → Prop := fun r => rFl X z 1 r ∧ (∀ e, e < 40 → d = nI e → St e = none) ∨ ∃ e A sg, e < 40 ∧ d = nI e ∧ St e = some (A, sg) ∧ (rFl X z 1 r ∧ ¬ (in9 a A.length ∧ in9 b A.length) ∨ ∃ i j, i < A.length ∧ j < A.length ∧ a = nI i ∧ b = nI j ∧ (rFl X z 2 r ∧ i = j ∨ rOk X z r ∧ i ≠ j ∧ r.1 = lkR A sg i j))
  have h1 := gI_1 (c := 0) h
  have hR1 := relR_1 (c := 0) hR
  refine e_X13_linking ?_
  refine u_X13_linking_0 ?_; unfold qm_X13_linking_0
  refine w_wrF (w_hasX hR1 (fun h0 => w_ifT rfl (w_mono (w_failX h1 fr_1) (fun r hr => Or.inl ⟨hr, h0⟩))) (fun e A sg he hx hs hv hne => w_ifF (by decide) ?_))
  subst hx
  refine w_cs0 (to_open pn1 he hv) (fun z2 ⟨o1, f1⟩ => ?_)
  have h2 : gI X z2 := gI_net pn1 f1 (fun g hg => by omega) h1
  have hl := o1.len
  have hC := o1.2.2.2
  have hd := wkF_ok o1.wk
  have f02 : fr rPs z z2 := fr_tr fr_1 (fr_mono (fun g hg => Or.inr (by unfold rSc; omega)) f1)
  have z21 : z2.1 1 = 0 := by rw [(f1 1 (by omega)).1]; exact po_usF_at
  have fin : ∀ {r}, (rFl X z 1 r ∧ ¬ (in9 a A.length ∧ in9 b A.length) ∨ ∃ i j, i < A.length ∧ j < A.length ∧ a = nI i ∧ b = nI j ∧ (rFl X z 2 r ∧ i = j ∨ rOk X z r ∧ i ≠ j ∧ r.1 = lkR A sg i j)) → Q r := fun hr => Or.inr ⟨e, A, sg, he, rfl, hs, hr⟩
  have c1 : ¬ (in9 a A.length ∧ in9 b A.length) → Tt (fun K k => q_X13_linking K k 1 (nI e) a b 0 0 z2) Q := by
    intro hno
    refine u_X13_linking_1 ?_; unfold qm_X13_linking_1
    exact w_mono (w_failX (k := 1) h2 f02) (fun r hr => fin (Or.inl ⟨hr, hno⟩))
  have ha9 := in9_iff (x := a) (n := A.length) (by omega)
  have hb9 := in9_iff (x := b) (n := A.length) (by omega)
  have c2 : ∀ i j, i < A.length → j < A.length → a = nI i → b = nI j → i ≠ j → ∀ (k v : Nat), v + k = A.flatten.length → Tt (fun K i9 => q_X13_linking K i9 2 (nI e) a b (sL (lkG A sg i j) (A.flatten.take v)) (nI v) z2) Q := by
    intro i j hi hj ea eb hij k
    induction k with
    | zero =>
      intro v hv9
      have hve : v = A.flatten.length := by omega
      rw [hve, List.take_length]
      refine u_X13_linking_2 ?_; unfold qm_X13_linking_2
      exact w_rdF o1.1.V (w_leT (by omega) (by omega) (w_nzI (by decide) (w_some (fin (Or.inr ⟨i, j, hi, hj, ea, eb, Or.inr ⟨⟨h2, z21, f02⟩, hij, rfl⟩⟩)))))
    | succ k ih =>
      intro v hv9
      have hvl : v < A.flatten.length := by omega
      have hml := mtf_lt hd hvl
      obtain ⟨x1, x2, x3⟩ := o1.cx hvl
      have i1 := rc_idx o1.wk.1 hvl
      have i2 := rc_idx o1.wk.1 hml
      rw [vAt_mtf o1.wk hvl] at i2
      have r1 := (rc_mem hvl).1
      have r2 := (rc_mem hml).1
      have c3 : ∀ y : Int32, y = sL (lkG A sg i j) (A.flatten.take (v + 1)) → Tt (fun K i9 => q_X13_linking K i9 3 (nI e) a b y (nI v) z2) Q := by
        intro y hy
        refine u_X13_linking_3 ?_; unfold qm_X13_linking_3
        rw [nI_1, hy]
        exact ih (v + 1) (by omega)
      have es : sL (lkG A sg i j) (A.flatten.take (v + 1)) = sL (lkG A sg i j) (A.flatten.take v) + lkG A sg i j (vAt A v) := by
        rw [take_s (vAt_of hvl), sL_s]
      have gv : lkG A sg i j (vAt A v) = if rn_c A v = i ∧ rn_c A (mtf A v) = j then (if sg (crs A v) then -1 else 1) else 0 := by
        unfold lkG
        rw [i1, i2]
        rfl
      have no : ¬ (rn_c A v = i ∧ rn_c A (mtf A v) = j) → sL (lkG A sg i j) (A.flatten.take v) = sL (lkG A sg i j) (A.flatten.take (v + 1)) := fun hn => by
        rw [es, gv, if_neg hn, Int32.add_zero]
      refine u_X13_linking_2 ?_; unfold qm_X13_linking_2
      refine w_rdF o1.1.V (w_leF (by omega) hvl (w_rdI (pl8 pn1) rfl (by omega) (lk_c o1.1 hvl) (w_if (fun q1 => w_rdI (pl7 pn1) rfl (by omega) (lk_m hd o1.1 hvl) (w_rdI (pl8 pn1) rfl (by omega) (lk_c o1.1 hml) (w_if (fun q2 => w_rdI (pl4 pn1) rfl (by omega) (lk_cu o1.1 hvl).1 (w_rdI (pl6 pn1) rfl (by omega) (o1.2.1 _ (vAt_mem hvl)) (c3 _ ?_))) (fun q2 => c3 _ (no (fun h9 => q2 ?_)))))) (fun q1 => c3 _ (no (fun h9 => q1 ?_))))))
      · rw [ea] at q1
        rw [eb] at q2
        have q1 := nI_inj9 (by omega) (by omega) q1
        have q2 := nI_inj9 (by omega) (by omega) q2
        rw [es, gv]
        exact congrArg (fun t => sL (lkG A sg i j) (A.flatten.take v) + t) (if_pos ⟨q1, q2⟩).symm
      · rw [h9.2, eb]
      · rw [h9.1, ea]
  refine w_if (fun h9 => c1 (fun h8 => (ha9.mp h8.1).1 h9)) (fun a0 => w_rdF (lk_C o1.1) (w_if (fun h9 => c1 (fun h8 => absurd (ha9.mp h8.1).2 (Int32.not_lt.mpr h9))) (fun a1 => w_if (fun h9 => c1 (fun h8 => (hb9.mp h8.2).1 h9)) (fun b0 => w_rdF (lk_C o1.1) (w_if (fun b1 => ?_) (fun h9 => c1 (fun h8 => h9 (hb9.mp h8.2).2)))))))
  obtain ⟨i, hi, ea⟩ := ha9.mpr ⟨a0, Int32.not_le.mp a1⟩
  obtain ⟨j, hj, eb⟩ := hb9.mpr ⟨b0, b1⟩
  refine w_if (fun h9 => w_mono (w_failX (k := 2) h2 f02) (fun r hr => fin (Or.inr ⟨i, j, hi, hj, ea, eb, Or.inl ⟨hr, ?_⟩⟩))) (fun h9 => c2 i j hi hj ea eb (fun e9 => h9 (by rw [ea, eb, e9])) _ 0 (Nat.zero_add _))
  rw [ea, eb] at h9
  exact nI_inj9 (by omega) (by omega) h9
end XL
theorem lkC_eq {A : rn_L} {sg : Nat → Bool} {F G : Nat → Int32} {c i j : Nat} (hA : okF A.flatten c) (h39 : A.length ≤ 39) (hi : i < A.length) (hj : j < A.length) (hij : i ≠ j) (hF : ∀ v, v < A.flatten.length → F (lb (vAt A v)) = nI (rn_c A v)) (hG : ∀ x, x < c → G x = if sg x then -1 else 1) : lkC F G (nI i) (nI j) c / 2 = lkR A sg i j := by
  have hFp : ∀ p, p ∈ A.flatten → F (lb p) = nI (cidx A p) ∧ cidx A p < A.length := fun p hp => by
    obtain ⟨v, v1, rfl⟩ := mem_vAt hp
    have := rc_idx hA.1 v1
    rw [this]
    exact ⟨hF v v1, (rc_mem v1).1⟩
  have key : ∀ n, n ≤ c → lkC F G (nI i) (nI j) n = sL (lkG A sg i j) (pairs n) := by
    intro n
    induction n with
    | zero => exact fun _ => rfl
    | succ n ih =>
      intro hn
      obtain ⟨a1, a2⟩ := hFp (n, 0) ((hA.2 _).mpr ⟨by show n < c; omega, by show 0 < 2; omega⟩)
      obtain ⟨b1, b2⟩ := hFp (n, 1) ((hA.2 _).mpr ⟨by show n < c; omega, by show 1 < 2; omega⟩)
      have a1 : F (2 * n) = nI (cidx A (n, 0)) := a1
      have b1 : F (2 * n + 1) = nI (cidx A (n, 1)) := b1
      have es : sL (lkG A sg i j) (pairs (n + 1)) = sL (lkG A sg i j) (pairs n) + lkG A sg i j (n, 0) + lkG A sg i j (n, 1) := by
        rw [pairs_s, show pairs n ++ [(n, 0), (n, 1)] = (pairs n ++ [(n, 0)]) ++ [(n, 1)] by simp, sL_s, sL_s]
      have g0 : lkG A sg i j (n, 0) = if cidx A (n, 0) = i ∧ cidx A (n, 1) = j then (if sg n then -1 else 1) else 0 := rfl
      have g1 : lkG A sg i j (n, 1) = if cidx A (n, 1) = i ∧ cidx A (n, 0) = j then (if sg n then -1 else 1) else 0 := rfl
      rw [es, g0, g1, ← ih (by omega)]
      show (if (F (2 * n) = nI i ∧ F (2 * n + 1) = nI j) ∨ (F (2 * n) = nI j ∧ F (2 * n + 1) = nI i) then lkC F G (nI i) (nI j) n + G n else lkC F G (nI i) (nI j) n) = _
      rw [a1, b1, hG n (by omega)]
      have q : ∀ {s t : Nat}, s < A.length → t < A.length → (nI s = nI t ↔ s = t) := fun hs ht => ⟨fun e => nI_inj9 (by omega) (by omega) e, fun e => by rw [e]⟩
      simp only [q a2 hi, q b2 hj, q a2 hj, q b2 hi]
      generalize (if sg n = true then (-1 : Int32) else 1) = s
      by_cases e1 : cidx A (n, 0) = i ∧ cidx A (n, 1) = j
      · rw [if_pos (Or.inl e1), if_pos e1, if_neg (fun h9 => hij (e1.1.symm.trans h9.2)), Int32.add_zero]
      · by_cases e2 : cidx A (n, 1) = i ∧ cidx A (n, 0) = j
        · rw [if_pos (Or.inr ⟨e2.2, e2.1⟩), if_neg e1, if_pos e2, Int32.add_zero]
        · rw [if_neg (fun h9 => h9.elim e1 (fun h8 => e2 ⟨h8.2, h8.1⟩)), if_neg e1, if_neg e2, Int32.add_zero, Int32.add_zero]
  unfold lkR
  rw [key c (Nat.le_refl _), sL_pm (okF_pairs hA)]
section XLC
variable {vl : Nat → Nat} {y : ow_MS} {St : plT} {x a b : Int32}
theorem xc_linking (hN : gN y) (hC : relC y St) (hS : okS St) : Te (fun K => ce_X11_linking vl K 0 x a b y) (fun r => gN r.2.2 ∧ fr uP y r.2.2 ∧ relC r.2.2 St ∧ (r.1 = 1 ∧ (∀ e, e < 40 → x = nI e → St e = none) ∨ ∃ e A sg, e < 40 ∧ x = nI e ∧ St e = some (A, sg) ∧ (r.1 = 1 ∧ ¬ (in9 a A.length ∧ in9 b A.length) ∨ ∃ i j, i < A.length ∧ j < A.length ∧ a = nI i ∧ b = nI j ∧ (r.1 = 2 ∧ i = j ∨ r.1 = 0 ∧ i ≠ j ∧ r.2.1 = lkR A sg i j)))) := by
  let Q0 : ow_MS → Nat × Int32 × ow_MS → Prop := fun y r => gN r.2.2 ∧ fr uP y r.2.2 ∧ relC r.2.2 St ∧ (r.1 = 1 ∧ (∀ e, e < 40 → x = nI e → St e = none) ∨ ∃ e A sg, e < 40 ∧ x = nI e ∧ St e = some (A, sg) ∧ (r.1 = 1 ∧ ¬ (in9 a A.length ∧ in9 b A.length) ∨ ∃ i j, i < A.length ∧ j < A.length ∧ a = nI i ∧ b = nI j ∧ (r.1 = 2 ∧ i = j ∨ r.1 = 0 ∧ i ≠ j ∧ r.2.1 = lkR A sg i j)))
  refine e_X11_linking ?_
  refine u_X11_linking_0 ?_; unfold cm_X11_linking_0
  refine w_tc0 (xc_need hN.1 hC hS) ?_ ?_
  · rintro y1 ⟨h1, rfl⟩
    rcases h1 with h1 | ⟨-, d, A, sg, c, hd, ex, hSt, hs, hA, hne, hpl⟩
    · exact absurd (show (0 : Nat) = 1 from h1.1) (by decide)
    · rw [ex]
      refine w_cs0 (xc_ld hN hd hs hA hpl) ?_
      rw [← ex]
      rintro y3 ⟨hN3, f3, T, hT, hT1, hV, hpm, hTp⟩
      have hC3 : relC y3 St := relC_fr f3 (fun q hq h9 => by unfold cW at hq; unfold cL at h9; omega) hC
      have hG : ∀ x, x < c → T.2.2.2 x = if sg x then -1 else 1 := fun x hx => iso_sg1 (p := (x, 0)) hV hpm ((hA.1.2 _).mpr ⟨hx, by show 0 < 2; omega⟩)
      have f3u : fr uP y1 y3 := fr_mono (fun g hg => by unfold cL at hg; unfold uP; omega) f3
      have hv := hT.2.2.1
      have h6 := hA.2.2.2.2
      have h12 := hv.2.1
      refine w_tc0 (tc_needComponent hT.2.2.2.2.2 (by omega)) ?_ ?_
      · rintro y4 ⟨h4, rfl⟩
        rcases h4 with ⟨-, i, hi, ea⟩ | h4
        · refine w_tc0 (tc_needComponent hT.2.2.2.2.2 (by omega)) ?_ ?_
          · rintro y5 ⟨h5, rfl⟩
            rcases h5 with ⟨-, j, hj, eb⟩ | h5
            · refine w_if (fun e => w_some ⟨hN3, f3u, hC3, Or.inr ⟨d, A, sg, hd, ex, hSt, Or.inr ⟨i, j, hi, hj, ea, eb, Or.inl ⟨rfl, ?_⟩⟩⟩⟩) (fun e => ?_)
              · rw [ea, eb] at e
                exact nI_inj9 (by omega) (by omega) e
              · have hij : i ≠ j := fun h9 => e (by rw [ea, eb, h9])
                have c1 : ∀ (k n : Nat), n + k = T.1 → Tt (fun K t => c_X11_linking vl K t 1 x a b (lkC (y5.2.1 4005) T.2.2.2 a b n) (nI n) 0 0 0 y5) (Q0 y1) := by
                  intro k
                  induction k with
                  | zero =>
                    intro n hn
                    have en : n = T.1 := by omega
                    subst en
                    refine u_X11_linking_1 ?_; unfold cm_X11_linking_1
                    exact w_rdF hT.1.1 (w_leT (by omega) (by omega) (w_nzI (by decide) (w_some ⟨hN3, f3u, hC3, Or.inr ⟨d, A, sg, hd, ex, hSt, Or.inr ⟨i, j, hi, hj, ea, eb, Or.inr ⟨rfl, hij, by rw [ea, eb, hT1]; exact lkC_eq hA.1 (by omega) hi hj hij hT.2.2.2.2.1 hG⟩⟩⟩⟩)))
                  | succ k ih =>
                    intro n hn
                    have c4 : ∀ (s v9 v10 : Int32), s = lkC (y5.2.1 4005) T.2.2.2 a b (n + 1) → Tt (fun K t => c_X11_linking vl K t 4 x a b s (nI n) v9 v10 0 y5) (Q0 y1) := by
                      intro s v9 v10 es
                      rw [es]
                      refine u_X11_linking_4 ?_; unfold cm_X11_linking_4
                      rw [nI_1]
                      exact ih (n + 1) (by omega)
                    have c3 : ∀ (v9 v10 : Int32), ((y5.2.1 4005 (2 * n) = a ∧ y5.2.1 4005 (2 * n + 1) = b) ∨ (y5.2.1 4005 (2 * n) = b ∧ y5.2.1 4005 (2 * n + 1) = a)) → Tt (fun K t => c_X11_linking vl K t 3 x a b (lkC (y5.2.1 4005) T.2.2.2 a b n) (nI n) v9 v10 0 y5) (Q0 y1) := by
                      intro v9 v10 hc
                      refine u_X11_linking_3 ?_; unfold cm_X11_linking_3
                      refine w_crI (nH_3 nH4) rfl (show n < 12 by omega) (hT.1.2.2.2.2 n) (c4 _ _ _ ?_)
                      show _ = if _ then _ else _
                      rw [if_pos hc]
                    have c2 : ¬ (y5.2.1 4005 (2 * n) = a ∧ y5.2.1 4005 (2 * n + 1) = b) → Tt (fun K t => c_X11_linking vl K t 2 x a b (lkC (y5.2.1 4005) T.2.2.2 a b n) (nI n) (y5.2.1 4005 (2 * n)) (y5.2.1 4005 (2 * n + 1)) 0 y5) (Q0 y1) := by
                      intro hc
                      have no : ¬ (y5.2.1 4005 (2 * n) = b ∧ y5.2.1 4005 (2 * n + 1) = a) → lkC (y5.2.1 4005) T.2.2.2 a b n = lkC (y5.2.1 4005) T.2.2.2 a b (n + 1) := by
                        intro hc2
                        show _ = if _ then _ else _
                        rw [if_neg (fun h9 => h9.elim hc hc2)]
                      refine u_X11_linking_2 ?_; unfold cm_X11_linking_2
                      refine w_if (fun q1 => w_if (fun q2 => c3 _ _ (Or.inr ⟨q1, q2⟩)) (fun q2 => c4 _ _ _ (no (fun h9 => q2 h9.2)))) (fun q1 => c4 _ _ _ (no (fun h9 => q1 h9.1)))
                    refine u_X11_linking_1 ?_; unfold cm_X11_linking_1
                    rw [show (2 : Int32) * nI n = nI (2 * n) from pk_mul 2 _, nI_1]
                    refine w_rdF hT.1.1 (w_leF (by omega) (by omega) (w_crI (nH_5 nH4) rfl (show 2 * n < 24 by omega) rfl (w_crI (nH_5 nH4) rfl (show 2 * n + 1 < 24 by omega) rfl ?_)))
                    refine w_if (fun q1 => w_if (fun q2 => c3 _ _ (Or.inl ⟨q1, q2⟩)) (fun q2 => c2 (fun h9 => q2 h9.2))) (fun q1 => c2 (fun h9 => q1 h9.1))
                exact c1 T.1 0 (by omega)
            · exact absurd (show (0 : Nat) = 1 from h5.1) (by decide)
          · rintro q y5 hq ⟨h5, rfl⟩
            rcases h5 with h5 | h5
            · exact absurd h5.1 hq
            · have e : q = 1 := h5.1
              rw [e]
              exact w_some ⟨hN3, f3u, hC3, Or.inr ⟨d, A, sg, hd, ex, hSt, Or.inl ⟨rfl, fun ⟨_, k, k1, k2⟩ => h5.2 k k1 k2⟩⟩⟩
        · exact absurd (show (0 : Nat) = 1 from h4.1) (by decide)
      · rintro q y4 hq ⟨h4, rfl⟩
        rcases h4 with h4 | h4
        · exact absurd h4.1 hq
        · have e : q = 1 := h4.1
          rw [e]
          exact w_some ⟨hN3, f3u, hC3, Or.inr ⟨d, A, sg, hd, ex, hSt, Or.inl ⟨rfl, fun ⟨⟨k, k1, k2⟩, _⟩ => h4.2 k k1 k2⟩⟩⟩
  · rintro q y1 hq ⟨h1, rfl⟩
    rcases h1 with h1 | h1
    · exact w_some ⟨hN, fr_rf, hC, Or.inl h1⟩
    · exact absurd h1.1 hq
end XLC
