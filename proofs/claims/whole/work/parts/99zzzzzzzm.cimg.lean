/-! the class: D of a generator -/
theorem ch_43005 {vl : Nat → Nat} : ((cX vl).2 43005).2.1 = 1024 := rfl
theorem ch_43007 {vl : Nat → Nat} : ((cX vl).2 43007).2.1 = 256 := rfl
theorem ch_43008 {vl : Nat → Nat} : ((cX vl).2 43008).2.1 = 256 := rfl
theorem ch_43009 {vl : Nat → Nat} : ((cX vl).2 43009).2.1 = 10 := rfl
theorem ch_dyn {vl : Nat → Nat} {h : Nat} (hh : dynL.contains h = true) : ((cX vl).2 h).2.1 = vl h := by
  show (if dynL.contains h = true then (0, vl h, []) else cX_f h).2.1 = vl h
  rw [if_pos hh]
theorem ch_43011 {vl : Nat → Nat} : ((cX vl).2 43011).2.1 = vl 43011 := ch_dyn (by decide)
theorem ch_43012 {vl : Nat → Nat} : ((cX vl).2 43012).2.1 = vl 43012 := ch_dyn (by decide)
theorem ch_43013 {vl : Nat → Nat} : ((cX vl).2 43013).2.1 = vl 43013 := ch_dyn (by decide)
theorem ch_43014 {vl : Nat → Nat} : ((cX vl).2 43014).2.1 = vl 43014 := ch_dyn (by decide)
theorem ch_43015 {vl : Nat → Nat} : ((cX vl).2 43015).2.1 = vl 43015 := ch_dyn (by decide)
theorem ch_43016 {vl : Nat → Nat} : ((cX vl).2 43016).2.1 = vl 43016 := ch_dyn (by decide)
/-- the loops of all states -/
def LpY (y : ow_MS) (S : ow_NP) (G : Nat → Int32) (c : Nat) (Ls : Nat → Nat → Nat) (ns : Nat → Nat) : Prop := ∀ s, s < 2 ^ c → LpS y S G c s (Ls s) (ns s) ∧ ns s ≤ 9
theorem LpY_fr {P : Nat → Prop} {y y1 : ow_MS} {S : ow_NP} {G : Nat → Int32} {c : Nat} {Ls : Nat → Nat → Nat} {ns : Nat → Nat} (hf : fr P y y1) (hP : ¬ P 43002 ∧ ¬ P 43003 ∧ ¬ P 43004) (h : LpY y S G c Ls ns) : LpY y1 S G c Ls ns := by
  intro s hs
  obtain ⟨⟨h1, h2, h3, h4, h5⟩, h6⟩ := h s hs
  refine ⟨⟨fun g hg => ?_, ?_, fun l hl => ?_, h4, h5⟩, h6⟩
  · rw [(hf _ hP.1).2.1]
    exact h1 g hg
  · rw [(hf _ hP.2.1).2.1]
    exact h2
  · obtain ⟨g, g1, g2, g3⟩ := h3 l hl
    exact ⟨g, g1, by rw [(hf _ hP.2.2).2.1]; exact g2, g3⟩
/-- which set it is among those with as many -/
def tbP (y : ow_MS) : Prop := ∀ m, m < 1024 → y.2.1 43005 m = nI (cpN (pc m) m)
section IMG
variable {vl : Nat → Nat} {y : ow_MS} {S : ow_NP} {G : Nat → Int32} {c ci : Nat} {Ls : Nat → Nat → Nat} {ns : Nat → Nat}
theorem tb_j {s x : Nat} (hv : vn c S) (hx : x < c) {L : Nat → Nat} (hL : labR c (uPx S G (tb s) c) L) : (L (2 * x + 1) = L (2 * x) ∧ L (S.2 (2 * x + 1)) = L (S.2 (2 * x))) ∨ (L (S.2 (2 * x + 1)) = L (2 * x) ∧ L (2 * x + 1) = L (S.2 (2 * x))) := by
  have e0 : egp S (4 * x) = 2 * x := by
    unfold egp
    rw [if_pos (by omega)]
    omega
  have e1 : egp S (4 * x + 1) = S.2 (2 * x) := by
    unfold egp
    rw [if_neg (by omega), show (4 * x + 1) / 2 = 2 * x by omega]
  have e2 : egp S (4 * x + 2) = 2 * x + 1 := by
    unfold egp
    rw [if_pos (by omega)]
    omega
  have e3 : egp S (4 * x + 3) = S.2 (2 * x + 1) := by
    unfold egp
    rw [if_neg (by omega), show (4 * x + 3) / 2 = 2 * x + 1 by omega]
  obtain ⟨j1, j2⟩ := uPx_j (S := S) (G := G) (b := tb s) c x hx
  have l1 := (hv (2 * x) (by omega)).2.1
  have l2 := (hv (2 * x + 1) (by omega)).2.1
  unfold toI at j1
  unfold toO at j2
  by_cases ha : alB G (tb s) x = true
  · rw [if_pos ha] at j1 j2
    rw [e1, e2] at j1
    rw [e0, e3] at j2
    exact Or.inr ⟨((hL _ _ (by omega) l2).mpr j2).symm, ((hL _ _ l1 (by omega)).mpr j1).symm⟩
  · rw [if_neg ha] at j1 j2
    rw [e1, e3] at j1
    rw [e0, e2] at j2
    exact Or.inl ⟨((hL _ _ (by omega) (by omega)).mpr j2).symm, ((hL _ _ l1 l2).mpr j1).symm⟩
theorem e_X1_otherLoop {vl : Nat → Nat} {r0 : Nat} {x1 : Int32} {x2 : Int32} {z : ow_MS} {Q : (Int32 × ow_MS) → Prop} (H : Tt (fun K _ => cm_X1_otherLoop_0 vl K x1 x2 r0 z) Q) : Te (fun K => ce_X1_otherLoop vl K r0 x1 x2 z) Q := w_te0 H
theorem tc_otherLoop {s x : Nat} (hy : cAt y 44000 (c, ci, S, G)) (hv : vn c S) (hc : c ≤ 8) (hL : LpY y S G c Ls ns) (hs : s < 2 ^ c) (hx : x < c) : Te (fun K => ce_X1_otherLoop vl K 43000 (nI s) (nI x) y) (fun r => r = (nI (Ls s (S.2 (2 * x))), y)) := by
  obtain ⟨⟨h1, h2, h3, h4, h5⟩, h6⟩ := hL s hs
  have h256 : 2 ^ c ≤ 256 := two_mono (b := 8) hc
  have l1 := (hv (2 * x) (by omega)).2.1
  have l2 := (hv (2 * x + 1) (by omega)).2.1
  obtain ⟨a1, a2⟩ := h1 (2 * x) (by omega)
  obtain ⟨b1, b2⟩ := h1 (2 * x + 1) (by omega)
  obtain ⟨c1, c2⟩ := h1 _ l1
  obtain ⟨d1, d2⟩ := h1 _ l2
  have jj := tb_j (G := G) (s := s) hv hx h4
  refine e_X1_otherLoop ?_; unfold cm_X1_otherLoop_0
  rw [rn_mul2, i16, nI_1, nI_1]
  refine w_crI ch_43002 rfl (by omega) a1 (w_crI ch_43002 rfl (by omega) b1 (w_crI (nH_2 nH44) rfl (show 2 * x < 24 by omega) (hy.2.2.2.1 _) ?_))
  rw [show ((c, ci, S, G) : ow_NT).2.2.1.2 (2 * x) = S.2 (2 * x) from rfl, i16]
  refine w_crI ch_43002 rfl (by omega) c1 (w_crI (nH_2 nH44) rfl (show 2 * x + 1 < 24 by omega) (hy.2.2.2.1 _) ?_)
  rw [show ((c, ci, S, G) : ow_NT).2.2.1.2 (2 * x + 1) = S.2 (2 * x + 1) from rfl, i16]
  refine w_crI ch_43002 rfl (by omega) d1 (w_eqN (by omega) (by omega) (fun e => w_eqN (by omega) (by omega) (fun e2 => w_some ?_) (fun e2 => w_some rfl)) (fun e => w_some ?_))
  · rcases jj with ⟨j1, j2⟩ | ⟨j1, j2⟩
    · rw [j2]
    · rw [j1, e2]
  · rcases jj with ⟨j1, j2⟩ | ⟨j1, j2⟩
    · exact absurd j1 e
    · rw [j2]
theorem crS {m l : Nat} (hm : m < 1024) (hl : l < 10) : ((nI m >>> (nI l &&& 31)) &&& 1) = nI (btN m l) := gbit (by omega) (by omega)
theorem crO {k l b : Nat} (hk : k < 2 ^ l) (hl : l < 10) (hb : b < 2) : nI k ||| (nI b <<< (nI l &&& 31)) = nI (k + b * 2 ^ l) := by
  have key : ∀ l : Fin 10, ∀ b : Fin 2, nI b.val <<< (nI l.val &&& 31) = nI (b.val * 2 ^ l.val) := by decide +kernel
  have h9 := key ⟨l, hl⟩ ⟨b, hb⟩
  dsimp only at h9
  have h10 : 2 ^ l ≤ 2 ^ 9 := two_mono (by omega)
  have b01 : b = 0 ∨ b = 1 := by omega
  have hmul : b * 2 ^ l ≤ 2 ^ l := by
    rcases b01 with e | e <;> subst e <;> omega
  rw [h9, ow_or (by omega) (by omega)]
  congr 1
  rcases b01 with e | e
  · subst e
    simp
  · subst e
    rw [Nat.one_mul]
    have := Nat.two_pow_add_eq_or_of_lt hk 1
    rw [Nat.mul_one] at this
    rw [Nat.or_comm, ← this, Nat.add_comm]
/-- the place of a bit below l, or nothing, for loops at the crossing -/
def crF (m a b l : Nat) (φ : Nat → Nat) (k : Nat) : Prop := k < 2 ^ l ∧ pc k = (((List.range l).filter (fun j => decide (j ≠ a ∧ j ≠ b))).map (fun j => btN m (φ j))).sum ∧ btN k a = 0 ∧ btN k b = 0
theorem crF_s {m a b l k : Nat} {φ : Nat → Nat} (hl : l < 10) (h : crF m a b l φ k) : (l ≠ a → l ≠ b → crF m a b (l + 1) φ (k + btN m (φ l) * 2 ^ l)) ∧ ((l = a ∨ l = b) → crF m a b (l + 1) φ k) := by
  obtain ⟨h1, h2, h3, h4⟩ := h
  have hb2 : btN m (φ l) < 2 := by unfold btN; omega
  constructor
  · intro ha hb
    have fl : (List.range (l + 1)).filter (fun j => decide (j ≠ a ∧ j ≠ b)) = (List.range l).filter (fun j => decide (j ≠ a ∧ j ≠ b)) ++ [l] := by
      rw [List.range_succ, List.filter_append, List.filter_cons_of_pos (by simp [ha, hb])]
      rfl
    have b01 : btN m (φ l) = 0 ∨ btN m (φ l) = 1 := by omega
    unfold crF
    rw [fl, List.map_append, List.sum_append_nat, ← h2]
    rcases b01 with e | e
    · rw [e, Nat.zero_mul, Nat.add_zero]
      refine ⟨by rw [Nat.pow_succ]; omega, ?_, h3, h4⟩
      simp [e]
    · rw [e, Nat.one_mul]
      refine ⟨by rw [Nat.pow_succ]; omega, ?_, ?_, ?_⟩
      · rw [pc_add (by omega) (bt_lt h1 (Nat.le_refl _))]
        simp [e]
      · rw [bt_add h1, if_neg (fun h9 => ha h9.symm)]
        exact h3
      · rw [bt_add h1, if_neg (fun h9 => hb h9.symm)]
        exact h4
  · intro hab
    have fl : (List.range (l + 1)).filter (fun j => decide (j ≠ a ∧ j ≠ b)) = (List.range l).filter (fun j => decide (j ≠ a ∧ j ≠ b)) := by
      rw [List.range_succ, List.filter_append, List.filter_cons_of_neg (by simp; grind)]
      simp
    unfold crF
    rw [fl]
    exact ⟨by rw [Nat.pow_succ]; omega, h2, h3, h4⟩
theorem u_X1_carry_1 {vl : Nat → Nat} {x1 : Int32} {x2 : Int32} {x3 : Int32} {x4 : Int32} {x5 : Int32} {x6 : Int32} {x7 : Int32} {r0 : Nat} {z : ow_MS} {Q : (Int32 × ow_MS) → Prop} (H : Tt (fun K k => cm_X1_carry_1 vl K (c_X1_carry vl K k) x1 x2 x3 x4 x5 x6 x7 r0 z) Q) : Tt (fun K k => c_X1_carry vl K k 1 x1 x2 x3 x4 x5 x6 x7 r0 z) Q := w_un (fun _ _ => rfl) H
theorem u_X1_carry_2 {vl : Nat → Nat} {x1 : Int32} {x2 : Int32} {x3 : Int32} {x4 : Int32} {x5 : Int32} {x6 : Int32} {x7 : Int32} {r0 : Nat} {z : ow_MS} {Q : (Int32 × ow_MS) → Prop} (H : Tt (fun K k => cm_X1_carry_2 vl K (c_X1_carry vl K k) x1 x2 x3 x4 x5 x6 x7 r0 z) Q) : Tt (fun K k => c_X1_carry vl K k 2 x1 x2 x3 x4 x5 x6 x7 r0 z) Q := w_un (fun _ _ => rfl) H
theorem e_X1_carry {vl : Nat → Nat} {r0 : Nat} {x1 : Int32} {x2 : Int32} {x3 : Int32} {x4 : Int32} {x5 : Int32} {z : ow_MS} {Q : (Int32 × ow_MS) → Prop} (H : Tt (fun K k => c_X1_carry vl K k 0 x1 x2 x3 x4 x5 0 0 r0 z) Q) : Te (fun K => ce_X1_carry vl K r0 x1 x2 x3 x4 x5 z) Q := w_te H
theorem u_X1_carry_0 {vl : Nat → Nat} {x1 : Int32} {x2 : Int32} {x3 : Int32} {x4 : Int32} {x5 : Int32} {x6 : Int32} {x7 : Int32} {r0 : Nat} {z : ow_MS} {Q : (Int32 × ow_MS) → Prop} (H : Tt (fun K k => cm_X1_carry_0 vl K (c_X1_carry vl K k) x1 x2 x3 x4 x5 x6 x7 r0 z) Q) : Tt (fun K k => c_X1_carry vl K k 0 x1 x2 x3 x4 x5 x6 x7 r0 z) Q := w_un (fun _ _ => rfl) H
theorem tc_carry {s t m a b : Nat} (hc : c ≤ 8) (hL : LpY y S G c Ls ns) (hs : s < 2 ^ c) (ht : t < 2 ^ c) (hm : m < 1024) (ha : a < 10) (hb : b < 10) : Te (fun K => ce_X1_carry vl K 43000 (nI s) (nI m) (nI t) (nI a) (nI b) y) (fun r => r.2 = y ∧ ∃ (k : Nat) (ga : Nat → Nat), (∀ l, l < ns t → ga l < 2 * c ∧ Ls t (ga l) = l) ∧ r.1 = nI k ∧ crF m a b (ns t) (fun l => Ls s (ga l)) k) := by
  obtain ⟨⟨h1, h2, h3, h4, h5⟩, h6⟩ := hL s hs
  obtain ⟨⟨t1, t2, t3, t4, t5⟩, t6⟩ := hL t ht
  have h256 : 2 ^ c ≤ 256 := two_mono (b := 8) hc
  obtain ⟨ga, hga⟩ : ∃ ga : Nat → Nat, ∀ l, l < ns t → ga l < 2 * c ∧ y.2.1 43004 (10 * t + l) = nI (ga l) ∧ Ls t (ga l) = l := by
    refine ⟨fun l => if h : l < ns t then Classical.choose (t3 l h) else 0, fun l hl => ?_⟩
    dsimp only
    rw [dif_pos hl]
    exact Classical.choose_spec (t3 l hl)
  let Q : Int32 × ow_MS → Prop := fun r => r.2 = y ∧ ∃ (k : Nat) (ga : Nat → Nat), (∀ l, l < ns t → ga l < 2 * c ∧ Ls t (ga l) = l) ∧ r.1 = nI k ∧ crF m a b (ns t) (fun l => Ls s (ga l)) k
  have c1 : ∀ (d l k : Nat), l + d = ns t → crF m a b l (fun l => Ls s (ga l)) k → Tt (fun K i => c_X1_carry vl K i 1 (nI s) (nI m) (nI t) (nI a) (nI b) (nI k) (nI l) 43000 y) Q := by
    intro d
    induction d with
    | zero =>
      intro l k hl hk
      have hl : l = ns t := by omega
      subst hl
      refine u_X1_carry_1 ?_; unfold cm_X1_carry_1
      exact w_crI ch_43003 rfl (by omega) t2 (w_leT (by omega) (by omega) (w_some ⟨rfl, k, ga, fun l hl => ⟨(hga l hl).1, (hga l hl).2.2⟩, rfl, hk⟩))
    | succ d ih =>
      intro l k hl hk
      obtain ⟨g1, g2, g3⟩ := hga l (by omega)
      obtain ⟨o1, o2⟩ := h1 _ g1
      have c2 : ∀ k', crF m a b (l + 1) (fun l => Ls s (ga l)) k' → Tt (fun K i => c_X1_carry vl K i 2 (nI s) (nI m) (nI t) (nI a) (nI b) (nI k') (nI l) 43000 y) Q := by
        intro k' hk'
        refine u_X1_carry_2 ?_; unfold cm_X1_carry_2
        rw [nI_1]
        exact ih (l + 1) k' (by omega) hk'
      obtain ⟨f1, f2⟩ := crF_s (show l < 10 by omega) hk
      refine u_X1_carry_1 ?_; unfold cm_X1_carry_1
      refine w_crI ch_43003 rfl (by omega) t2 (w_leF (by omega) (by omega) (w_eqN (by omega) (by omega) (fun e => c2 k (f2 (Or.inl e))) (fun e1 => w_eqN (by omega) (by omega) (fun e => c2 k (f2 (Or.inr e))) (fun e2 => ?_))))
      rw [i10]
      refine w_crI ch_43004 rfl (by omega) g2 ?_
      rw [i16]
      refine w_crI ch_43002 rfl (by omega) o1 ?_
      rw [crS hm (by omega), crO hk.1 (by omega) (by unfold btN; omega)]
      exact c2 _ (f1 e1 e2)
  refine e_X1_carry ?_
  refine u_X1_carry_0 ?_; unfold cm_X1_carry_0
  refine c1 (ns t) 0 0 (by omega) ⟨by decide, rfl, ?_, ?_⟩
  · unfold btN
    rw [Nat.zero_div]
  · unfold btN
    rw [Nat.zero_div]
theorem e_X1_addTo {vl : Nat → Nat} {r0 : Nat} {x1 : Int32} {x2 : Int32} {x3 : Int32} {z : ow_MS} {Q : ow_MS → Prop} (H : Tt (fun K _ => cm_X1_addTo_0 vl K x1 x2 x3 r0 z) Q) : Te (fun K => ce_X1_addTo vl K r0 x1 x2 x3 z) Q := w_te0 H
theorem tc_addTo {t m bg W p : Nat} {x : Int32} (ht : t < 256) (hm : m < 1024) (hp : tbP y) (hbg : y.2.1 43008 t = nI bg) (hW : vl 43011 = W) (hW2 : W < 2 ^ 31) (hix : bg + cpN (pc m) m < W) (h10 : y.1 43010 = nI p) (hp1 : 2 ≤ p) (hp2 : p ≤ 997) : Te (fun K => ce_X1_addTo vl K 43000 (nI t) (nI m) x y) (fun y1 => fr (fun g => g = 43011) y y1) := by
  have hnz : nI p ≠ 0 := fun h9 => by
    have := (nI_eq (a := p) (b := 0) (by omega) (by omega)).mp h9
    omega
  refine e_X1_addTo ?_; unfold cm_X1_addTo_0
  refine w_crI ch_43008 rfl ht hbg (w_crI ch_43005 rfl hm (hp m hm) ?_)
  rw [nI_add]
  exact w_crI (ch_43011.trans hW) rfl hix rfl (w_rdF h10 (w_nzI hnz (w_ctI (ch_43011.trans hW) rfl hix (w_some (fr_I rfl)))))
end IMG
