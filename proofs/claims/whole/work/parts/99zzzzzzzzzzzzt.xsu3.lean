/-! parting: what the class does -/
section XSW
variable {c : Nat} {N : Nat → Nat} {S : ow_NP} {x : Int32}
theorem mr_in_off : ∀ (d : Nat) (F : Nat → Int32) (v k : Nat), (∀ i, it N i v ≠ k) → mr_in N x d F v k = F k
  | 0, _, _, _, _ => rfl
  | d + 1, F, v, k, h => by
    show (if F v = -1 then mr_in N x d (su F v x) (N v) else F) k = F k
    by_cases e : F v = -1
    · rw [if_pos e, mr_in_off d _ (N v) k (fun i e9 => h (i + 1) ((it_add N v i 1).trans e9))]
      show (if k = v then x else F k) = F k
      rw [if_neg (fun e9 => h 0 e9.symm)]
    · rw [if_neg e]
theorem mr_in_val : ∀ (d : Nat) (F : Nat → Int32) (v k : Nat), mr_in N x d F v k = F k ∨ mr_in N x d F v k = x
  | 0, _, _, _ => Or.inl rfl
  | d + 1, F, v, k => by
    show (if F v = -1 then mr_in N x d (su F v x) (N v) else F) k = F k ∨ (if F v = -1 then mr_in N x d (su F v x) (N v) else F) k = x
    by_cases e : F v = -1
    · rw [if_pos e]
      rcases mr_in_val d (su F v x) (N v) k with h | h
      · rw [h]
        show (if k = v then x else F k) = F k ∨ (if k = v then x else F k) = x
        by_cases e1 : k = v
        · exact Or.inr (if_pos e1)
        · exact Or.inl (if_neg e1)
      · exact Or.inr h
    · rw [if_neg e]
      exact Or.inl rfl
theorem bj_vn (h : vn c S) : bjN c S.1 := ⟨fun k hk => (h k hk).1, fun j k hj hk e => by
  have h1 := (h j hj).2.2.1
  rw [e, (h k hk).2.2.1] at h1
  exact h1.symm⟩
theorem rg_sy (hb : bjN c N) {k j : Nat} (hk : k < 2 * c) (h : ∃ i, it N i k = j) : ∃ i, it N i j = k := by
  obtain ⟨i, h4⟩ := h
  obtain ⟨n, n1, n2, n3, n4⟩ := pos_ex hb hk
  obtain ⟨i2, j1, j2⟩ := n4 i
  refine ⟨n - i2, ?_⟩
  rw [← h4, j2, ← it_add, Nat.sub_add_cancel (Nat.le_of_lt j1), n2]
theorem rg_tr {k j l : Nat} (h : ∃ i, it N i k = j) (h2 : ∃ i, it N i j = l) : ∃ i, it N i k = l := by
  obtain ⟨i, h⟩ := h
  obtain ⟨i2, h2⟩ := h2
  exact ⟨i2 + i, by rw [it_add, h, h2]⟩
def rgI (c : Nat) (N : Nat → Nat) (n : Nat) (t : (Nat → Int32) × Nat) : Prop := t.2 ≤ n ∧ (∀ k, k < 2 * c → t.1 k ≠ -1 → (∃ r, r < t.2 ∧ t.1 k = nI r) ∧ ∀ j, j < 2 * c → (t.1 j = t.1 k ↔ ∃ i, it N i k = j)) ∧ ∀ k, k < n → k < 2 * c → t.1 k ≠ -1
theorem rg_inv (h : vn c S) (hc : c ≤ 12) : ∀ n, n ≤ 2 * c → rgI c S.1 n (mr_out S.1 (2 * c) (fun _ => -1) n)
  | 0, _ => ⟨Nat.le_refl _, fun k _ h9 => absurd rfl h9, fun k hk => absurd hk (Nat.not_lt_zero _)⟩
  | n + 1, hn => by
    obtain ⟨i1, i3, i4⟩ := rg_inv h hc n (by omega)
    have hb := bj_vn h
    have hn2 : n < 2 * c := by omega
    rw [mr_out]
    generalize mr_out S.1 (2 * c) (fun _ => -1) n = t at i1 i3 i4
    by_cases e : t.1 n = -1
    · rw [if_pos e]
      have hx : nI t.2 ≠ -1 := nI_nm1 (by omega)
      have cl : ∀ k, k < 2 * c → (∃ i, it S.1 i n = k) → t.1 k = -1 := fun k hk hr => by
        refine Classical.byContradiction (fun h9 => h9 ?_)
        rw [← ((i3 k hk h9).2 n hn2).mpr (rg_sy hb hn2 hr), e]
      obtain ⟨m, hm1, hm2⟩ := ring_ex h hn2
      have on : ∀ k, k < 2 * c → (∃ i, it S.1 i n = k) → mr_in S.1 (nI t.2) (2 * c) t.1 n k = nI t.2 := fun k hk hr => by
        rcases mr_in_val (N := S.1) (x := nI t.2) (2 * c) t.1 n k with h9 | h9
        · exfalso
          have hm3 := mr_in_mk h hn2 hm2 hx (2 * c) 0 t.1 (Nat.zero_le _) (by omega) (fun _ => Or.inr trivial) (fun j _ hj => cl _ (it_lt h hn2 j) ⟨j, rfl⟩) (fun j hj => absurd hj (Nat.not_lt_zero _)) k
          obtain ⟨i, hi⟩ := hr
          obtain ⟨j2, j3, j4⟩ := it_mod hm2 i
          exact (hm3.mp (h9.trans (cl k hk ⟨i, hi⟩))).2 j2 (Nat.zero_le _) j3 (hi.symm.trans j4)
        · exact h9
      have off : ∀ k, ¬ (∃ i, it S.1 i n = k) → mr_in S.1 (nI t.2) (2 * c) t.1 n k = t.1 k := fun k hr => mr_in_off _ _ _ _ (fun i e9 => hr ⟨i, e9⟩)
      refine ⟨by show t.2 + 1 ≤ n + 1; omega, fun k hk hne => ?_, fun k hk hk2 => ?_⟩
      · have hne : mr_in S.1 (nI t.2) (2 * c) t.1 n k ≠ -1 := hne
        show (∃ r, r < t.2 + 1 ∧ mr_in S.1 (nI t.2) (2 * c) t.1 n k = nI r) ∧ ∀ j, j < 2 * c → (mr_in S.1 (nI t.2) (2 * c) t.1 n j = mr_in S.1 (nI t.2) (2 * c) t.1 n k ↔ ∃ i, it S.1 i k = j)
        by_cases hr : ∃ i, it S.1 i n = k
        · rw [on k hk hr]
          refine ⟨⟨t.2, by omega, rfl⟩, fun j hj => ⟨fun e9 => ?_, fun e9 => on j hj (rg_tr hr e9)⟩⟩
          refine rg_tr (rg_sy hb hn2 hr) (Classical.byContradiction (fun h9 => ?_))
          rw [off j h9] at e9
          obtain ⟨⟨r, r1, r2⟩, _⟩ := i3 j hj (by rw [e9]; exact hx)
          have := nI_inj9 (by omega) (by omega) (r2.symm.trans e9)
          omega
        · rw [off k hr] at hne ⊢
          obtain ⟨⟨r, r1, r2⟩, k3⟩ := i3 k hk hne
          refine ⟨⟨r, by omega, r2⟩, fun j hj => ?_⟩
          by_cases hj2 : ∃ i, it S.1 i n = j
          · rw [on j hj hj2]
            refine ⟨fun e9 => ?_, fun e9 => absurd (rg_tr hj2 (rg_sy hb hk e9)) hr⟩
            have := nI_inj9 (by omega) (by omega) (r2.symm.trans e9.symm)
            omega
          · rw [off j hj2]
            exact k3 j hj
      · show mr_in S.1 (nI t.2) (2 * c) t.1 n k ≠ -1
        by_cases hr : ∃ i, it S.1 i n = k
        · rw [on k hk2 hr]
          exact hx
        · rw [off k hr]
          refine i4 k ?_ hk2
          rcases Nat.lt_or_ge k n with q | q
          · exact q
          · exact absurd ⟨0, show n = k by omega⟩ hr
    · rw [if_neg e]
      refine ⟨by omega, i3, fun k hk hk2 => ?_⟩
      rcases Nat.lt_or_ge k n with q | q
      · exact i4 k q hk2
      · rw [show k = n by omega]
        exact e
/-- rings' marks are alike on one ring and there alone -/
theorem rg_iff (h : vn c S) (hc : c ≤ 12) {v w : Nat} (hv : v < 2 * c) (hw : w < 2 * c) : (np_rings c S.1).1 v = (np_rings c S.1).1 w ↔ ∃ i, it S.1 i v = w := by
  obtain ⟨_, i3, i4⟩ := rg_inv h hc (2 * c) (Nat.le_refl _)
  exact eq_comm.trans ((i3 v hv (i4 v hv hv)).2 w hw)
theorem pt_iff9 (hv : vn c S) (hc : c ≤ 12) {v w : Nat} (h1 : v < 2 * c) (h2 : w < 2 * c) : (np_parts c S.1).1 v = (np_parts c S.1).1 w ↔ ptN c S.1 v w := by
  refine ⟨fun e m hm => (parts_iff hv hc h1 h2).mp e (fun k => m v = m k) rfl (fun j hj e => e.trans (hm j hj).1.symm) (fun j hj e => e.trans (hm j hj).2.symm), fun h => ?_⟩
  have hcl := (parts_I hv hc).1
  have q := h (fun k => if (np_parts c S.1).1 k = (np_parts c S.1).1 v then 1 else 0) (fun k hk => by
    rw [(hcl k hk).1, (hcl k hk).2]
    exact ⟨rfl, rfl⟩)
  rw [if_pos rfl] at q
  by_cases e : (np_parts c S.1).1 w = (np_parts c S.1).1 v
  · exact e.symm
  · rw [if_neg e] at q
    exact absurd q (by decide)
theorem ex_np (S : ow_NP) (v w : Nat) : (np_exchange S v w).1 = exN S.1 v w := rfl
theorem ex_ex {v w : Nat} (h : v ≠ w) : exN (exN N v w) v w = N := by
  funext k
  by_cases e1 : k = w
  · rw [e1, exN_w, exN_v h]
  · by_cases e2 : k = v
    · rw [e2, exN_v h, exN_w]
    · rw [exN_o e2 e1, exN_o e2 e1]
theorem cnt_inj {P P' : Nat} (s : Nat → Nat) (h1 : ∀ i, i < P → s i < P') (h2 : ∀ i j, i < j → j < P → s i ≠ s j) : P ≤ P' := by
  rcases Nat.lt_or_ge P' P with q | q
  · obtain ⟨i, j, a1, a2, a3⟩ := ow_pig P' s (fun i hi => h1 i (by omega))
    exact absurd a3 (h2 i j a1 (by omega))
  · exact q
theorem pr_cnt (hv : vn c S) (hc : c ≤ 12) {v w : Nat} (h1 : v < 2 * c) (h2 : w < 2 * c) (hn : v ≠ w) (hp : ptN c S.1 v w) : (np_parts c S.1).2 < (np_parts c (np_exchange S v w).1).2 ↔ ¬ ptN c (exN S.1 v w) v w := by
  have hv' := vn_exchange hv h1 h2
  obtain ⟨i1, i2, i3, i4⟩ := parts_I hv hc
  obtain ⟨j1, j2, j3, j4⟩ := parts_I hv' hc
  have f1 : ∀ a b, a < 2 * c → b < 2 * c → ((np_parts c S.1).1 a = (np_parts c S.1).1 b ↔ ptN c S.1 a b) := fun a b ha hb => pt_iff9 hv hc ha hb
  have f2 : ∀ a b, a < 2 * c → b < 2 * c → ((np_parts c (np_exchange S v w).1).1 a = (np_parts c (np_exchange S v w).1).1 b ↔ ptN c (exN S.1 v w) a b) := fun a b ha hb => pt_iff9 hv' hc ha hb
  generalize (np_parts c S.1).1 = F at i1 i2 i3 f1
  generalize (np_parts c (np_exchange S v w).1).1 = F' at j1 j2 j3 f2
  generalize (np_parts c S.1).2 = P at i2 i3 i4
  generalize (np_parts c (np_exchange S v w).1).2 = P' at j2 j3 j4
  constructor
  · intro hlt h9
    have back : ∀ a b, ptN c S.1 a b → ptN c (exN S.1 v w) a b := fun a b p => pt_ex h1 h2 h9 (by rw [ex_ex hn]; exact p)
    have ch : ∀ r, ∃ q, r < P' → q < P ∧ ∃ k, k < 2 * c ∧ F' k = nI r ∧ F k = nI q := fun r => by
      by_cases hr : r < P'
      · obtain ⟨k, k1, k2⟩ := j3 r hr
        obtain ⟨q, q1, q2⟩ := i2 k k1
        exact ⟨q, fun _ => ⟨q1, k, k1, k2, q2⟩⟩
      · exact ⟨0, fun h => absurd h hr⟩
    obtain ⟨s, hs⟩ := Classical.axiomOfChoice ch
    have := cnt_inj s (fun i hi => (hs i hi).1) (fun i j a1 a2 a3 => by
      obtain ⟨_, k, k1, k2, k3⟩ := hs i (by omega)
      obtain ⟨_, l, l1, l2, l3⟩ := hs j a2
      have e : F' k = F' l := (f2 k l k1 l1).mpr (back _ _ ((f1 k l k1 l1).mp (by rw [k3, l3, a3])))
      have := nI_inj9 (by omega) (by omega) (k2.symm.trans (e.trans l2))
      omega)
    omega
  · intro h9
    have ch : ∀ r, ∃ q, (r < P → q < P' ∧ ∃ k, k < 2 * c ∧ F k = nI r ∧ F' k = nI q ∧ (F v = nI r → k = v)) ∧ (r = P → q < P' ∧ F' w = nI q) := fun r => by
      by_cases hr : r < P
      · by_cases hv9 : F v = nI r
        · obtain ⟨q, q1, q2⟩ := j2 v h1
          exact ⟨q, fun _ => ⟨q1, v, h1, hv9, q2, fun _ => rfl⟩, fun h => by omega⟩
        · obtain ⟨k, k1, k2⟩ := i3 r hr
          obtain ⟨q, q1, q2⟩ := j2 k k1
          exact ⟨q, fun _ => ⟨q1, k, k1, k2, q2, fun h => absurd h hv9⟩, fun h => by omega⟩
      · obtain ⟨q, q1, q2⟩ := j2 w h2
        exact ⟨q, fun h => absurd h hr, fun _ => ⟨q1, q2⟩⟩
    obtain ⟨s, hs⟩ := Classical.axiomOfChoice ch
    refine cnt_inj (P := P + 1) s (fun i hi => ?_) (fun i j a1 a2 a3 => ?_)
    · rcases Nat.lt_or_ge i P with q | q
      · exact ((hs i).1 q).1
      · exact ((hs i).2 (by omega)).1
    · obtain ⟨_, k, k1, k2, k3, k4⟩ := (hs i).1 (by omega)
      rcases Nat.lt_or_ge j P with q | q
      · obtain ⟨_, l, l1, l2, l3, l4⟩ := (hs j).1 q
        have e : F k = F l := (f1 k l k1 l1).mpr (pt_ex h1 h2 hp ((f2 k l k1 l1).mp (by rw [k3, l3, a3])))
        have := nI_inj9 (by omega) (by omega) (k2.symm.trans (e.trans l2))
        omega
      · obtain ⟨_, l3⟩ := (hs j).2 (by omega)
        have p2 := (f2 k w k1 h2).mp (by rw [k3, l3, a3])
        have e : F v = F k := (f1 v k h1 k1).mpr (pt_tr hp (pt_sy (pt_ex h1 h2 hp p2)))
        rw [k4 (e.trans k2)] at p2
        exact h9 p2
theorem po_iff (hv : vn c S) (hc : c ≤ 12) {v w : Nat} (h1 : v < 2 * c) (h2 : w < 2 * c) (hn : v ≠ w) : po_P c S v w = true ↔ prN c S.1 v w := by
  have hpt : (∃ i, it S.1 i v = w) → ptN c S.1 v w := fun ⟨i, e⟩ => by
    rw [← e]
    exact (pt_it (bj_vn hv) i v h1).1
  constructor
  · intro h
    obtain ⟨a1, a2⟩ := of_decide_eq_true h
    have r := (rg_iff hv hc h1 h2).mp a1
    exact ⟨h1, h2, hn, r, (pr_cnt hv hc h1 h2 hn (hpt r)).mp a2⟩
  · rintro ⟨_, _, _, r, p⟩
    exact decide_eq_true ⟨(rg_iff hv hc h1 h2).mpr r, (pr_cnt hv hc h1 h2 hn (hpt r)).mpr p⟩
theorem po_w_no {P : Nat → Bool} : ∀ (d w : Nat), po_w P d w = none → ∀ b, w ≤ b → b < w + d → P b = false
  | 0, _, _, _, _, _ => by omega
  | d + 1, w, h, b, b1, b2 => by
    have h : (if P w then some w else po_w P d (w + 1)) = none := h
    by_cases e : P w = true
    · rw [if_pos e] at h
      cases h
    · rw [if_neg e] at h
      rcases Nat.eq_or_lt_of_le b1 with q | q
      · rw [← q]
        exact Bool.eq_false_iff.mpr e
      · exact po_w_no d (w + 1) h b q (by omega)
theorem po_v_no {P : Nat → Nat → Bool} {n : Nat} : ∀ (d v : Nat), po_v P n d v = none → ∀ a b, v ≤ a → a < v + d → a < b → b < n → P a b = false
  | 0, _, _, _, _, _, _, _, _ => by omega
  | d + 1, v, h, a, b, a1, a2, a3, a4 => by
    have h : po_in P n d v (po_v P n d) (po_w (P v) (n - (v + 1)) (v + 1)) = none := h
    cases e : po_w (P v) (n - (v + 1)) (v + 1) with
    | none =>
      rw [e] at h
      rcases Nat.eq_or_lt_of_le a1 with q | q
      · rw [← q]
        exact po_w_no _ _ e b (by omega) (by omega)
      · exact po_v_no d (v + 1) h a b q (by omega) a3 a4
    | some w =>
      rw [e] at h
      cases h
theorem po_v_lt {P : Nat → Nat → Bool} {n : Nat} : ∀ (d v : Nat) {q : Nat × Nat}, po_v P n d v = some q → q.1 < q.2
  | 0, _, _, h => by cases h
  | d + 1, v, q, h => by
    have h : po_in P n d v (po_v P n d) (po_w (P v) (n - (v + 1)) (v + 1)) = some q := h
    cases e : po_w (P v) (n - (v + 1)) (v + 1) with
    | none =>
      rw [e] at h
      exact po_v_lt d (v + 1) h
    | some w =>
      rw [e] at h
      have h : some (v, w) = some q := h
      cases h
      exact (po_w_in _ _ e).1
theorem once_ir (hv : vn c S) (hc : c ≤ 12) (h : np_once c S = none) : irN c S.1 := by
  intro v w hp
  have key : ∀ a b, a < b → b < 2 * c → ¬ prN c S.1 a b := fun a b a1 a2 p => by
    have := po_v_no _ _ h a b (by omega) (by omega) a1 a2
    rw [(po_iff hv hc (by omega) a2 (by omega)).mpr p] at this
    cases this
  rcases Nat.lt_trichotomy v w with q | q | q
  · exact key v w q hp.2.1 hp
  · exact hp.2.2.1 q
  · exact key w v q hp.1 (pr_sy (bj_vn hv) hp)
theorem all_st (hc : c ≤ 12) : ∀ (d : Nat) (S : ow_NP), vn c S → (∃ n, stN c n S.1 (np_all c d S).1) ∧ (c < (np_parts c S.1).2 + d → irN c (np_all c d S).1)
  | 0, S, hv => ⟨⟨0, rfl⟩, fun h => by have := parts_le hv hc; omega⟩
  | d + 1, S, hv => by
    rw [np_all]
    cases e : np_once c S with
    | none =>
      rw [if_neg (by rw [Option.isSome_none]; decide)]
      exact ⟨⟨0, rfl⟩, fun _ => once_ir hv hc e⟩
    | some q =>
      rw [if_pos Option.isSome_some]
      have h1 := po_v_in (2 * c) 0 (by omega) e
      have h2 := po_v_lt _ _ e
      have h3 := po_v_P _ _ e
      have hp := (po_iff hv hc h1.1 h1.2 (by omega)).mp h3
      have h4 := (of_decide_eq_true h3).2
      obtain ⟨⟨n, n1⟩, n2⟩ := all_st hc d (np_exchange S q.1 q.2) (vn_exchange hv h1.1 h1.2)
      exact ⟨⟨n + 1, q.1, q.2, hp, n1⟩, fun h => n2 (by omega)⟩
/-- the class parts as long as a part can be parted -/
theorem all_end (hv : vn c S) (hc : c ≤ 12) : (∃ n, stN c n S.1 (np_all c 12 S).1) ∧ irN c (np_all c 12 S).1 := by
  obtain ⟨h1, h2⟩ := all_st hc 12 S hv
  refine ⟨h1, h2 ?_⟩
  rcases Nat.eq_zero_or_pos c with e | e
  · omega
  · obtain ⟨r, r1, _⟩ := (parts_I hv hc).2.1 0 (by omega)
    omega
end XSW
