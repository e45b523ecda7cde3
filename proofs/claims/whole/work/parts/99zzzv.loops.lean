/-! the loops of the reference's states, counted -/
theorem sum_er {g : Nat → Nat} {a : Nat} : ∀ {l : List Nat}, a ∈ l → (l.map g).sum = g a + ((l.erase a).map g).sum
  | [], h => by cases h
  | b :: l, h => by
    by_cases hb : b = a
    · rw [hb, List.erase_cons_head, List.map_cons, List.sum_cons]
    · rw [List.erase_cons_tail (by simpa using hb), List.map_cons, List.map_cons, List.sum_cons, List.sum_cons, sum_er (l := l) (by
        rcases List.mem_cons.mp h with h9 | h9
        · exact absurd h9.symm hb
        · exact h9)]
      omega
theorem sum_nd {g : Nat → Nat} : ∀ {l1 l2 : List Nat}, l1.Nodup → l2.Nodup → (∀ a, a ∈ l1 ↔ a ∈ l2) → (l1.map g).sum = (l2.map g).sum
  | [], l2, _, _, h => by
    cases l2 with
    | nil => rfl
    | cons b l => exact absurd ((h b).mpr List.mem_cons_self) List.not_mem_nil
  | a :: l1, l2, h1, h2, h => by
    have ha : a ∈ l2 := (h a).mp List.mem_cons_self
    obtain ⟨n1, n2⟩ := List.nodup_cons.mp h1
    rw [List.map_cons, List.sum_cons, sum_er ha, sum_nd n2 (h2.erase a) (fun b => by
      rw [h2.mem_erase_iff]
      constructor
      · intro hb
        exact ⟨fun e => n1 (by rw [← e]; exact hb), (h b).mp (List.mem_cons_of_mem _ hb)⟩
      · rintro ⟨hne, hb⟩
        rcases List.mem_cons.mp ((h b).mpr hb) with h9 | h9
        · exact absurd h9 hne
        · exact h9)]
def smT (t : Nat → Nat) : Nat → Nat
  | 0 => 0
  | x + 1 => smT t x + t x
theorem smT_ev {t : Nat → Nat} {j : Nat} : ∀ c, j < c → (∀ x, x < c → x ≠ j → t x % 2 = 0) → smT t c % 2 = t j % 2
  | 0, h, _ => by omega
  | c + 1, h, hx => by
    show (smT t c + t c) % 2 = t j % 2
    by_cases hj : j = c
    · have all : ∀ d, d ≤ c → smT t d % 2 = 0 := by
        intro d
        induction d with
        | zero => intro _; rfl
        | succ d ih =>
          intro hd
          have := ih (by omega)
          have := hx d (by omega) (by omega)
          show (smT t d + t d) % 2 = 0
          omega
      have := all c (Nat.le_refl _)
      rw [hj]
      omega
    · have := smT_ev c (by omega) (fun x h1 h2 => hx x (by omega) h2)
      have := hx c (by omega) (fun e => hj e.symm)
      omega
theorem smT_map {t : Nat → Nat} : ∀ c, smT t c = ((List.range c).map t).sum
  | 0 => rfl
  | c + 1 => by
    show smT t c + t c = _
    rw [List.range_succ, List.map_append, List.sum_append_nat, smT_map c]
    simp
/-- the visit over of a crossing -/
def ovx (A : rn_L) (x : Nat) : Nat := ((List.range A.flatten.length).find? (fun v => decide (crs A v = x) && decide (uns A v = 0))).getD 0
theorem ovx_of {A : rn_L} {c x : Nat} (hok : okF A.flatten c) (hx : x < c) : ovx A x < A.flatten.length ∧ crs A (ovx A x) = x ∧ uns A (ovx A x) = 0 := by
  unfold ovx
  obtain ⟨t, t1, t2, t3⟩ := ok_u hok hx 0 (by omega)
  cases hf : (List.range A.flatten.length).find? (fun v => decide (crs A v = x) && decide (uns A v = 0)) with
  | none =>
    have := List.find?_eq_none.mp hf t (List.mem_range.mpr t1)
    rw [decide_eq_true t2, decide_eq_true t3] at this
    exact absurd rfl this
  | some u =>
    have h1 := List.find?_some hf
    have h2 := List.mem_range.mp (List.mem_of_find?_eq_some hf)
    rw [Bool.and_eq_true, decide_eq_true_iff, decide_eq_true_iff] at h1
    exact ⟨h2, h1.1, h1.2⟩
theorem ovx_eq {A : rn_L} {c v : Nat} (hok : okF A.flatten c) (hv : v < A.flatten.length) (h0 : uns A v = 0) : ovx A (crs A v) = v := by
  have hx : crs A v < c := ((hok.2 _).mp (List.mem_of_getElem? (vAt_of hv))).1
  obtain ⟨h1, h2, h3⟩ := ovx_of hok hx
  refine nodup_at hok.1 (vAt_of h1) ?_
  rw [vAt_of hv]
  congr 1
  exact Prod.ext h2.symm (h0.trans h3.symm)
/-- the four gaps at a crossing -/
def qE (A : rn_L) : En4 := (fun x => rn_pv A (ovx A x), fun x => ovx A x, fun x => rn_pv A (mtf A (ovx A x)), fun x => mtf A (ovx A x))
theorem qE_ends {A : rn_L} {c : Nat} (hok : okF A.flatten c) (hc : c ≤ 40) : ends (qE A) c A.flatten.length := by
  intro x hx
  have hd := wkF_ok (okF_wk hc hok)
  obtain ⟨h1, -, -⟩ := ovx_of hok hx
  have h2 := mtf_lt hd h1
  exact ⟨pv_lt h1, h1, pv_lt h2, h2⟩
theorem qE_evn {A : rn_L} {c : Nat} (hok : okF A.flatten c) (hc : c ≤ 40) : evn (qE A) c := by
  have hF := okF_wk hc hok
  have hd := wkF_ok hF
  intro K j hj hx
  have cnt : ∀ l, ((if K (rn_pv A (ovx A j)) = l then 1 else 0) + (if K (ovx A j) = l then 1 else 0) + (if K (rn_pv A (mtf A (ovx A j))) = l then 1 else 0) + (if K (mtf A (ovx A j)) = l then 1 else 0)) % 2 = 0 := by
    intro l
    let ind : Nat → Nat := fun v => if K v = l then 1 else 0
    let g : Nat → Nat := fun v => ind v + ind (rn_pv A v)
    let t : Nat → Nat := fun x => g (ovx A x) + g (mtf A (ovx A x))
    have s1 : ((List.range A.flatten.length).map g).sum % 2 = 0 := by
      have a1 : ((List.range A.flatten.length).map (fun v => ind (rn_pv A v))).sum = ((List.range A.flatten.length).map ind).sum := by
        have : ((List.range A.flatten.length).map (fun v => ind (rn_pv A v))) = (((List.range A.flatten.length).map (rn_pv A)).map ind) := by rw [List.map_map]; rfl
        rw [this]
        refine sum_nd (nodup_map List.nodup_range (fun a b ha hb e => ?_)) List.nodup_range (fun v => ?_)
        · have := congrArg (rn_nx A) e
          rw [nx_pv (List.mem_range.mp ha), nx_pv (List.mem_range.mp hb)] at this
          exact this
        · rw [List.mem_range]
          constructor
          · intro hv
            obtain ⟨w, hw, e⟩ := List.mem_map.mp hv
            rw [← e]
            exact pv_lt (List.mem_range.mp hw)
          · intro hv
            exact List.mem_map.mpr ⟨rn_nx A v, List.mem_range.mpr (rn_nx_lt hv), pv_nx hv⟩
      have a2 : ∀ l : List Nat, (l.map g).sum = (l.map ind).sum + (l.map (fun v => ind (rn_pv A v))).sum := by
        intro l
        induction l with
        | nil => rfl
        | cons a l ih =>
          rw [List.map_cons, List.map_cons, List.map_cons, List.sum_cons, List.sum_cons, List.sum_cons, ih]
          show ind a + ind (rn_pv A a) + _ = _
          omega
      rw [a2, a1]
      omega
    have s2 : ((List.range A.flatten.length).map g).sum = smT t c := by
      rw [smT_map]
      have b1 : ∀ l : List Nat, (l.map t).sum = (((l.map (ovx A)) ++ (l.map (fun x => mtf A (ovx A x)))).map g).sum := by
        intro l
        rw [List.map_append, List.sum_append_nat]
        induction l with
        | nil => rfl
        | cons a l ih =>
          rw [List.map_cons, List.map_cons, List.map_cons, List.map_cons, List.map_cons, List.sum_cons, List.sum_cons, List.sum_cons, ih]
          show g (ovx A a) + g (mtf A (ovx A a)) + _ = _
          omega
      rw [b1]
      refine sum_nd List.nodup_range ?_ (fun v => ?_)
      · rw [List.nodup_append]
        refine ⟨nodup_map List.nodup_range (fun a b ha hb e => ?_), nodup_map List.nodup_range (fun a b ha hb e => ?_), fun v hv w hw e => ?_⟩
        · have h1 := ovx_of hok (List.mem_range.mp ha)
          have h2 := ovx_of hok (List.mem_range.mp hb)
          rw [← h1.2.1, e, h2.2.1]
        · have h1 := ovx_of hok (List.mem_range.mp ha)
          have h2 := ovx_of hok (List.mem_range.mp hb)
          have e : mtf A (ovx A a) = mtf A (ovx A b) := e
          rw [← h1.2.1, ← crs_mtf hd h1.1, e, crs_mtf hd h2.1, h2.2.1]
        · obtain ⟨a, ha, ea⟩ := List.mem_map.mp hv
          obtain ⟨b, hb, eb⟩ := List.mem_map.mp hw
          have h1 := ovx_of hok (List.mem_range.mp ha)
          have h2 := ovx_of hok (List.mem_range.mp hb)
          -- an over visit is no mate of one
          have e9 : ovx A a = mtf A (ovx A b) := by rw [ea, eb, e]
          have hm := mtf_ne hd h2.1
          refine hm (nodup_at hok.1 (vAt_of (mtf_lt hd h2.1)) ?_)
          rw [vAt_of h2.1]
          congr 1
          refine Prod.ext (crs_mtf hd h2.1).symm ?_
          show uns A (ovx A b) = uns A (mtf A (ovx A b))
          rw [h2.2.2, ← e9, h1.2.2]
      · rw [List.mem_range, List.mem_append]
        constructor
        · intro hv
          have hxv : crs A v < c := ((hok.2 _).mp (List.mem_of_getElem? (vAt_of hv))).1
          by_cases h0 : uns A v = 0
          · exact Or.inl (List.mem_map.mpr ⟨crs A v, List.mem_range.mpr hxv, ovx_eq hok hv h0⟩)
          · refine Or.inr (List.mem_map.mpr ⟨crs A v, List.mem_range.mpr hxv, ?_⟩)
            have e1 := ovx_eq hok (mtf_lt hd hv) (mtf_uns hF hv h0)
            rw [crs_mtf hd hv] at e1
            show mtf A (ovx A (crs A v)) = v
            rw [e1, mtf_mtf hd hv]
        · rintro (h9 | h9)
          · obtain ⟨a, ha, ea⟩ := List.mem_map.mp h9
            rw [← ea]
            exact (ovx_of hok (List.mem_range.mp ha)).1
          · obtain ⟨a, ha, ea⟩ := List.mem_map.mp h9
            rw [← ea]
            exact mtf_lt hd (ovx_of hok (List.mem_range.mp ha)).1
    have s3 : smT t c % 2 = t j % 2 := by
      refine smT_ev c hj (fun x hxc hxj => ?_)
      have h9 : ∀ a b, K a = K b → ind a = ind b := fun a b e => by
        show (if K a = l then 1 else 0) = if K b = l then 1 else 0
        rw [e]
      show (ind (ovx A x) + ind (rn_pv A (ovx A x)) + (ind (mtf A (ovx A x)) + ind (rn_pv A (mtf A (ovx A x))))) % 2 = 0
      rcases hx x hxc hxj with ⟨e1, e2⟩ | ⟨e1, e2⟩
      · have f1 := h9 _ _ e1
        have f2 := h9 _ _ e2
        have f1 : ind (rn_pv A (ovx A x)) = ind (mtf A (ovx A x)) := f1
        have f2 : ind (rn_pv A (mtf A (ovx A x))) = ind (ovx A x) := f2
        omega
      · have f1 := h9 _ _ e1
        have f2 := h9 _ _ e2
        have f1 : ind (rn_pv A (ovx A x)) = ind (rn_pv A (mtf A (ovx A x))) := f1
        have f2 : ind (ovx A x) = ind (mtf A (ovx A x)) := f2
        omega
    have s4 : t j % 2 = 0 := by rw [← s3, ← s2]; exact s1
    have s4 : (ind (ovx A j) + ind (rn_pv A (ovx A j)) + (ind (mtf A (ovx A j)) + ind (rn_pv A (mtf A (ovx A j))))) % 2 = 0 := s4
    show (ind (rn_pv A (ovx A j)) + ind (ovx A j) + ind (rn_pv A (mtf A (ovx A j))) + ind (mtf A (ovx A j))) % 2 = 0
    omega
  show (K (rn_pv A (ovx A j)) = K (ovx A j) ∧ K (rn_pv A (mtf A (ovx A j))) = K (mtf A (ovx A j))) ∨ (K (rn_pv A (ovx A j)) = K (rn_pv A (mtf A (ovx A j))) ∧ K (ovx A j) = K (mtf A (ovx A j))) ∨ (K (rn_pv A (ovx A j)) = K (mtf A (ovx A j)) ∧ K (ovx A j) = K (rn_pv A (mtf A (ovx A j))))
  generalize K (rn_pv A (ovx A j)) = a at *
  generalize K (ovx A j) = b at *
  generalize K (rn_pv A (mtf A (ovx A j))) = cc at *
  generalize K (mtf A (ovx A j)) = d at *
  by_cases hab : a = b
  · by_cases hcd : cc = d
    · exact Or.inl ⟨hab, hcd⟩
    · exfalso
      have := cnt cc
      rw [hab, if_pos (rfl : cc = cc), if_neg (show ¬ d = cc from fun e => hcd e.symm)] at this
      by_cases hbc : b = cc
      · rw [if_pos hbc] at this; omega
      · rw [if_neg hbc] at this; omega
  · by_cases hac : a = cc
    · refine Or.inr (Or.inl ⟨hac, ?_⟩)
      have := cnt b
      rw [if_neg hab, if_pos (rfl : b = b), if_neg (show ¬ cc = b from fun e => hab (hac.trans e))] at this
      by_cases hdb : d = b
      · exact hdb.symm
      · rw [if_neg hdb] at this; omega
    · have h1 := cnt a
      rw [if_pos (rfl : a = a), if_neg (show ¬ b = a from fun e => hab e.symm), if_neg (show ¬ cc = a from fun e => hac e.symm)] at h1
      by_cases hda : d = a
      · refine Or.inr (Or.inr ⟨hda.symm, ?_⟩)
        have := cnt b
        rw [if_neg hab, if_pos (rfl : b = b), if_neg (show ¬ d = b from fun e => hab (hda.symm.trans e))] at this
        by_cases hcb : cc = b
        · exact hcb.symm
        · rw [if_neg hcb] at this; omega
      · rw [if_neg hda] at h1; omega
/-! the machine's loops -/
theorem bit_256 : ∀ a : Fin 16, ∀ b : Fin 16, ∀ x : Fin 8, ((nI (16 * a.val + b.val) >>> (nI x.val &&& 31)) &&& 1) = nI (btN (16 * a.val + b.val) x.val) := by decide +kernel
theorem bit_nI {s x : Nat} (hs : s < 256) (hx : x < 8) : ((nI s >>> (nI x &&& 31)) &&& 1) = nI (btN s x) := by
  have := bit_256 ⟨s / 16, by omega⟩ ⟨s % 16, by omega⟩ ⟨x, hx⟩
  rw [show 16 * (s / 16) + s % 16 = s by omega] at this
  exact this
theorem lpA_j2 {A : rn_L} {sg : Nat → Bool} {st : Int32} : ∀ (V v : Nat), v < V → uns A v = 0 → (alS sg st (crs A v) = true → rt (lpA A sg st V) (rn_pv A v) = rt (lpA A sg st V) (mtf A v) ∧ rt (lpA A sg st V) (rn_pv A (mtf A v)) = rt (lpA A sg st V) v) ∧ (alS sg st (crs A v) = false → rt (lpA A sg st V) (rn_pv A v) = rt (lpA A sg st V) (rn_pv A (mtf A v)) ∧ rt (lpA A sg st V) v = rt (lpA A sg st V) (mtf A v))
  | 0, v, h, _ => by omega
  | V + 1, v, h, hu => by
    have hp := lpA_dn (A := A) (sg := sg) (st := st) V
    by_cases hv : v = V
    · subst hv
      have e : lpA A sg st (v + 1) = lpS A sg st v (lpA A sg st v) := rfl
      rw [e]
      unfold lpS
      rw [if_pos hu]
      refine ⟨fun h2 => ?_, fun h2 => ?_⟩
      · rw [if_pos h2]
        exact ⟨un_k (un_dn hp) (un_j hp), un_j (un_dn hp)⟩
      · rw [if_neg (by rw [h2]; decide)]
        exact ⟨un_k (un_dn hp) (un_j hp), un_j (un_dn hp)⟩
    · obtain ⟨i1, i2⟩ := lpA_j2 (sg := sg) (st := st) V v (by omega) hu
      exact ⟨fun h2 => ⟨lpS_k hp (i1 h2).1, lpS_k hp (i1 h2).2⟩, fun h2 => ⟨lpS_k hp (i2 h2).1, lpS_k hp (i2 h2).2⟩⟩
/-- the machine counts no more loops than there are -/
theorem rts_ell {A : rn_L} {c s : Nat} {sg : Nat → Bool} (hok : okF A.flatten c) (hc : c ≤ 8) (hs : s < 2 ^ c) : rtsN (lpA A sg (nI s) A.flatten.length) A.flatten.length ≤ ell (qE A) c A.flatten.length sg s := by
  have hs2 : s < 256 := Nat.lt_of_lt_of_le hs (two_mono (b := 8) hc)
  let p := lpA A sg (nI s) A.flatten.length
  have hp : dn p := lpA_dn _
  have e1 : rtsN p A.flatten.length = cN A.flatten.length (rt p) := by
    unfold rtsN cN
    congr 1
    refine List.filter_congr (fun x _ => ?_)
    rw [decide_eq_decide]
    constructor
    · intro h y hy e
      have := (rt_in hp y).2
      rw [e, rt_root h] at this
      omega
    · intro h
      refine Classical.byContradiction (fun hne => ?_)
      have h1 := rt_in hp x
      have hlt : rt p x < x := by
        rcases Nat.lt_or_ge (rt p x) x with h9 | h9
        · exact h9
        · have h2 : rt p x = x := by omega
          rw [h2] at h1
          exact absurd h1.1 hne
      exact h (rt p x) hlt (rt_root h1.1)
  have e2 : cN A.flatten.length (rt p) ≤ cN A.flatten.length (lab (qE A) c (mdS sg 0 s)) := by
    refine cN_mono (fun x y _ _ e => lab_min (K := rt p) (fun x hx => ?_) e)
    obtain ⟨o1, o2, o3⟩ := ovx_of hok hx
    obtain ⟨i1, i2⟩ := lpA_j2 (sg := sg) (st := nI s) A.flatten.length (ovx A x) o1 o3
    rw [o2] at i1 i2
    have hal : alS sg (nI s) x = decide (mdS sg 0 s x = 1) := by
      unfold alS mdS mB
      rw [bit_nI hs2 (by omega), if_neg (by omega)]
      have hb : btN s x = 0 ∨ btN s x = 1 := by unfold btN; omega
      rcases hb with hb | hb
      · rw [hb]
        cases sg x <;> rfl
      · rw [hb]
        cases sg x <;> rfl
    have hm : mdS sg 0 s x = 1 ∨ mdS sg 0 s x = 2 := by
      unfold mdS
      rw [if_neg (by omega)]
      exact mB_1
    refine ⟨fun h9 => ?_, fun h9 => ?_⟩
    · have h8 : mdS sg 0 s x = 1 := by omega
      exact i1 (by rw [hal]; exact decide_eq_true h8)
    · have h8 : mdS sg 0 s x ≠ 1 := by omega
      exact i2 (by rw [hal]; exact decide_eq_false h8)
  rw [e1]
  exact e2
/-- with all joins made the classes are the parts with visits -/
theorem ell_parts {A : rn_L} {c P : Nat} {M : Nat → Int32} {sg : Nat → Bool} (hok : okF A.flatten c) (hc : c ≤ 40) (hM : rn_SD A M P) (hM1 : ∀ k, k < A.length → M k ≠ -1) (hP : P ≤ 40) : ell2 (qE A) c A.flatten.length sg c 0 + eC A ≤ P := by
  have hF := okF_wk hc hok
  have hd := wkF_ok hF
  let L := lab (qE A) c (mdS sg c 0)
  have hS := lab_sat (q := qE A) (c := c) (m := mdS sg c 0)
  have all : ∀ v, v < A.flatten.length → L (rn_pv A v) = L v ∧ L (mtf A v) = L v := by
    intro v hv
    have hx : crs A v < c := ((hok.2 _).mp (List.mem_of_getElem? (vAt_of hv))).1
    have h3 : mdS sg c 0 (crs A v) = 3 := by unfold mdS; rw [if_pos hx]
    have h1 := (hS _ hx).1 (Or.inr h3)
    have h2 := (hS _ hx).2 (Or.inr h3)
    have h1 : L (rn_pv A (ovx A (crs A v))) = L (mtf A (ovx A (crs A v))) ∧ L (rn_pv A (mtf A (ovx A (crs A v)))) = L (ovx A (crs A v)) := h1
    have h2 : L (rn_pv A (ovx A (crs A v))) = L (rn_pv A (mtf A (ovx A (crs A v)))) ∧ L (ovx A (crs A v)) = L (mtf A (ovx A (crs A v))) := h2
    by_cases h0 : uns A v = 0
    · rw [ovx_eq hok hv h0] at h1 h2
      exact ⟨by rw [h1.1, ← h2.2], h2.2.symm⟩
    · have e1 := ovx_eq hok (mtf_lt hd hv) (mtf_uns hF hv h0)
      rw [crs_mtf hd hv] at e1
      rw [e1, mtf_mtf hd hv] at h1 h2
      exact ⟨by rw [← h2.1, h1.1], h2.2⟩
  -- a part's visits have one label
  have one : ∀ v w p, p < P → inP A M p v → inP A M p w → L v = L w := fun v w p hp hv hw => inP_one (f := L) hd hM hp (fun v hv => (all v hv.1).1) (fun v hv => (all v hv.1).2) hv hw
  let Pv := (List.range P).filter (fun p => decide (∃ v, v < A.flatten.length ∧ M (rn_c A v) = nI p))
  let Ce := (List.range A.length).filter (fun k => !decide (rn_b A k < rn_b A (k + 1)))
  have h1 : ell2 (qE A) c A.flatten.length sg c 0 ≤ Pv.length := by
    have hex : ∀ p, ∃ l, ∀ v, p < P → inP A M p v → L v = l := by
      intro p
      by_cases hp : ∃ v, p < P ∧ inP A M p v
      · obtain ⟨v, hp, hv⟩ := hp
        exact ⟨L v, fun w _ hw => one w v p hp hw hv⟩
      · exact ⟨0, fun v h1 h2 => absurd ⟨v, h1, h2⟩ hp⟩
    let lf : Nat → Nat := fun p => Classical.choose (hex p)
    refine cN_le ⟨Pv.map lf, by rw [List.length_map]; exact Nat.le_refl _, fun v hv => ?_⟩
    have hcc := (rn_c_in A v hv).1
    rcases hM.1 _ hcc with h9 | ⟨p, hp, e⟩
    · exact absurd h9 (hM1 _ hcc)
    · refine List.mem_map.mpr ⟨p, List.mem_filter.mpr ⟨List.mem_range.mpr hp, decide_eq_true ⟨v, hv, e⟩⟩, ?_⟩
      exact (Classical.choose_spec (hex p) v hp ⟨hv, e⟩).symm
  -- a circle is a part alone
  have alone : ∀ k b p, k < A.length → b < A.length → p < P → ¬ rn_b A k < rn_b A (k + 1) → M k = nI p → M b = nI p → b = k := by
    intro k b p hk hb hp hne e1 e2
    have := hM.2.2.1 k b p hp hk hb e1 e2 (fun x => x = k) rfl (fun x y hx hxy => by
      obtain ⟨v, w, hvw, ev, ew⟩ := hxy
      have hvl := (rn_mt_lt hvw).1
      obtain ⟨g1, g2, g3⟩ := rn_c_in A v hvl
      rw [ev, hx] at g2 g3
      omega)
    exact this
  have hmk : ∀ k, k < A.length → ∃ p, p < P ∧ M k = nI p := fun k hk => by
    rcases hM.1 k hk with h9 | h9
    · exact absurd h9 (hM1 k hk)
    · exact h9
  let mf : Nat → Nat := fun k => (M k).toNatClampNeg
  have h31 : ∀ p, p < P → p < 2 ^ 31 := fun p hp => by omega
  have mfe : ∀ k p, p < P → M k = nI p → mf k = p := fun k p hp e => by
    show (M k).toNatClampNeg = p
    rw [e]
    exact nI_clamp (h31 p hp)
  have hn : (Pv ++ Ce.map mf).Nodup := by
    rw [List.nodup_append]
    refine ⟨List.nodup_range.filter _, nodup_map (List.nodup_range.filter _) (fun k b hk hb e => ?_), fun p hp y hy e => ?_⟩
    · obtain ⟨k1, k2⟩ := List.mem_filter.mp hk
      obtain ⟨b1, b2⟩ := List.mem_filter.mp hb
      have k1 := List.mem_range.mp k1
      have b1 := List.mem_range.mp b1
      obtain ⟨p, hp, ep⟩ := hmk k k1
      obtain ⟨p2, hp2, ep2⟩ := hmk b b1
      have e : mf k = mf b := e
      rw [mfe k p hp ep, mfe b p2 hp2 ep2] at e
      have k2 : ¬ rn_b A k < rn_b A (k + 1) := fun h9 => by rw [decide_eq_true h9] at k2; exact absurd k2 (by decide)
      exact (alone k b p k1 b1 hp k2 ep (by rw [e]; exact ep2)).symm
    · obtain ⟨p1, p2⟩ := List.mem_filter.mp hp
      obtain ⟨v, hv, ev⟩ := of_decide_eq_true p2
      obtain ⟨k, hk, ek⟩ := List.mem_map.mp hy
      obtain ⟨k1, k2⟩ := List.mem_filter.mp hk
      have k1 := List.mem_range.mp k1
      have k2 : ¬ rn_b A k < rn_b A (k + 1) := fun h9 => by rw [decide_eq_true h9] at k2; exact absurd k2 (by decide)
      obtain ⟨p3, hp3, ep3⟩ := hmk k k1
      have e3 := mfe k p3 hp3 ep3
      have hcc := rn_c_in A v hv
      have hpp : p = p3 := by rw [e, ← ek, e3]
      have := alone k (rn_c A v) p3 k1 hcc.1 hp3 k2 ep3 (by rw [← hpp]; exact ev)
      rw [this] at hcc
      omega
  have := nodup_le (Pv ++ Ce.map mf) (List.range P) hn (fun p hp => by
    rcases List.mem_append.mp hp with h9 | h9
    · exact (List.mem_filter.mp h9).1
    · obtain ⟨k, hk, ek⟩ := List.mem_map.mp h9
      have k1 := List.mem_range.mp (List.mem_filter.mp hk).1
      obtain ⟨p3, hp3, ep3⟩ := hmk k k1
      rw [← ek, mfe k p3 hp3 ep3]
      exact List.mem_range.mpr hp3)
  rw [List.length_append, List.length_map, List.length_range] at this
  have hce : Ce.length = eC A := rfl
  omega
