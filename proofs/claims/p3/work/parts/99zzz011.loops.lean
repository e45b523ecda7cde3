section
/-! 99zzzv.loops -/
/-! the loops of the reference's states, counted -/
theorem sum_er {g : Nat → Nat} {a : Nat} : ∀ {l : List Nat}, a ∈ l → (l.map g).sum = g a + ((l.erase a).map g).sum
  | [], h => by cases h
  | b :: l, h => by
    by_cases hb : b = a
    · rw [hb, List.erase_cons_head, List.map_cons, List.sum_cons]
    · rw [List.erase_cons_tail (by simpa using hb), List.map_cons, List.map_cons, List.sum_cons, List.sum_cons, sum_er (l := l) (by
        rcases List.mem_cons.mp h with h9 | h9
        · exact absurd h9.symm hb
        · exact h9)]
      omega
theorem sum_nd {g : Nat → Nat} : ∀ {l1 l2 : List Nat}, l1.Nodup → l2.Nodup → (∀ a, a ∈ l1 ↔ a ∈ l2) → (l1.map g).sum = (l2.map g).sum
  | [], l2, _, _, h => by
    cases l2 with
    | nil => rfl
    | cons b l => exact absurd ((h b).mpr List.mem_cons_self) List.not_mem_nil
  | a :: l1, l2, h1, h2, h => by
    have ha : a ∈ l2 := (h a).mp List.mem_cons_self
    obtain ⟨n1, n2⟩ := List.nodup_cons.mp h1
    rw [List.map_cons, List.sum_cons, sum_er ha, sum_nd n2 (h2.erase a) (fun b => by
      rw [h2.mem_erase_iff]
      constructor
      · intro hb
        exact ⟨fun e => n1 (by rw [← e]; exact hb), (h b).mp (List.mem_cons_of_mem _ hb)⟩
      · rintro ⟨hne, hb⟩
        rcases List.mem_cons.mp ((h b).mpr hb) with h9 | h9
        · exact absurd h9 hne
        · exact h9)]
def smT (t : Nat → Nat) : Nat → Nat
  | 0 => 0
  | x + 1 => smT t x + t x
theorem smT_ev {t : Nat → Nat} {j : Nat} : ∀ c, j < c → (∀ x, x < c → x ≠ j → t x % 2 = 0) → smT t c % 2 = t j % 2
  | 0, h, _ => by omega
  | c + 1, h, hx => by
    show (smT t c + t c) % 2 = t j % 2
    by_cases hj : j = c
    · have all : ∀ d, d ≤ c → smT t d % 2 = 0 := by
        intro d
        induction d with
        | zero => intro _; rfl
        | succ d ih =>
          intro hd
          have := ih (by omega)
          have := hx d (by omega) (by omega)
          show (smT t d + t d) % 2 = 0
          omega
      have := all c (Nat.le_refl _)
      rw [hj]
      omega
    · have := smT_ev c (by omega) (fun x h1 h2 => hx x (by omega) h2)
      have := hx c (by omega) (fun e => hj e.symm)
      omega
theorem smT_map {t : Nat → Nat} : ∀ c, smT t c = ((List.range c).map t).sum
  | 0 => rfl
  | c + 1 => by
    show smT t c + t c = _
    rw [List.range_succ, List.map_append, List.sum_append_nat, smT_map c]
    simp
/-- the visit over of a crossing -/
def ovx (A : rn_L) (x : Nat) : Nat := ((List.range A.flatten.length).find? (fun v => decide (crs A v = x) && decide (uns A v = 0))).getD 0
theorem ovx_of {A : rn_L} {c x : Nat} (hok : okF A.flatten c) (hx : x < c) : ovx A x < A.flatten.length ∧ crs A (ovx A x) = x ∧ uns A (ovx A x) = 0 := by
  unfold ovx
  obtain ⟨t, t1, t2, t3⟩ := ok_u hok hx 0 (by omega)
  cases hf : (List.range A.flatten.length).find? (fun v => decide (crs A v = x) && decide (uns A v = 0)) with
  | none =>
    have := List.find?_eq_none.mp hf t (List.mem_range.mpr t1)
    rw [decide_eq_true t2, decide_eq_true t3] at this
    exact absurd rfl this
  | some u =>
    have h1 := List.find?_some hf
    have h2 := List.mem_range.mp (List.mem_of_find?_eq_some hf)
    rw [Bool.and_eq_true, decide_eq_true_iff, decide_eq_true_iff] at h1
    exact ⟨h2, h1.1, h1.2⟩
theorem ovx_eq {A : rn_L} {c v : Nat} (hok : okF A.flatten c) (hv : v < A.flatten.length) (h0 : uns A v = 0) : ovx A (crs A v) = v := by
  have hx : crs A v < c := ((hok.2 _).mp (List.mem_of_getElem? (vAt_of hv))).1
  obtain ⟨h1, h2, h3⟩ := ovx_of hok hx
  refine nodup_at hok.1 (vAt_of h1) ?_
  rw [vAt_of hv]
  congr 1
  exact Prod.ext h2.symm (h0.trans h3.symm)
/-- the four gaps at a crossing -/
def qE (A : rn_L) : En4 := (fun x => rn_pv A (ovx A x), fun x => ovx A x, fun x => rn_pv A (mtf A (ovx A x)), fun x => mtf A (ovx A x))
theorem qE_ends {A : rn_L} {c : Nat} (hok : okF A.flatten c) (hc : c ≤ 40) : ends (qE A) c A.flatten.length := by
  intro x hx
  have hd := wkF_ok (okF_wk hc hok)
  obtain ⟨h1, -, -⟩ := ovx_of hok hx
  have h2 := mtf_lt hd h1
  exact ⟨pv_lt h1, h1, pv_lt h2, h2⟩
theorem qE_evn {A : rn_L} {c : Nat} (hok : okF A.flatten c) (hc : c ≤ 40) : evn (qE A) c := by
  have hF := okF_wk hc hok
  have hd := wkF_ok hF
  intro K j hj hx
  have cnt : ∀ l, ((if K (rn_pv A (ovx A j)) = l then 1 else 0) + (if K (ovx A j) = l then 1 else 0) + (if K (rn_pv A (mtf A (ovx A j))) = l then 1 else 0) + (if K (mtf A (ovx A j)) = l then 1 else 0)) % 2 = 0 := by
    intro l
    let ind : Nat → Nat := fun v => if K v = l then 1 else 0
    let g : Nat → Nat := fun v => ind v + ind (rn_pv A v)
    let t : Nat → Nat := fun x => g (ovx A x) + g (mtf A (ovx A x))
    have s1 : ((List.range A.flatten.length).map g).sum % 2 = 0 := by
      have a1 : ((List.range A.flatten.length).map (fun v => ind (rn_pv A v))).sum = ((List.range A.flatten.length).map ind).sum := by
        have : ((List.range A.flatten.length).map (fun v => ind (rn_pv A v))) = (((List.range A.flatten.length).map (rn_pv A)).map ind) := by rw [List.map_map]; rfl
        rw [this]
        refine sum_nd (nodup_map List.nodup_range (fun a b ha hb e => ?_)) List.nodup_range (fun v => ?_)
        · have := congrArg (rn_nx A) e
          rw [nx_pv (List.mem_range.mp ha), nx_pv (List.mem_range.mp hb)] at this
          exact this
        · rw [List.mem_range]
          constructor
          · intro hv
            obtain ⟨w, hw, e⟩ := List.mem_map.mp hv
            rw [← e]
            exact pv_lt (List.mem_range.mp hw)
          · intro hv
            exact List.mem_map.mpr ⟨rn_nx A v, List.mem_range.mpr (rn_nx_lt hv), pv_nx hv⟩
      have a2 : ∀ l : List Nat, (l.map g).sum = (l.map ind).sum + (l.map (fun v => ind (rn_pv A v))).sum := by
        intro l
        induction l with
        | nil => rfl
        | cons a l ih =>
          rw [List.map_cons, List.map_cons, List.map_cons, List.sum_cons, List.sum_cons, List.sum_cons, ih]
          show ind a + ind (rn_pv A a) + _ = _
          omega
      rw [a2, a1]
      omega
    have s2 : ((List.range A.flatten.length).map g).sum = smT t c := by
      rw [smT_map]
      have b1 : ∀ l : List Nat, (l.map t).sum = (((l.map (ovx A)) ++ (l.map (fun x => mtf A (ovx A x)))).map g).sum := by
        intro l
        rw [List.map_append, List.sum_append_nat]
        induction l with
        | nil => rfl
        | cons a l ih =>
          rw [List.map_cons, List.map_cons, List.map_cons, List.map_cons, List.map_cons, List.sum_cons, List.sum_cons, List.sum_cons, ih]
          show g (ovx A a) + g (mtf A (ovx A a)) + _ = _
          omega
      rw [b1]
      refine sum_nd List.nodup_range ?_ (fun v => ?_)
      · rw [List.nodup_append]
        refine ⟨nodup_map List.nodup_range (fun a b ha hb e => ?_), nodup_map List.nodup_range (fun a b ha hb e => ?_), fun v hv w hw e => ?_⟩
        · have h1 := ovx_of hok (List.mem_range.mp ha)
          have h2 := ovx_of hok (List.mem_range.mp hb)
          rw [← h1.2.1, e, h2.2.1]
        · have h1 := ovx_of hok (List.mem_range.mp ha)
          have h2 := ovx_of hok (List.mem_range.mp hb)
          have e : mtf A (ovx A a) = mtf A (ovx A b) := e
          rw [← h1.2.1, ← crs_mtf hd h1.1, e, crs_mtf hd h2.1, h2.2.1]
        · obtain ⟨a, ha, ea⟩ := List.mem_map.mp hv
          obtain ⟨b, hb, eb⟩ := List.mem_map.mp hw
          have h1 := ovx_of hok (List.mem_range.mp ha)
          have h2 := ovx_of hok (List.mem_range.mp hb)
          -- an over visit is no mate of one
          have e9 : ovx A a = mtf A (ovx A b) := by rw [ea, eb, e]
          have hm := mtf_ne hd h2.1
          refine hm (nodup_at hok.1 (vAt_of (mtf_lt hd h2.1)) ?_)
          rw [vAt_of h2.1]
          congr 1
          refine Prod.ext (crs_mtf hd h2.1).symm ?_
          show uns A (ovx A b) = uns A (mtf A (ovx A b))
          rw [h2.2.2, ← e9, h1.2.2]
      · rw [List.mem_range, List.mem_append]
        constructor
        · intro hv
          have hxv : crs A v < c := ((hok.2 _).mp (List.mem_of_getElem? (vAt_of hv))).1
          by_cases h0 : uns A v = 0
          · exact Or.inl (List.mem_map.mpr ⟨crs A v, List.mem_range.mpr hxv, ovx_eq hok hv h0⟩)
          · refine Or.inr (List.mem_map.mpr ⟨crs A v, List.mem_range.mpr hxv, ?_⟩)
            have e1 := ovx_eq hok (mtf_lt hd hv) (mtf_uns hF hv h0)
            rw [crs_mtf hd hv] at e1
            show mtf A (ovx A (crs A v)) = v
            rw [e1, mtf_mtf hd hv]
        · rintro (h9 | h9)
          · obtain ⟨a, ha, ea⟩ := List.mem_map.mp h9
            rw [← ea]
            exact (ovx_of hok (List.mem_range.mp ha)).1
          · obtain ⟨a, ha, ea⟩ := List.mem_map.mp h9
            rw [← ea]
            exact mtf_lt hd (ovx_of hok (List.mem_range.mp ha)).1
    have s3 : smT t c % 2 = t j % 2 := by
      refine smT_ev c hj (fun x hxc hxj => ?_)
      have h9 : ∀ a b, K a = K b → ind a = ind b := fun a b e => by
        show (if K a = l then 1 else 0) = if K b = l then 1 else 0
        rw [e]
      show (ind (ovx A x) + ind (rn_pv A (ovx A x)) + (ind (mtf A (ovx A x)) + ind (rn_pv A (mtf A (ovx A x))))) % 2 = 0
      rcases hx x hxc hxj with ⟨e1, e2⟩ | ⟨e1, e2⟩
      · have f1 := h9 _ _ e1
        have f2 := h9 _ _ e2
        have f1 : ind (rn_pv A (ovx A x)) = ind (mtf A (ovx A x)) := f1
        have f2 : ind (rn_pv A (mtf A (ovx A x))) = ind (ovx A x) := f2
        omega
      · have f1 := h9 _ _ e1
        have f2 := h9 _ _ e2
        have f1 : ind (rn_pv A (ovx A x)) = ind (rn_pv A (mtf A (ovx A x))) := f1
        have f2 : ind (ovx A x) = ind (mtf A (ovx A x)) := f2
        omega
    have s4 : t j % 2 = 0 := by rw [← s3, ← s2]; exact s1
    have s4 : (ind (ovx A j) + ind (rn_pv A (ovx A j)) + (ind (mtf A (ovx A j)) + ind (rn_pv A (mtf A (ovx A j))))) % 2 = 0 := s4
    show (ind (rn_pv A (ovx A j)) + ind (ovx A j) + ind (rn_pv A (mtf A (ovx A j))) + ind (mtf A (ovx A j))) % 2 = 0
    omega
  show (K (rn_pv A (ovx A j)) = K (ovx A j) ∧ K (rn_pv A (mtf A (ovx A j))) = K (mtf A (ovx A j))) ∨ (K (rn_pv A (ovx A j)) = K (rn_pv A (mtf A (ovx A j))) ∧ K (ovx A j) = K (mtf A (ovx A j))) ∨ (K (rn_pv A (ovx A j)) = K (mtf A (ovx A j)) ∧ K (ovx A j) = K (rn_pv A (mtf A (ovx A j))))
  generalize K (rn_pv A (ovx A j)) = a at *
  generalize K (ovx A j) = b at *
  generalize K (rn_pv A (mtf A (ovx A j))) = cc at *
  generalize K (mtf A (ovx A j)) = d at *
  by_cases hab : a = b
  · by_cases hcd : cc = d
    · exact Or.inl ⟨hab, hcd⟩
    · exfalso
      have := cnt cc
      rw [hab, if_pos (rfl : cc = cc), if_neg (show ¬ d = cc from fun e => hcd e.symm)] at this
      by_cases hbc : b = cc
      · rw [if_pos hbc] at this; omega
      · rw [if_neg hbc] at this; omega
  · by_cases hac : a = cc
    · refine Or.inr (Or.inl ⟨hac, ?_⟩)
      have := cnt b
      rw [if_neg hab, if_pos (rfl : b = b), if_neg (show ¬ cc = b from fun e => hab (hac.trans e))] at this
      by_cases hdb : d = b
      · exact hdb.symm
      · rw [if_neg hdb] at this; omega
    · have h1 := cnt a
      rw [if_pos (rfl : a = a), if_neg (show ¬ b = a from fun e => hab e.symm), if_neg (show ¬ cc = a from fun e => hac e.symm)] at h1
      by_cases hda : d = a
      · refine Or.inr (Or.inr ⟨hda.symm, ?_⟩)
        have := cnt b
        rw [if_neg hab, if_pos (rfl : b = b), if_neg (show ¬ d = b from fun e => hab (hda.symm.trans e))] at this
        by_cases hcb : cc = b
        · exact hcb.symm
        · rw [if_neg hcb] at this; omega
      · rw [if_neg hda] at h1; omega
/-! the machine's loops -/
theorem bit_256 : ∀ a : Fin 16, ∀ b : Fin 16, ∀ x : Fin 8, ((nI (16 * a.val + b.val) >>> (nI x.val &&& 31)) &&& 1) = nI (btN (16 * a.val + b.val) x.val) := by decide +kernel
theorem bit_nI {s x : Nat} (hs : s < 256) (hx : x < 8) : ((nI s >>> (nI x &&& 31)) &&& 1) = nI (btN s x) := by
  have := bit_256 ⟨s / 16, by omega⟩ ⟨s % 16, by omega⟩ ⟨x, hx⟩
  rw [show 16 * (s / 16) + s % 16 = s by omega] at this
  exact this
theorem lpA_j2 {A : rn_L} {sg : Nat → Bool} {st : Int32} : ∀ (V v : Nat), v < V → uns A v = 0 → (alS sg st (crs A v) = true → rt (lpA A sg st V) (rn_pv A v) = rt (lpA A sg st V) (mtf A v) ∧ rt (lpA A sg st V) (rn_pv A (mtf A v)) = rt (lpA A sg st V) v) ∧ (alS sg st (crs A v) = false → rt (lpA A sg st V) (rn_pv A v) = rt (lpA A sg st V) (rn_pv A (mtf A v)) ∧ rt (lpA A sg st V) v = rt (lpA A sg st V) (mtf A v))
  | 0, v, h, _ => by omega
  | V + 1, v, h, hu => by
    have hp := lpA_dn (A := A) (sg := sg) (st := st) V
    by_cases hv : v = V
    · subst hv
      have e : lpA A sg st (v + 1) = lpS A sg st v (lpA A sg st v) := rfl
      rw [e]
      unfold lpS
      rw [if_pos hu]
      refine ⟨fun h2 => ?_, fun h2 => ?_⟩
      · rw [if_pos h2]
        exact ⟨un_k (un_dn hp) (un_j hp), un_j (un_dn hp)⟩
      · rw [if_neg (by rw [h2]; decide)]
        exact ⟨un_k (un_dn hp) (un_j hp), un_j (un_dn hp)⟩
    · obtain ⟨i1, i2⟩ := lpA_j2 (sg := sg) (st := st) V v (by omega) hu
      exact ⟨fun h2 => ⟨lpS_k hp (i1 h2).1, lpS_k hp (i1 h2).2⟩, fun h2 => ⟨lpS_k hp (i2 h2).1, lpS_k hp (i2 h2).2⟩⟩
/-- the machine counts no more loops than there are -/
theorem rts_ell {A : rn_L} {c s : Nat} {sg : Nat → Bool} (hok : okF A.flatten c) (hc : c ≤ 8) (hs : s < 2 ^ c) : rtsN (lpA A sg (nI s) A.flatten.length) A.flatten.length ≤ ell (qE A) c A.flatten.length sg s := by
  have hs2 : s < 256 := Nat.lt_of_lt_of_le hs (two_mono (b := 8) hc)
  let p := lpA A sg (nI s) A.flatten.length
  have hp : dn p := lpA_dn _
  have e1 : rtsN p A.flatten.length = cN A.flatten.length (rt p) := by
    unfold rtsN cN
    congr 1
    refine List.filter_congr (fun x _ => ?_)
    rw [decide_eq_decide]
    constructor
    · intro h y hy e
      have := (rt_in hp y).2
      rw [e, rt_root h] at this
      omega
    · intro h
      refine Classical.byContradiction (fun hne => ?_)
      have h1 := rt_in hp x
      have hlt : rt p x < x := by
        rcases Nat.lt_or_ge (rt p x) x with h9 | h9
        · exact h9
        · have h2 : rt p x = x := by omega
          rw [h2] at h1
          exact absurd h1.1 hne
      exact h (rt p x) hlt (rt_root h1.1)
  have e2 : cN A.flatten.length (rt p) ≤ cN A.flatten.length (lab (qE A) c (mdS sg 0 s)) := by
    refine cN_mono (fun x y _ _ e => lab_min (K := rt p) (fun x hx => ?_) e)
    obtain ⟨o1, o2, o3⟩ := ovx_of hok hx
    obtain ⟨i1, i2⟩ := lpA_j2 (sg := sg) (st := nI s) A.flatten.length (ovx A x) o1 o3
    rw [o2] at i1 i2
    have hal : alS sg (nI s) x = decide (mdS sg 0 s x = 1) := by
      unfold alS mdS mB
      rw [bit_nI hs2 (by omega), if_neg (by omega)]
      have hb : btN s x = 0 ∨ btN s x = 1 := by unfold btN; omega
      rcases hb with hb | hb
      · rw [hb]
        cases sg x <;> rfl
      · rw [hb]
        cases sg x <;> rfl
    have hm : mdS sg 0 s x = 1 ∨ mdS sg 0 s x = 2 := by
      unfold mdS
      rw [if_neg (by omega)]
      exact mB_1
    refine ⟨fun h9 => ?_, fun h9 => ?_⟩
    · have h8 : mdS sg 0 s x = 1 := by omega
      exact i1 (by rw [hal]; exact decide_eq_true h8)
    · have h8 : mdS sg 0 s x ≠ 1 := by omega
      exact i2 (by rw [hal]; exact decide_eq_false h8)
  rw [e1]
  exact e2
/-- with all joins made the classes are the parts with visits -/
theorem ell_parts {A : rn_L} {c P : Nat} {M : Nat → Int32} {sg : Nat → Bool} (hok : okF A.flatten c) (hc : c ≤ 40) (hM : rn_SD A M P) (hM1 : ∀ k, k < A.length → M k ≠ -1) (hP : P ≤ 40) : ell2 (qE A) c A.flatten.length sg c 0 + eC A ≤ P := by
  have hF := okF_wk hc hok
  have hd := wkF_ok hF
  let L := lab (qE A) c (mdS sg c 0)
  have hS := lab_sat (q := qE A) (c := c) (m := mdS sg c 0)
  have all : ∀ v, v < A.flatten.length → L (rn_pv A v) = L v ∧ L (mtf A v) = L v := by
    intro v hv
    have hx : crs A v < c := ((hok.2 _).mp (List.mem_of_getElem? (vAt_of hv))).1
    have h3 : mdS sg c 0 (crs A v) = 3 := by unfold mdS; rw [if_pos hx]
    have h1 := (hS _ hx).1 (Or.inr h3)
    have h2 := (hS _ hx).2 (Or.inr h3)
    have h1 : L (rn_pv A (ovx A (crs A v))) = L (mtf A (ovx A (crs A v))) ∧ L (rn_pv A (mtf A (ovx A (crs A v)))) = L (ovx A (crs A v)) := h1
    have h2 : L (rn_pv A (ovx A (crs A v))) = L (rn_pv A (mtf A (ovx A (crs A v)))) ∧ L (ovx A (crs A v)) = L (mtf A (ovx A (crs A v))) := h2
    by_cases h0 : uns A v = 0
    · rw [ovx_eq hok hv h0] at h1 h2
      exact ⟨by rw [h1.1, ← h2.2], h2.2.symm⟩
    · have e1 := ovx_eq hok (mtf_lt hd hv) (mtf_uns hF hv h0)
      rw [crs_mtf hd hv] at e1
      rw [e1, mtf_mtf hd hv] at h1 h2
      exact ⟨by rw [← h2.1, h1.1], h2.2⟩
  -- a part's visits have one label
  have one : ∀ v w p, p < P → inP A M p v → inP A M p w → L v = L w := fun v w p hp hv hw => inP_one (f := L) hd hM hp (fun v hv => (all v hv.1).1) (fun v hv => (all v hv.1).2) hv hw
  let Pv := (List.range P).filter (fun p => decide (∃ v, v < A.flatten.length ∧ M (rn_c A v) = nI p))
  let Ce := (List.range A.length).filter (fun k => !decide (rn_b A k < rn_b A (k + 1)))
  have h1 : ell2 (qE A) c A.flatten.length sg c 0 ≤ Pv.length := by
    have hex : ∀ p, ∃ l, ∀ v, p < P → inP A M p v → L v = l := by
      intro p
      by_cases hp : ∃ v, p < P ∧ inP A M p v
      · obtain ⟨v, hp, hv⟩ := hp
        exact ⟨L v, fun w _ hw => one w v p hp hw hv⟩
      · exact ⟨0, fun v h1 h2 => absurd ⟨v, h1, h2⟩ hp⟩
    let lf : Nat → Nat := fun p => Classical.choose (hex p)
    refine cN_le ⟨Pv.map lf, by rw [List.length_map]; exact Nat.le_refl _, fun v hv => ?_⟩
    have hcc := (rn_c_in A v hv).1
    rcases hM.1 _ hcc with h9 | ⟨p, hp, e⟩
    · exact absurd h9 (hM1 _ hcc)
    · refine List.mem_map.mpr ⟨p, List.mem_filter.mpr ⟨List.mem_range.mpr hp, decide_eq_true ⟨v, hv, e⟩⟩, ?_⟩
      exact (Classical.choose_spec (hex p) v hp ⟨hv, e⟩).symm
  -- a circle is a part alone
  have alone : ∀ k b p, k < A.length → b < A.length → p < P → ¬ rn_b A k < rn_b A (k + 1) → M k = nI p → M b = nI p → b = k := by
    intro k b p hk hb hp hne e1 e2
    have := hM.2.2.1 k b p hp hk hb e1 e2 (fun x => x = k) rfl (fun x y hx hxy => by
      obtain ⟨v, w, hvw, ev, ew⟩ := hxy
      have hvl := (rn_mt_lt hvw).1
      obtain ⟨g1, g2, g3⟩ := rn_c_in A v hvl
      rw [ev, hx] at g2 g3
      omega)
    exact this
  have hmk : ∀ k, k < A.length → ∃ p, p < P ∧ M k = nI p := fun k hk => by
    rcases hM.1 k hk with h9 | h9
    · exact absurd h9 (hM1 k hk)
    · exact h9
  let mf : Nat → Nat := fun k => (M k).toNatClampNeg
  have h31 : ∀ p, p < P → p < 2 ^ 31 := fun p hp => by omega
  have mfe : ∀ k p, p < P → M k = nI p → mf k = p := fun k p hp e => by
    show (M k).toNatClampNeg = p
    rw [e]
    exact nI_clamp (h31 p hp)
  have hn : (Pv ++ Ce.map mf).Nodup := by
    rw [List.nodup_append]
    refine ⟨List.nodup_range.filter _, nodup_map (List.nodup_range.filter _) (fun k b hk hb e => ?_), fun p hp y hy e => ?_⟩
    · obtain ⟨k1, k2⟩ := List.mem_filter.mp hk
      obtain ⟨b1, b2⟩ := List.mem_filter.mp hb
      have k1 := List.mem_range.mp k1
      have b1 := List.mem_range.mp b1
      obtain ⟨p, hp, ep⟩ := hmk k k1
      obtain ⟨p2, hp2, ep2⟩ := hmk b b1
      have e : mf k = mf b := e
      rw [mfe k p hp ep, mfe b p2 hp2 ep2] at e
      have k2 : ¬ rn_b A k < rn_b A (k + 1) := fun h9 => by rw [decide_eq_true h9] at k2; exact absurd k2 (by decide)
      exact (alone k b p k1 b1 hp k2 ep (by rw [e]; exact ep2)).symm
    · obtain ⟨p1, p2⟩ := List.mem_filter.mp hp
      obtain ⟨v, hv, ev⟩ := of_decide_eq_true p2
      obtain ⟨k, hk, ek⟩ := List.mem_map.mp hy
      obtain ⟨k1, k2⟩ := List.mem_filter.mp hk
      have k1 := List.mem_range.mp k1
      have k2 : ¬ rn_b A k < rn_b A (k + 1) := fun h9 => by rw [decide_eq_true h9] at k2; exact absurd k2 (by decide)
      obtain ⟨p3, hp3, ep3⟩ := hmk k k1
      have e3 := mfe k p3 hp3 ep3
      have hcc := rn_c_in A v hv
      have hpp : p = p3 := by rw [e, ← ek, e3]
      have := alone k (rn_c A v) p3 k1 hcc.1 hp3 k2 ep3 (by rw [← hpp]; exact ev)
      rw [this] at hcc
      omega
  have := nodup_le (Pv ++ Ce.map mf) (List.range P) hn (fun p hp => by
    rcases List.mem_append.mp hp with h9 | h9
    · exact (List.mem_filter.mp h9).1
    · obtain ⟨k, hk, ek⟩ := List.mem_map.mp h9
      have k1 := List.mem_range.mp (List.mem_filter.mp hk).1
      obtain ⟨p3, hp3, ep3⟩ := hmk k k1
      rw [← ek, mfe k p3 hp3 ep3]
      exact List.mem_range.mpr hp3)
  rw [List.length_append, List.length_map, List.length_range] at this
  have hce : Ce.length = eC A := rfl
  omega
end
section
/-! 99zzzw.chainA -/
/-! chain: states and generators -/
theorem byt : ∀ k : Fin 64, vp_nar .byte ((nI k.val).toInt8.toInt32) = nI k.val ∧ vp_nar .byte (nI k.val) = nI k.val := by decide +kernel
/-- the loops of a state as the machine counts them -/
def LcN (A : rn_L) (sg : Nat → Bool) (s : Nat) : Nat := rtsN (lpA A sg (nI s) A.flatten.length) A.flatten.length + eC A
def bsN (A : rn_L) (sg : Nat → Bool) (s : Nat) : Nat := smA (fun s => 2 ^ LcN A sg s) 0 s
/-- what is known of a net small enough for chain -/
def chOK (A : rn_L) (sg : Nat → Bool) (c P : Nat) : Prop := okF A.flatten c ∧ c ≤ 8 ∧ A.length ≤ 6 ∧ (∀ s, s < 2 ^ c → LcN A sg s ≤ 9) ∧ bsN A sg (2 ^ c) ≤ 13122 ∧ ∀ h, smH (fun s => mbt (LcN A sg s)) h 0 (2 ^ c) ≤ 1140
theorem smA_le {w u : Nat → Nat} {t : Nat} : ∀ n, (∀ i, i < n → w (t + i) ≤ u (t + i)) → smA w t n ≤ smA u t n
  | 0, _ => Nat.le_refl _
  | n + 1, h => Nat.add_le_add (smA_le n (fun i hi => h i (by omega))) (h n (by omega))
theorem smH_le {w u : Nat → Nat} {h t : Nat} : ∀ n, (∀ i, i < n → w (t + i) ≤ u (t + i)) → smH w h t n ≤ smH u h t n
  | 0, _ => Nat.le_refl _
  | n + 1, hh => by
    refine Nat.add_le_add (smH_le n (fun i hi => hh i (by omega))) ?_
    split
    · exact hh n (by omega)
    · exact Nat.le_refl _
theorem smH_mono {w : Nat → Nat} {h t a : Nat} : ∀ b, a ≤ b → smH w h t a ≤ smH w h t b
  | 0, hb => by rw [show a = 0 by omega]; exact Nat.le_refl _
  | b + 1, hb => by
    by_cases e : a = b + 1
    · rw [e]; exact Nat.le_refl _
    · have := smH_mono (w := w) (h := h) (t := t) (a := a) b (by omega)
      show smH w h t a ≤ smH w h t b + _
      omega
theorem mbt_9 {n : Nat} (h : mbt n ≤ 1140) : n ≤ 9 := by
  rcases Nat.lt_or_ge 9 n with h9 | h9
  · have := mbt_mono (a := 10) h9
    rw [show mbt 10 = 5000000 from by decide] at this
    omega
  · exact h9
theorem smH_0 {w : Nat → Nat} {h t : Nat} : ∀ n, (∀ i, i < n → pc i ≠ h) → smH w h t n = 0
  | 0, _ => rfl
  | n + 1, hh => by
    show smH w h t n + (if pc n = h then _ else 0) = 0
    rw [smH_0 n (fun i hi => hh i (by omega)), if_neg (hh n (by omega))]
theorem ch_ok {A : rn_L} {c P : Nat} {M : Nat → Int32} {sg : Nat → Bool} (hok : okF A.flatten c) (hC : A.length ≤ 6) (hM : rn_SD A M P) (hM1 : ∀ k, k < A.length → M k ≠ -1) (hP : P ≤ 40) (hP1 : 1 ≤ P) (hcP : c + P ≤ 9) : chOK A sg c P := by
  have hE := qE_ends hok (by omega)
  have hev := qE_evn hok (by omega)
  have hp := ell_parts (sg := sg) hok (by omega) hM hM1 hP
  have hle : ∀ s, s < 2 ^ c → LcN A sg s ≤ ell (qE A) c A.flatten.length sg s + eC A := fun s hs => Nat.add_le_add_right (rts_ell hok (by omega) hs) _
  have hblk : ∀ h, smH (fun s => mbt (ell (qE A) c A.flatten.length sg s + eC A)) h 0 (2 ^ c) ≤ 1140 := by
    intro h
    rcases Nat.lt_or_ge h 9 with h9 | h9
    · exact blk_1140 hE hev hP1 hp (by omega) h9
    · rw [smH_0 _ (fun i hi e => by
        have := pc_le (c := c) hi
        omega)]
      omega
  have hblk2 : ∀ h, smH (fun s => mbt (LcN A sg s)) h 0 (2 ^ c) ≤ 1140 := fun h => Nat.le_trans (smH_le _ (fun i hi => by
    rw [Nat.zero_add]
    exact mbt_mono (hle i hi))) (hblk h)
  refine ⟨hok, by omega, hC, fun s hs => mbt_9 ?_, ?_, hblk2⟩
  · have h1 := smH_mono (w := fun s => mbt (LcN A sg s)) (h := pc s) (t := 0) (a := s + 1) (2 ^ c) hs
    have h2 : mbt (LcN A sg s) ≤ smH (fun s => mbt (LcN A sg s)) (pc s) 0 (s + 1) := by
      show _ ≤ smH _ _ _ s + (if pc s = pc s then mbt (LcN A sg (0 + s)) else 0)
      rw [if_pos rfl, Nat.zero_add]
      omega
    exact Nat.le_trans h2 (Nat.le_trans h1 (hblk2 _))
  · have h1 := gen_all (ab := sg) (e := eC A) hE hev c 0 (Nat.le_refl _) (Nat.zero_mod _)
    have h2 : bsN A sg (2 ^ c) ≤ smA (fun s => 2 ^ (ell (qE A) c A.flatten.length sg s + eC A)) 0 (2 ^ c) := smA_le _ (fun i hi => by
      rw [Nat.zero_add]
      exact two_mono (hle i hi))
    have h3 : 3 ^ c * 2 ^ (ell2 (qE A) c A.flatten.length sg c 0 + eC A) ≤ 3 ^ c * 2 ^ P := Nat.mul_le_mul_left _ (two_mono hp)
    have key : ∀ c : Fin 9, ∀ P : Fin 10, c.val + P.val ≤ 9 → 1 ≤ P.val → 3 ^ c.val * 2 ^ P.val ≤ 13122 := by decide
    have h4 := key ⟨c, by omega⟩ ⟨P, by omega⟩ hcP hP1
    exact Nat.le_trans h2 (Nat.le_trans h1 (Nat.le_trans h3 h4))
/-- what makeStates leaves -/
def stI (y : ow_MS) (A : rn_L) (sg : Nat → Bool) (c : Nat) : Prop := (∀ s, s < 2 ^ c → y.2.1 82 s = nI (LcN A sg s)) ∧ (∀ s, s ≤ 2 ^ c → y.2.1 83 s = nI (bsN A sg s)) ∧ ∀ s g, s < 2 ^ c → g < A.flatten.length → inR y 81 (32 * s + g) (LcN A sg s)
theorem stI_fr {P : Nat → Prop} {y y1 : ow_MS} {A : rn_L} {sg : Nat → Bool} {c : Nat} (hf : fr P y y1) (h1 : ¬ P 81) (h2 : ¬ P 82) (h3 : ¬ P 83) (h : stI y A sg c) : stI y1 A sg c := ⟨fun s hs => by rw [(hf 82 h2).2.1]; exact h.1 s hs, fun s hs => by rw [(hf 83 h3).2.1]; exact h.2.1 s hs, fun s g hs hg => inR_fr hf h1 (h.2.2 s g hs hg)⟩
abbrev stH (g : Nat) : Prop := g = 47 ∨ g = 81 ∨ g = 82 ∨ g = 83
theorem bs_s {A : rn_L} {sg : Nat → Bool} {s : Nat} : bsN A sg (s + 1) = bsN A sg s + 2 ^ LcN A sg s := by
  show smA _ 0 s + 2 ^ LcN A sg (0 + s) = _
  rw [Nat.zero_add]
  rfl
theorem bs_mono {A : rn_L} {sg : Nat → Bool} {a b : Nat} (h : a ≤ b) : bsN A sg a ≤ bsN A sg b := smA_mono b h
theorem i32x {s g : Nat} : (32 : Int32) * nI s + nI g = nI (32 * s + g) := by
  rw [show (32 : Int32) * nI s = nI (32 * s) from pk_mul 32 s, nI_add]
theorem rtsN_mono {p : Nat → Nat} {a : Nat} : ∀ b, a ≤ b → rtsN p a ≤ rtsN p b
  | 0, h => by rw [show a = 0 by omega]; exact Nat.le_refl _
  | b + 1, h => by
    by_cases e : a = b + 1
    · rw [e]; exact Nat.le_refl _
    · have := rtsN_mono (p := p) (a := a) b (by omega)
      rw [rtsN_s]
      omega
section CHA
variable {z : ow_MS}
theorem u_X13_makeStates_1 {x2 : Int32} {x3 : Int32} {x4 : Int32} {x5 : Int32} {x6 : Int32} {x7 : Int32} {r1 : Nat} {z : ow_MS} {Q : ow_MS → Prop} (H : Tt (fun K k => qm_X13_makeStates_1 K (q_X13_makeStates K k) x2 x3 x4 x5 x6 x7 r1 z) Q) : Tt (fun K k => q_X13_makeStates K k 1 x2 x3 x4 x5 x6 x7 r1 z) Q := w_un (fun _ _ => rfl) H
theorem u_X13_makeStates_4 {x2 : Int32} {x3 : Int32} {x4 : Int32} {x5 : Int32} {x6 : Int32} {x7 : Int32} {r1 : Nat} {z : ow_MS} {Q : ow_MS → Prop} (H : Tt (fun K k => qm_X13_makeStates_4 K (q_X13_makeStates K k) x2 x3 x4 x5 x6 x7 r1 z) Q) : Tt (fun K k => q_X13_makeStates K k 4 x2 x3 x4 x5 x6 x7 r1 z) Q := w_un (fun _ _ => rfl) H
theorem u_X13_makeStates_2 {x2 : Int32} {x3 : Int32} {x4 : Int32} {x5 : Int32} {x6 : Int32} {x7 : Int32} {r1 : Nat} {z : ow_MS} {Q : ow_MS → Prop} (H : Tt (fun K k => qm_X13_makeStates_2 K (q_X13_makeStates K k) x2 x3 x4 x5 x6 x7 r1 z) Q) : Tt (fun K k => q_X13_makeStates K k 2 x2 x3 x4 x5 x6 x7 r1 z) Q := w_un (fun _ _ => rfl) H
theorem u_X13_makeStates_3 {x2 : Int32} {x3 : Int32} {x4 : Int32} {x5 : Int32} {x6 : Int32} {x7 : Int32} {r1 : Nat} {z : ow_MS} {Q : ow_MS → Prop} (H : Tt (fun K k => qm_X13_makeStates_3 K (q_X13_makeStates K k) x2 x3 x4 x5 x6 x7 r1 z) Q) : Tt (fun K k => q_X13_makeStates K k 3 x2 x3 x4 x5 x6 x7 r1 z) Q := w_un (fun _ _ => rfl) H
theorem e_X13_makeStates {r1 : Nat} {z : ow_MS} {Q : ow_MS → Prop} (H : Tt (fun K k => q_X13_makeStates K k 0 0 0 0 0 0 0 r1 z) Q) : Te (fun K => qe_X13_makeStates K r1 z) Q := w_te H
theorem u_X13_makeStates_0 {x2 : Int32} {x3 : Int32} {x4 : Int32} {x5 : Int32} {x6 : Int32} {x7 : Int32} {r1 : Nat} {z : ow_MS} {Q : ow_MS → Prop} (H : Tt (fun K k => qm_X13_makeStates_0 K (q_X13_makeStates K k) x2 x3 x4 x5 x6 x7 r1 z) Q) : Tt (fun K k => q_X13_makeStates K k 0 x2 x3 x4 x5 x6 x7 r1 z) Q := w_un (fun _ _ => rfl) H
theorem tp_makeStates {n c P : Nat} {A : rn_L} {sg : Nat → Bool} (hn : mw_net n) (hA : oNet z n A sg) (hK : chOK A sg c P) : Te (fun K => qe_X13_makeStates K n z) (fun z1 => stI z1 A sg c ∧ fr stH z z1) := by
  obtain ⟨hok, hc, hC, hL9, hbs, -⟩ := hK
  have hV := okF_len hok
  have hmn := net_mod hn
  have h2c : 2 ^ c ≤ 256 := two_mono (b := 8) hc
  let Q : ow_MS → Prop := fun z1 => stI z1 A sg c ∧ fr stH z z1
  have oA : ∀ {y : ow_MS}, fr stH z y → oNet y n A sg := fun hf => oNet_fr hf (fun g hg => by unfold stH at hg; omega) hA
  have c1 : ∀ (d s : Nat) (y : ow_MS), s + d = 2 ^ c → fr stH z y → (∀ t, t < s → y.2.1 82 t = nI (LcN A sg t)) → (∀ t, t < s → y.2.1 83 t = nI (bsN A sg t)) → (∀ t g, t < s → g < A.flatten.length → inR y 81 (32 * t + g) (LcN A sg t)) → Tt (fun K i => q_X13_makeStates K i 1 (nI (eC A)) (nI c) (nI (bsN A sg s)) (nI s) 0 0 n y) Q := by
    intro d
    induction d with
    | zero =>
      intro s y hs hf h82 h83 h81
      have hs : s = 2 ^ c := by omega
      refine u_X13_makeStates_1 ?_; unfold qm_X13_makeStates_1
      rw [shl1 (by omega)]
      refine w_leT (by omega) (by omega) (w_wrI ml83 rfl (by omega) (w_some ⟨⟨fun t ht => rd_ot (by omega) (h82 t (by omega)), fun t ht => ?_, fun t g ht hg => inR_ot (by omega) (h81 t g (by omega) hg)⟩, fr_I2 hf (by unfold stH; omega)⟩))
      by_cases hts : t = 2 ^ c
      · rw [hts, po_usI_at, hs]
      · exact rd_ne hts (h83 t (by omega))
    | succ d ih =>
      intro s y hs hf h82 h83 h81
      have hs9 := hL9 s (by omega)
      have hb1 : bsN A sg (s + 1) ≤ 13122 := Nat.le_trans (bs_mono (by omega)) hbs
      rw [bs_s] at hb1
      refine u_X13_makeStates_1 ?_; unfold qm_X13_makeStates_1
      rw [shl1 (by omega)]
      refine w_leF (by omega) (by omega) (w_cs0 (tp_loops (st := nI s) hn (oA hf)) (fun y1 ⟨u1, f1⟩ => ?_))
      have hf1 : fr stH z y1 := fr_tr hf (fr_mono (fun g hg => Or.inl hg) f1)
      have hp : dn (lpA A sg (nI s) A.flatten.length) := u1.1
      have hLs : LcN A sg s = rtsN (lpA A sg (nI s) A.flatten.length) A.flatten.length + eC A := rfl
      generalize hpe : lpA A sg (nI s) A.flatten.length = p at u1 hp hLs
      have k82 : ∀ t, t < s → y1.2.1 82 t = nI (LcN A sg t) := fun t ht => by rw [(f1 82 (by omega)).2.1]; exact h82 t ht
      have k83 : ∀ t, t < s → y1.2.1 83 t = nI (bsN A sg t) := fun t ht => by rw [(f1 83 (by omega)).2.1]; exact h83 t ht
      have k81 : ∀ t g, t < s → g < A.flatten.length → inR y1 81 (32 * t + g) (LcN A sg t) := fun t g ht hg => inR_fr f1 (by omega) (h81 t g ht hg)
      have u81 : ∀ {y : ow_MS} {i : Nat} {x : Int32}, ufR y p → ufR (usI y 81 i x) p := fun h => ⟨h.1, fun g hg => rd_ot (by omega) (h.2 g hg)⟩
      have c4 : ∀ (d2 g : Nat) (y : ow_MS), g + d2 = A.flatten.length → ufR y p → fr stH z y → (∀ t, t < s → y.2.1 82 t = nI (LcN A sg t)) → (∀ t, t < s → y.2.1 83 t = nI (bsN A sg t)) → (∀ t g, t < s → g < A.flatten.length → inR y 81 (32 * t + g) (LcN A sg t)) → (∀ h, h < A.flatten.length → (h < g ∨ p h = h) → inR y 81 (32 * s + h) (LcN A sg s)) → Tt (fun K i => q_X13_makeStates K i 4 (nI (eC A)) (nI c) (nI (bsN A sg s)) (nI s) (nI (rtsN p A.flatten.length)) (nI g) n y) Q := by
        intro d2
        induction d2 with
        | zero =>
          intro g y hg hu hf h82 h83 h81 hR
          refine u_X13_makeStates_4 ?_; unfold qm_X13_makeStates_4
          rw [nI_add, shl1 (by omega), nI_add, nI_1, ← hLs, ← bs_s]
          refine w_rdF (oA hf).1.V (w_leT (by omega) (by omega) (w_wrI ml82 rfl (by omega) (w_wrI ml83 rfl (by omega) (ih (s + 1) _ (by omega) (fr_I2 (fr_I2 hf (by unfold stH; omega)) (by unfold stH; omega)) (fun t ht => ?_) (fun t ht => ?_) (fun t h ht hh => inR_ot (by omega) (inR_ot (by omega) ?_))))))
          · refine rd_ot (by omega) ?_
            by_cases hts : t = s
            · rw [hts, po_usI_at]
            · exact rd_ne hts (h82 t (by omega))
          · by_cases hts : t = s
            · rw [hts, po_usI_at]
            · exact rd_ne hts (rd_ot (by omega) (h83 t (by omega)))
          · by_cases hts : t = s
            · rw [hts]
              exact hR h hh (Or.inl (by omega))
            · exact h81 t h (by omega) hh
        | succ d2 ih4 =>
          intro g y hg hu hf h82 h83 h81 hR
          have hgl : g < A.flatten.length := by omega
          obtain ⟨r1, r2⟩ := rt_in hp g
          obtain ⟨l, hl, el⟩ := hR (rt p g) (by omega) (Or.inr r1)
          refine u_X13_makeStates_4 ?_; unfold qm_X13_makeStates_4
          refine w_rdF (oA hf).1.V (w_leF (by omega) hgl (w_cs1 (tp_root hu (by omega)) (fun a y2 e => ?_)))
          cases e
          rw [i32x, i32x, nI_1]
          refine w_rdI ml81 rfl (by omega) el (w_wrB ml81 rfl (by omega) ?_)
          rw [(byt ⟨l, by omega⟩).2]
          refine ih4 (g + 1) _ (by omega) (u81 hu) (fr_I2 hf (by unfold stH; omega)) (fun t ht => rd_ot (by omega) (h82 t ht)) (fun t ht => rd_ot (by omega) (h83 t ht)) (fun t h ht hh => ?_) (fun h hh h9 => ?_)
          · obtain ⟨i, k1, k2⟩ := h81 t h ht hh
            exact ⟨i, k1, rd_ne (by omega) k2⟩
          · by_cases hhg : h = g
            · rw [hhg]; exact inR_set hl
            · exact inR_keep (hR h hh (by omega)) ⟨l, hl, rfl⟩
      have c2 : ∀ (d2 g : Nat) (y : ow_MS), g + d2 = A.flatten.length → ufR y p → fr stH z y → (∀ t, t < s → y.2.1 82 t = nI (LcN A sg t)) → (∀ t, t < s → y.2.1 83 t = nI (bsN A sg t)) → (∀ t g, t < s → g < A.flatten.length → inR y 81 (32 * t + g) (LcN A sg t)) → (∀ h, h < g → p h = h → inR y 81 (32 * s + h) (LcN A sg s)) → Tt (fun K i => q_X13_makeStates K i 2 (nI (eC A)) (nI c) (nI (bsN A sg s)) (nI s) (nI (rtsN p g)) (nI g) n y) Q := by
        intro d2
        induction d2 with
        | zero =>
          intro g y hg hu hf h82 h83 h81 hR
          have hg : g = A.flatten.length := by omega
          subst hg
          refine u_X13_makeStates_2 ?_; unfold qm_X13_makeStates_2
          exact w_rdF (oA hf).1.V (w_leT (by omega) (by omega) (c4 A.flatten.length 0 y (by omega) hu hf h82 h83 h81 (fun h hh h9 => hR h hh (h9.resolve_left (by omega)))))
        | succ d2 ih2 =>
          intro g y hg hu hf h82 h83 h81 hR
          have hgl : g < A.flatten.length := by omega
          have h1 := hp g
          have hrm := rtsN_mono (p := p) (a := g + 1) A.flatten.length hgl
          rw [rtsN_s] at hrm
          refine u_X13_makeStates_2 ?_; unfold qm_X13_makeStates_2
          rw [i32x]
          refine w_rdF (oA hf).1.V (w_leF (by omega) hgl (w_rdI ml47 rfl (by omega) (hu.2 g (by omega)) (w_eqN (by omega) (by omega) (fun h9 => w_wrB ml81 rfl (by omega) ?_) (fun h9 => ?_))))
          · rw [if_pos h9] at hrm
            rw [(byt ⟨rtsN p g, by omega⟩).1]
            refine u_X13_makeStates_3 ?_; unfold qm_X13_makeStates_3
            rw [nI_1, nI_1]
            have := ih2 (g + 1) (usI y 81 (32 * s + g) (nI (rtsN p g))) (by omega) (u81 hu) (fr_I2 hf (by unfold stH; omega)) (fun t ht => rd_ot (by omega) (h82 t ht)) (fun t ht => rd_ot (by omega) (h83 t ht)) (fun t h ht hh => by
              obtain ⟨i, k1, k2⟩ := h81 t h ht hh
              exact ⟨i, k1, rd_ne (by omega) k2⟩) (fun h hh h8 => by
              by_cases hhg : h = g
              · rw [hhg]; exact inR_set (by omega)
              · exact inR_keep (hR h (by omega) h8) ⟨_, by omega, rfl⟩)
            rw [rtsN_s, if_pos h9] at this
            exact this
          · refine u_X13_makeStates_3 ?_; unfold qm_X13_makeStates_3
            rw [nI_1]
            have := ih2 (g + 1) y (by omega) hu hf h82 h83 h81 (fun h hh h8 => by
              by_cases hhg : h = g
              · rw [hhg] at h8
                exact absurd h8 h9
              · exact hR h (by omega) h8)
            rw [rtsN_s, if_neg h9] at this
            exact this
      exact c2 A.flatten.length 0 y1 (by omega) u1 hf1 k82 k83 k81 (fun h hh => absurd hh (by omega))
  refine e_X13_makeStates ?_
  refine u_X13_makeStates_0 ?_; unfold qm_X13_makeStates_0
  refine w_cs1 (tp_circles2 hn (by omega) (by omega) hA.1.1) (fun a y e => ?_)
  cases e
  refine w_rdF hA.1.V (w_nzI (by decide) ?_)
  rw [hV, half_V (by omega)]
  exact c1 (2 ^ c) 0 z (by omega) fr_rf (fun t ht => absurd ht (by omega)) (fun t ht => absurd ht (by omega)) (fun t g ht => absurd ht (by omega))
/-- the column of a generator -/
def qvN (A : rn_L) (sg : Nat → Bool) (c mi s m : Nat) : Nat := 2 * pc m + pc s + c + 40 - (LcN A sg s + 3 * mi)
theorem e_X13_qOf {x1 : Int32} {x2 : Int32} {x3 : Int32} {z : ow_MS} {Q : (Int32 × ow_MS) → Prop} (H : Tt (fun K _ => qm_X13_qOf_0 K x1 x2 x3 z) Q) : Te (fun K => qe_X13_qOf K x1 x2 x3 z) Q := w_te0 H
theorem tp_qOf {c P mi s m : Nat} {A : rn_L} {sg : Nat → Bool} (hK : chOK A sg c P) (hI : stI z A sg c) (h88 : z.1 88 = nI mi) (hmi : mi ≤ c) (hs : s < 2 ^ c) (hm : m < 2 ^ LcN A sg s) : Te (fun K => qe_X13_qOf K (nI s) (nI m) (nI c - nI mi) z) (fun r => r = (nI (qvN A sg c mi s m), z)) ∧ qvN A sg c mi s m < 80 := by
  obtain ⟨hok, hc, hC, hL9, -⟩ := hK
  have h2c : 2 ^ c ≤ 256 := two_mono (b := 8) hc
  have hL := hL9 s hs
  have h2L : 2 ^ LcN A sg s ≤ 512 := two_mono (b := 9) hL
  have hpm := pc_le hm
  have hps := pc_le hs
  constructor
  · refine e_X13_qOf ?_; unfold qm_X13_qOf_0
    refine w_rdI ml82 rfl (by omega) (hI.1 s hs) (w_rdF h88 (w_some ?_))
    rw [bc_pc (by omega), bc_pc (by omega)]
    congr 1
    unfold qvN
    rw [nI_iI (pc m), nI_iI (pc s), nI_iI (LcN A sg s), nI_iI c, nI_iI mi]
    show ((((iI 2 * iI (pc m : Nat)) - iI (LcN A sg s : Nat)) + iI (pc s : Nat)) + (iI (c : Nat) - iI (mi : Nat))) - (iI 2 * iI (mi : Nat)) + iI 40 = _
    rw [iI_mul, iI_sub, iI_add, iI_sub, iI_add, iI_mul, iI_sub, iI_add]
    exact iI_nI (by omega)
  · unfold qvN
    omega
/-- masks below k in one column -/
def cmN (A : rn_L) (sg : Nat → Bool) (c mi s q : Nat) : Nat → Nat
  | 0 => 0
  | m + 1 => cmN A sg c mi s q m + if qvN A sg c mi s m = q then 1 else 0
def cpN (r : Nat) : Nat → Nat
  | 0 => 0
  | m + 1 => cpN r m + if pc m = r then 1 else 0
theorem cpN_split {r j : Nat} (hj : j < 32) : ∀ i, i ≤ 2 ^ j → cpN r (2 ^ j + i) = cpN r (2 ^ j) + if r = 0 then 0 else cpN (r - 1) i
  | 0, _ => by
    show _ = _ + if r = 0 then 0 else 0
    split <;> rfl
  | i + 1, hi => by
    have ih := cpN_split (r := r) hj i (by omega)
    show cpN r (2 ^ j + i) + (if pc (2 ^ j + i) = r then 1 else 0) = _
    rw [ih, pc_hi hj (by omega)]
    by_cases h0 : r = 0
    · rw [if_pos h0, if_pos h0, if_neg (by omega)]
    · rw [if_neg h0, if_neg h0]
      show _ = _ + (cpN (r - 1) i + if pc i = r - 1 then 1 else 0)
      by_cases h1 : pc i + 1 = r
      · rw [if_pos h1, if_pos (by omega)]; omega
      · rw [if_neg h1, if_neg (by omega)]; omega
/-- binomial numbers -/
def biN : Nat → Nat → Nat
  | 0, r => if r = 0 then 1 else 0
  | j + 1, r => biN j r + if r = 0 then 0 else biN j (r - 1)
theorem cpN_bi : ∀ (j r : Nat), j < 32 → cpN r (2 ^ j) = biN j r
  | 0, r, _ => by
    show 0 + (if pc 0 = r then 1 else 0) = if r = 0 then 1 else 0
    rw [show pc 0 = 0 from by decide]
    by_cases h : r = 0
    · rw [if_pos h, if_pos h.symm]
    · rw [if_neg h, if_neg (fun e => h e.symm)]
  | j + 1, r, hj => by
    rw [show 2 ^ (j + 1) = 2 ^ j + 2 ^ j by rw [Nat.pow_succ]; omega, cpN_split (by omega) _ (Nat.le_refl _), cpN_bi j r (by omega)]
    show _ = biN j r + if r = 0 then 0 else biN j (r - 1)
    by_cases h : r = 0
    · rw [if_pos h, if_pos h]
    · rw [if_neg h, if_neg h, cpN_bi j _ (by omega)]
theorem bi_mbt : ∀ j : Fin 10, ∀ r : Fin 10, biN j.val r.val ≤ mbt j.val := by decide
theorem biN_0 : ∀ (j r : Nat), j < r → biN j r = 0
  | 0, r, h => if_neg (by omega)
  | j + 1, r, h => by
    show biN j r + (if r = 0 then 0 else biN j (r - 1)) = 0
    rw [biN_0 j r (by omega), if_neg (by omega), biN_0 j (r - 1) (by omega)]
theorem cpN_mono {r a : Nat} : ∀ b, a ≤ b → cpN r a ≤ cpN r b
  | 0, h => by rw [show a = 0 by omega]; exact Nat.le_refl _
  | b + 1, h => by
    by_cases e : a = b + 1
    · rw [e]; exact Nat.le_refl _
    · have := cpN_mono (r := r) (a := a) b (by omega)
      show cpN r a ≤ cpN r b + _
      omega
theorem cm_le {A : rn_L} {sg : Nat → Bool} {c mi s q m : Nat} (hL : LcN A sg s ≤ 9) (hmi : mi ≤ c) (hc : c ≤ 8) (hm : m ≤ 2 ^ LcN A sg s) : cmN A sg c mi s q m ≤ mbt (LcN A sg s) := by
  have key : ∀ m, ∃ r, cmN A sg c mi s q m ≤ cpN r m ∧ ∀ m', cmN A sg c mi s q m' ≤ cpN r m' := by
    intro m
    have h1 : ∀ m', cmN A sg c mi s q m' ≤ cpN ((q + (LcN A sg s + 3 * mi) - (pc s + c + 40)) / 2) m' := by
      intro m'
      induction m' with
      | zero => exact Nat.le_refl _
      | succ m' ih =>
        refine Nat.add_le_add ih ?_
        by_cases h9 : qvN A sg c mi s m' = q
        · rw [if_pos h9, if_pos (by unfold qvN at h9; omega)]
          exact Nat.le_refl _
        · rw [if_neg h9]
          exact Nat.zero_le _
    exact ⟨_, h1 m, h1⟩
  obtain ⟨r, h1, -⟩ := key m
  have h2 := cpN_mono (r := r) (a := m) (2 ^ LcN A sg s) hm
  rw [cpN_bi _ _ (by omega)] at h2
  have h3 : biN (LcN A sg s) r ≤ mbt (LcN A sg s) := by
    rcases Nat.lt_or_ge r 10 with h9 | h9
    · exact bi_mbt ⟨LcN A sg s, by omega⟩ ⟨r, h9⟩
    · rw [biN_0 _ _ (by omega)]; exact Nat.zero_le _
  omega
/-- what placeAll leaves -/
def plA (y : ow_MS) (A : rn_L) (sg : Nat → Bool) (c : Nat) : Prop := (∀ i, i < 800 → inR y 85 i 1141) ∧ ∀ i, i < bsN A sg (2 ^ c) → inR y 84 i 1200
abbrev plH (g : Nat) : Prop := 84 ≤ g ∧ g ≤ 87
theorem u_X13_placeAll_2 {x1 : Int32} {x2 : Int32} {x3 : Int32} {z : ow_MS} {Q : ow_MS → Prop} (H : Tt (fun K k => qm_X13_placeAll_2 K (q_X13_placeAll K k) x1 x2 x3 z) Q) : Tt (fun K k => q_X13_placeAll K k 2 x1 x2 x3 z) Q := w_un (fun _ _ => rfl) H
theorem u_X13_placeAll_3 {x1 : Int32} {x2 : Int32} {x3 : Int32} {z : ow_MS} {Q : ow_MS → Prop} (H : Tt (fun K k => qm_X13_placeAll_3 K (q_X13_placeAll K k) x1 x2 x3 z) Q) : Tt (fun K k => q_X13_placeAll K k 3 x1 x2 x3 z) Q := w_un (fun _ _ => rfl) H
theorem u_X13_placeAll_1 {x1 : Int32} {x2 : Int32} {x3 : Int32} {z : ow_MS} {Q : ow_MS → Prop} (H : Tt (fun K k => qm_X13_placeAll_1 K (q_X13_placeAll K k) x1 x2 x3 z) Q) : Tt (fun K k => q_X13_placeAll K k 1 x1 x2 x3 z) Q := w_un (fun _ _ => rfl) H
theorem e_X13_placeAll {x1 : Int32} {z : ow_MS} {Q : ow_MS → Prop} (H : Tt (fun K k => q_X13_placeAll K k 0 x1 0 0 z) Q) : Te (fun K => qe_X13_placeAll K x1 z) Q := w_te H
theorem u_X13_placeAll_0 {x1 : Int32} {x2 : Int32} {x3 : Int32} {z : ow_MS} {Q : ow_MS → Prop} (H : Tt (fun K k => qm_X13_placeAll_0 K (q_X13_placeAll K k) x1 x2 x3 z) Q) : Tt (fun K k => q_X13_placeAll K k 0 x1 x2 x3 z) Q := w_un (fun _ _ => rfl) H
theorem tp_placeAll {c P mi : Nat} {A : rn_L} {sg : Nat → Bool} (hK : chOK A sg c P) (hI : stI z A sg c) (h88 : z.1 88 = nI mi) (hmi : mi ≤ c) : Te (fun K => qe_X13_placeAll K (nI c) z) (fun z1 => plA z1 A sg c ∧ fr plH z z1) := by
  have hK' := hK
  obtain ⟨hok, hc, hC, hL9, hbs, hblk⟩ := hK
  have h2c : 2 ^ c ≤ 256 := two_mono (b := 8) hc
  let Q : ow_MS → Prop := fun z1 => plA z1 A sg c ∧ fr plH z z1
  have iF : ∀ {y : ow_MS}, fr plH z y → stI y A sg c := fun hf => stI_fr hf (by unfold plH; omega) (by unfold plH; omega) (by unfold plH; omega) hI
  let w : Nat → Nat := fun s => mbt (LcN A sg s)
  have wle : ∀ h s, s ≤ 2 ^ c → smH w h 0 s ≤ 1140 := fun h s hs => Nat.le_trans (smH_mono _ hs) (hblk h)
  have c2 : ∀ (d s : Nat) (y : ow_MS), s + d = 2 ^ c → fr plH z y → (∀ h q, h < 10 → q < 80 → ∃ v, v ≤ smH w h 0 s ∧ y.2.1 85 (80 * h + q) = nI v) → (∀ i, i < bsN A sg s → inR y 84 i 1200) → Tt (fun K i => q_X13_placeAll K i 2 (nI c) (nI s) 0 y) Q := by
    intro d
    induction d with
    | zero =>
      intro s y hs hf h85 h84
      have hs : s = 2 ^ c := by omega
      refine u_X13_placeAll_2 ?_; unfold qm_X13_placeAll_2
      rw [shl1 (by omega)]
      refine w_leT (by omega) (by omega) (w_some ⟨⟨fun i hi => ?_, fun i hi => h84 i (by rw [hs]; exact hi)⟩, hf⟩)
      obtain ⟨v, hv, ev⟩ := h85 (i / 80) (i % 80) (by omega) (by omega)
      rw [show 80 * (i / 80) + i % 80 = i by omega] at ev
      have := wle (i / 80) s (by omega)
      exact ⟨v, by omega, ev⟩
    | succ d ih =>
      intro s y hs hf h85 h84
      have hsl : s < 2 ^ c := by omega
      have hL := hL9 s hsl
      have h2L : 2 ^ LcN A sg s ≤ 512 := two_mono (b := 9) hL
      have hps := pc_le hsl
      have hb1 : bsN A sg (s + 1) ≤ 13122 := Nat.le_trans (bs_mono (by omega)) hbs
      rw [bs_s] at hb1
      have hss : ∀ h, smH w h 0 (s + 1) = smH w h 0 s + if pc s = h then w s else 0 := fun h => by
        show smH w h 0 s + (if pc s = h then w (0 + s) else 0) = _
        rw [Nat.zero_add]
      have c3 : ∀ (d2 m : Nat) (y : ow_MS), m + d2 = 2 ^ LcN A sg s → fr plH z y → (∀ h q, h < 10 → q < 80 → ∃ v, v ≤ smH w h 0 s + (if pc s = h then cmN A sg c mi s q m else 0) ∧ y.2.1 85 (80 * h + q) = nI v) → (∀ i, i < bsN A sg s + m → inR y 84 i 1200) → Tt (fun K i => q_X13_placeAll K i 3 (nI c) (nI s) (nI m) y) Q := by
        intro d2
        induction d2 with
        | zero =>
          intro m y hm hf h85 h84
          refine u_X13_placeAll_3 ?_; unfold qm_X13_placeAll_3
          refine w_rdI ml82 rfl (by omega) ((iF hf).1 s hsl) ?_
          rw [shl1 (by omega), nI_1]
          refine w_leT (by omega) (by omega) (ih (s + 1) y (by omega) hf (fun h q hh hq => ?_) (fun i hi => h84 i (by rw [bs_s] at hi; omega)))
          obtain ⟨v, hv, ev⟩ := h85 h q hh hq
          refine ⟨v, ?_, ev⟩
          rw [hss]
          have := cm_le (A := A) (sg := sg) (c := c) (mi := mi) (s := s) (q := q) (m := m) hL hmi hc (by omega)
          have this : cmN A sg c mi s q m ≤ w s := this
          by_cases hps2 : pc s = h
          · rw [if_pos hps2] at hv ⊢; omega
          · rw [if_neg hps2] at hv ⊢; omega
        | succ d2 ih3 =>
          intro m y hm hf h85 h84
          have hml : m < 2 ^ LcN A sg s := by omega
          have hIy := iF hf
          have h88y : y.1 88 = nI mi := by rw [(hf 88 (by unfold plH; omega)).1]; exact h88
          obtain ⟨tq, hq80⟩ := tp_qOf hK' hIy h88y hmi hsl hml
          obtain ⟨v, hv, ev⟩ := h85 (pc s) (qvN A sg c mi s m) (by omega) hq80
          rw [if_pos rfl] at hv
          have hcm := cm_le (A := A) (sg := sg) (c := c) (mi := mi) (s := s) (q := qvN A sg c mi s m) (m := m + 1) hL hmi hc (by omega)
          have hcs : cmN A sg c mi s (qvN A sg c mi s m) (m + 1) = cmN A sg c mi s (qvN A sg c mi s m) m + 1 := by
            show _ + (if _ then 1 else 0) = _
            rw [if_pos rfl]
          have hw1 := wle (pc s) (s + 1) (by omega)
          rw [hss, if_pos rfl] at hw1
          have hw1 : smH w (pc s) 0 s + mbt (LcN A sg s) ≤ 1140 := hw1
          refine u_X13_placeAll_3 ?_; unfold qm_X13_placeAll_3
          refine w_rdI ml82 rfl (by omega) (hIy.1 s hsl) ?_
          rw [shl1 (by omega)]
          refine w_leF (by omega) (by omega) (w_rdF h88y (w_cs1 tq (fun a y1 e1 => ?_)))
          cases e1
          rw [bc_pc (by omega), show (80 : Int32) * nI (pc s) = nI (80 * pc s) from pk_mul 80 _, nI_add, nI_1]
          refine w_rdI ml83 rfl (by omega) (hIy.2.1 s (by omega)) (w_rdI ml85 rfl (by omega) ev (w_wrI (i := bsN A sg s + m) ml84 (nI_add _ _) (by omega) (w_rdI (x := nI v) ml85 rfl (by omega) (rd_ot (by omega) ev) (w_wrI ml85 rfl (by omega) (ih3 (m + 1) _ (by omega) (fr_I2 (fr_I2 hf (by unfold plH; omega)) (by unfold plH; omega)) (fun h q hh hq => ?_) (fun i hi => inR_ot (by omega) ?_))))))
          · by_cases hat : 80 * h + q = 80 * pc s + qvN A sg c mi s m
            · have e1 : h = pc s := by omega
              have e2 : q = qvN A sg c mi s m := by omega
              rw [e1, e2]
              refine ⟨v + 1, ?_, po_usI_at.trans (nI_1 v)⟩
              rw [if_pos rfl, hcs]
              omega
            · obtain ⟨v2, hv2, ev2⟩ := h85 h q hh hq
              refine ⟨v2, Nat.le_trans hv2 ?_, rd_ne hat (rd_ot (by omega) ev2)⟩
              by_cases hps2 : pc s = h
              · rw [if_pos hps2, if_pos hps2]
                exact Nat.add_le_add_left (Nat.le_add_right _ _) _
              · rw [if_neg hps2, if_neg hps2]
                exact Nat.le_refl _
          · by_cases hi2 : i = bsN A sg s + m
            · rw [hi2]; exact inR_set (by omega)
            · exact inR_keep (h84 i (by omega)) ⟨v, by omega, rfl⟩
      refine u_X13_placeAll_2 ?_; unfold qm_X13_placeAll_2
      rw [shl1 (by omega)]
      refine w_leF (by omega) (by omega) (c3 (2 ^ LcN A sg s) 0 y (by omega) hf (fun h q hh hq => ?_) (fun i hi => h84 i (by omega)))
      obtain ⟨v, hv, ev⟩ := h85 h q hh hq
      exact ⟨v, by omega, ev⟩
  have c1 : ∀ (d i : Nat) (y : ow_MS), i + d = 800 → fr plH z y → (∀ k, k < i → y.2.1 85 k = 0) → Tt (fun K t => q_X13_placeAll K t 1 (nI c) (nI i) 0 y) Q := by
    intro d
    induction d with
    | zero =>
      intro i y hi hf h0
      refine u_X13_placeAll_1 ?_; unfold qm_X13_placeAll_1
      exact w_leT (a := 800) (by omega) (by omega) (c2 (2 ^ c) 0 y (by omega) hf (fun h q hh hq => ⟨0, Nat.zero_le _, h0 _ (by omega)⟩) (fun k hk => absurd hk (by show ¬ k < 0; omega)))
    | succ d ih =>
      intro i y hi hf h0
      refine u_X13_placeAll_1 ?_; unfold qm_X13_placeAll_1
      rw [nI_1]
      refine w_leF (a := 800) (by omega) (by omega) (w_wrI ml85 rfl (by omega) (w_wrI ml86 rfl (by omega) (w_wrI ml87 rfl (by omega) (ih (i + 1) _ (by omega) (fr_I2 (fr_I2 (fr_I2 hf (by unfold plH; omega)) (by unfold plH; omega)) (by unfold plH; omega)) (fun k hk => rd_ot (by omega) (rd_ot (by omega) ?_))))))
      by_cases hki : k = i
      · rw [hki, po_usI_at]
      · exact rd_ne hki (h0 k (by omega))
  refine e_X13_placeAll ?_
  refine u_X13_placeAll_0 ?_; unfold qm_X13_placeAll_0
  exact c1 800 0 z (by omega) fr_rf (fun k hk => absurd hk (by omega))
end CHA
end
section
/-! 99zzzx.chainB -/
/-! chain: the steps -/
theorem or_512 : ∀ a : Fin 32, ∀ b : Fin 16, ∀ l : Fin 9, nI (16 * a.val + b.val) ||| ((1 : Int32) <<< (nI l.val &&& 31)) = nI ((16 * a.val + b.val) ||| 2 ^ l.val) := by decide +kernel
theorem or_bit {r l L : Nat} (hr : r < 2 ^ L) (hl : l < L) (hL : L ≤ 9) : ∃ r', r' < 2 ^ L ∧ nI r ||| ((1 : Int32) <<< (nI l &&& 31)) = nI r' := by
  have h2 : 2 ^ L ≤ 512 := two_mono (b := 9) hL
  have := or_512 ⟨r / 16, by omega⟩ ⟨r % 16, by omega⟩ ⟨l, by omega⟩
  rw [show 16 * (r / 16) + r % 16 = r by omega] at this
  exact ⟨_, Nat.or_lt_two_pow hr (Nat.pow_lt_pow_right (by decide) hl), this⟩
theorem st_256 : ∀ a : Fin 16, ∀ b : Fin 16, ∀ x : Fin 8, btN (16 * a.val + b.val) x.val = 0 → nI (16 * a.val + b.val) ||| ((1 : Int32) <<< (nI x.val &&& 31)) = nI (16 * a.val + b.val + 2 ^ x.val) := by decide +kernel
theorem st_or {s x : Nat} (hs : s < 256) (hx : x < 8) (hb : btN s x = 0) : nI s ||| ((1 : Int32) <<< (nI x &&& 31)) = nI (s + 2 ^ x) := by
  have := st_256 ⟨s / 16, by omega⟩ ⟨s % 16, by omega⟩ ⟨x, hx⟩
  rw [show 16 * (s / 16) + s % 16 = s by omega] at this
  exact this hb
theorem st_lt {s x c : Nat} (hs : s < 2 ^ c) (hx : x < c) (hb : btN s x = 0) : s + 2 ^ x < 2 ^ c := by
  unfold btN at hb
  obtain ⟨y, rfl⟩ : ∃ y, c = x + 1 + y := ⟨c - x - 1, by omega⟩
  have hp := Nat.two_pow_pos x
  have e1 : 2 ^ (x + 1 + y) = 2 ^ x * (2 * 2 ^ y) := by rw [Nat.pow_add, Nat.pow_succ, Nat.mul_assoc]
  rw [e1] at hs ⊢
  have h1 := Nat.div_add_mod s (2 ^ x)
  have h2 := Nat.mod_lt s hp
  have h3 : s / 2 ^ x < 2 * 2 ^ y := Nat.div_lt_of_lt_mul hs
  have h4 : s / 2 ^ x + 1 < 2 * 2 ^ y := by omega
  have h5 : 2 ^ x * (s / 2 ^ x + 1 + 1) ≤ 2 ^ x * (2 * 2 ^ y) := Nat.mul_le_mul_left _ h4
  rw [Nat.mul_add, Nat.mul_add, Nat.mul_one] at h5
  omega
/-- the work row: below size at most b -/
def wkB (y : ow_MS) (size b : Nat) : Prop := ∀ i, i < size → ∃ w, w ≤ b ∧ y.2.1 89 i = nI w
theorem wkB_add {y : ow_MS} {size b i k : Nat} {x v : Int32} (h : wkB y size b) (hv : y.2.1 89 i = v) (hx : x = nI k) : wkB (usI y 89 i (v + x)) size (b + k) := by
  intro j hj
  by_cases hji : j = i
  · obtain ⟨w, hw, e⟩ := h j hj
    rw [hji] at e
    exact ⟨w + k, by omega, by rw [hji, po_usI_at, ← hv, e, hx, nI_add]⟩
  · obtain ⟨w, hw, e⟩ := h j hj
    exact ⟨w, by omega, rd_ne hji e⟩
theorem wkB_mono {y : ow_MS} {size b b2 : Nat} (hb : b ≤ b2) (h : wkB y size b) : wkB y size b2 := fun i hi => by
  obtain ⟨w, hw, e⟩ := h i hi
  exact ⟨w, by omega, e⟩
section CHB
variable {z : ow_MS}
theorem u_X13_step_13 {x2 : Int32} {x3 : Int32} {x4 : Int32} {x5 : Int32} {x6 : Int32} {x7 : Int32} {x8 : Int32} {x9 : Int32} {x10 : Int32} {x11 : Int32} {x12 : Int32} {x13 : Int32} {x14 : Int32} {x15 : Int32} {x16 : Int32} {x17 : Int32} {r1 : Nat} {t0 : Int32} {z : ow_MS} {Q : ow_MS → Prop} (H : Tt (fun K k => qm_X13_step_13 K (q_X13_step K k) x2 x3 x4 x5 x6 x7 x8 x9 x10 x11 x12 x13 x14 x15 x16 x17 r1 t0 z) Q) : Tt (fun K k => q_X13_step K k 13 x2 x3 x4 x5 x6 x7 x8 x9 x10 x11 x12 x13 x14 x15 x16 x17 r1 t0 z) Q := w_un (fun _ _ => rfl) H
theorem u_X13_step_12 {x2 : Int32} {x3 : Int32} {x4 : Int32} {x5 : Int32} {x6 : Int32} {x7 : Int32} {x8 : Int32} {x9 : Int32} {x10 : Int32} {x11 : Int32} {x12 : Int32} {x13 : Int32} {x14 : Int32} {x15 : Int32} {x16 : Int32} {x17 : Int32} {r1 : Nat} {t0 : Int32} {z : ow_MS} {Q : ow_MS → Prop} (H : Tt (fun K k => qm_X13_step_12 K (q_X13_step K k) x2 x3 x4 x5 x6 x7 x8 x9 x10 x11 x12 x13 x14 x15 x16 x17 r1 t0 z) Q) : Tt (fun K k => q_X13_step K k 12 x2 x3 x4 x5 x6 x7 x8 x9 x10 x11 x12 x13 x14 x15 x16 x17 r1 t0 z) Q := w_un (fun _ _ => rfl) H
theorem u_X13_step_11 {x2 : Int32} {x3 : Int32} {x4 : Int32} {x5 : Int32} {x6 : Int32} {x7 : Int32} {x8 : Int32} {x9 : Int32} {x10 : Int32} {x11 : Int32} {x12 : Int32} {x13 : Int32} {x14 : Int32} {x15 : Int32} {x16 : Int32} {x17 : Int32} {r1 : Nat} {t0 : Int32} {z : ow_MS} {Q : ow_MS → Prop} (H : Tt (fun K k => qm_X13_step_11 K (q_X13_step K k) x2 x3 x4 x5 x6 x7 x8 x9 x10 x11 x12 x13 x14 x15 x16 x17 r1 t0 z) Q) : Tt (fun K k => q_X13_step K k 11 x2 x3 x4 x5 x6 x7 x8 x9 x10 x11 x12 x13 x14 x15 x16 x17 r1 t0 z) Q := w_un (fun _ _ => rfl) H
theorem u_X13_step_10 {x2 : Int32} {x3 : Int32} {x4 : Int32} {x5 : Int32} {x6 : Int32} {x7 : Int32} {x8 : Int32} {x9 : Int32} {x10 : Int32} {x11 : Int32} {x12 : Int32} {x13 : Int32} {x14 : Int32} {x15 : Int32} {x16 : Int32} {x17 : Int32} {r1 : Nat} {t0 : Int32} {z : ow_MS} {Q : ow_MS → Prop} (H : Tt (fun K k => qm_X13_step_10 K (q_X13_step K k) x2 x3 x4 x5 x6 x7 x8 x9 x10 x11 x12 x13 x14 x15 x16 x17 r1 t0 z) Q) : Tt (fun K k => q_X13_step K k 10 x2 x3 x4 x5 x6 x7 x8 x9 x10 x11 x12 x13 x14 x15 x16 x17 r1 t0 z) Q := w_un (fun _ _ => rfl) H
theorem u_X13_step_9 {x2 : Int32} {x3 : Int32} {x4 : Int32} {x5 : Int32} {x6 : Int32} {x7 : Int32} {x8 : Int32} {x9 : Int32} {x10 : Int32} {x11 : Int32} {x12 : Int32} {x13 : Int32} {x14 : Int32} {x15 : Int32} {x16 : Int32} {x17 : Int32} {r1 : Nat} {t0 : Int32} {z : ow_MS} {Q : ow_MS → Prop} (H : Tt (fun K k => qm_X13_step_9 K (q_X13_step K k) x2 x3 x4 x5 x6 x7 x8 x9 x10 x11 x12 x13 x14 x15 x16 x17 r1 t0 z) Q) : Tt (fun K k => q_X13_step K k 9 x2 x3 x4 x5 x6 x7 x8 x9 x10 x11 x12 x13 x14 x15 x16 x17 r1 t0 z) Q := w_un (fun _ _ => rfl) H
theorem u_X13_step_7 {x2 : Int32} {x3 : Int32} {x4 : Int32} {x5 : Int32} {x6 : Int32} {x7 : Int32} {x8 : Int32} {x9 : Int32} {x10 : Int32} {x11 : Int32} {x12 : Int32} {x13 : Int32} {x14 : Int32} {x15 : Int32} {x16 : Int32} {x17 : Int32} {r1 : Nat} {t0 : Int32} {z : ow_MS} {Q : ow_MS → Prop} (H : Tt (fun K k => qm_X13_step_7 K (q_X13_step K k) x2 x3 x4 x5 x6 x7 x8 x9 x10 x11 x12 x13 x14 x15 x16 x17 r1 t0 z) Q) : Tt (fun K k => q_X13_step K k 7 x2 x3 x4 x5 x6 x7 x8 x9 x10 x11 x12 x13 x14 x15 x16 x17 r1 t0 z) Q := w_un (fun _ _ => rfl) H
theorem u_X13_step_8 {x2 : Int32} {x3 : Int32} {x4 : Int32} {x5 : Int32} {x6 : Int32} {x7 : Int32} {x8 : Int32} {x9 : Int32} {x10 : Int32} {x11 : Int32} {x12 : Int32} {x13 : Int32} {x14 : Int32} {x15 : Int32} {x16 : Int32} {x17 : Int32} {r1 : Nat} {t0 : Int32} {z : ow_MS} {Q : ow_MS → Prop} (H : Tt (fun K k => qm_X13_step_8 K (q_X13_step K k) x2 x3 x4 x5 x6 x7 x8 x9 x10 x11 x12 x13 x14 x15 x16 x17 r1 t0 z) Q) : Tt (fun K k => q_X13_step K k 8 x2 x3 x4 x5 x6 x7 x8 x9 x10 x11 x12 x13 x14 x15 x16 x17 r1 t0 z) Q := w_un (fun _ _ => rfl) H
theorem u_X13_step_5 {x2 : Int32} {x3 : Int32} {x4 : Int32} {x5 : Int32} {x6 : Int32} {x7 : Int32} {x8 : Int32} {x9 : Int32} {x10 : Int32} {x11 : Int32} {x12 : Int32} {x13 : Int32} {x14 : Int32} {x15 : Int32} {x16 : Int32} {x17 : Int32} {r1 : Nat} {t0 : Int32} {z : ow_MS} {Q : ow_MS → Prop} (H : Tt (fun K k => qm_X13_step_5 K (q_X13_step K k) x2 x3 x4 x5 x6 x7 x8 x9 x10 x11 x12 x13 x14 x15 x16 x17 r1 t0 z) Q) : Tt (fun K k => q_X13_step K k 5 x2 x3 x4 x5 x6 x7 x8 x9 x10 x11 x12 x13 x14 x15 x16 x17 r1 t0 z) Q := w_un (fun _ _ => rfl) H
theorem u_X13_step_6 {x2 : Int32} {x3 : Int32} {x4 : Int32} {x5 : Int32} {x6 : Int32} {x7 : Int32} {x8 : Int32} {x9 : Int32} {x10 : Int32} {x11 : Int32} {x12 : Int32} {x13 : Int32} {x14 : Int32} {x15 : Int32} {x16 : Int32} {x17 : Int32} {r1 : Nat} {t0 : Int32} {z : ow_MS} {Q : ow_MS → Prop} (H : Tt (fun K k => qm_X13_step_6 K (q_X13_step K k) x2 x3 x4 x5 x6 x7 x8 x9 x10 x11 x12 x13 x14 x15 x16 x17 r1 t0 z) Q) : Tt (fun K k => q_X13_step K k 6 x2 x3 x4 x5 x6 x7 x8 x9 x10 x11 x12 x13 x14 x15 x16 x17 r1 t0 z) Q := w_un (fun _ _ => rfl) H
theorem u_X13_step_4 {x2 : Int32} {x3 : Int32} {x4 : Int32} {x5 : Int32} {x6 : Int32} {x7 : Int32} {x8 : Int32} {x9 : Int32} {x10 : Int32} {x11 : Int32} {x12 : Int32} {x13 : Int32} {x14 : Int32} {x15 : Int32} {x16 : Int32} {x17 : Int32} {r1 : Nat} {t0 : Int32} {z : ow_MS} {Q : ow_MS → Prop} (H : Tt (fun K k => qm_X13_step_4 K (q_X13_step K k) x2 x3 x4 x5 x6 x7 x8 x9 x10 x11 x12 x13 x14 x15 x16 x17 r1 t0 z) Q) : Tt (fun K k => q_X13_step K k 4 x2 x3 x4 x5 x6 x7 x8 x9 x10 x11 x12 x13 x14 x15 x16 x17 r1 t0 z) Q := w_un (fun _ _ => rfl) H
theorem u_X13_step_3 {x2 : Int32} {x3 : Int32} {x4 : Int32} {x5 : Int32} {x6 : Int32} {x7 : Int32} {x8 : Int32} {x9 : Int32} {x10 : Int32} {x11 : Int32} {x12 : Int32} {x13 : Int32} {x14 : Int32} {x15 : Int32} {x16 : Int32} {x17 : Int32} {r1 : Nat} {t0 : Int32} {z : ow_MS} {Q : ow_MS → Prop} (H : Tt (fun K k => qm_X13_step_3 K (q_X13_step K k) x2 x3 x4 x5 x6 x7 x8 x9 x10 x11 x12 x13 x14 x15 x16 x17 r1 t0 z) Q) : Tt (fun K k => q_X13_step K k 3 x2 x3 x4 x5 x6 x7 x8 x9 x10 x11 x12 x13 x14 x15 x16 x17 r1 t0 z) Q := w_un (fun _ _ => rfl) H
theorem u_X13_step_2 {x2 : Int32} {x3 : Int32} {x4 : Int32} {x5 : Int32} {x6 : Int32} {x7 : Int32} {x8 : Int32} {x9 : Int32} {x10 : Int32} {x11 : Int32} {x12 : Int32} {x13 : Int32} {x14 : Int32} {x15 : Int32} {x16 : Int32} {x17 : Int32} {r1 : Nat} {t0 : Int32} {z : ow_MS} {Q : ow_MS → Prop} (H : Tt (fun K k => qm_X13_step_2 K (q_X13_step K k) x2 x3 x4 x5 x6 x7 x8 x9 x10 x11 x12 x13 x14 x15 x16 x17 r1 t0 z) Q) : Tt (fun K k => q_X13_step K k 2 x2 x3 x4 x5 x6 x7 x8 x9 x10 x11 x12 x13 x14 x15 x16 x17 r1 t0 z) Q := w_un (fun _ _ => rfl) H
theorem u_X13_step_1 {x2 : Int32} {x3 : Int32} {x4 : Int32} {x5 : Int32} {x6 : Int32} {x7 : Int32} {x8 : Int32} {x9 : Int32} {x10 : Int32} {x11 : Int32} {x12 : Int32} {x13 : Int32} {x14 : Int32} {x15 : Int32} {x16 : Int32} {x17 : Int32} {r1 : Nat} {t0 : Int32} {z : ow_MS} {Q : ow_MS → Prop} (H : Tt (fun K k => qm_X13_step_1 K (q_X13_step K k) x2 x3 x4 x5 x6 x7 x8 x9 x10 x11 x12 x13 x14 x15 x16 x17 r1 t0 z) Q) : Tt (fun K k => q_X13_step K k 1 x2 x3 x4 x5 x6 x7 x8 x9 x10 x11 x12 x13 x14 x15 x16 x17 r1 t0 z) Q := w_un (fun _ _ => rfl) H
theorem e_X13_step {r1 : Nat} {x2 : Int32} {x3 : Int32} {x4 : Int32} {x5 : Int32} {z : ow_MS} {Q : ow_MS → Prop} (H : Tt (fun K k => q_X13_step K k 0 x2 x3 x4 x5 0 0 0 0 0 0 0 0 0 0 0 0 r1 0 z) Q) : Te (fun K => qe_X13_step K r1 x2 x3 x4 x5 z) Q := w_te H
theorem u_X13_step_0 {x2 : Int32} {x3 : Int32} {x4 : Int32} {x5 : Int32} {x6 : Int32} {x7 : Int32} {x8 : Int32} {x9 : Int32} {x10 : Int32} {x11 : Int32} {x12 : Int32} {x13 : Int32} {x14 : Int32} {x15 : Int32} {x16 : Int32} {x17 : Int32} {r1 : Nat} {t0 : Int32} {z : ow_MS} {Q : ow_MS → Prop} (H : Tt (fun K k => qm_X13_step_0 K (q_X13_step K k) x2 x3 x4 x5 x6 x7 x8 x9 x10 x11 x12 x13 x14 x15 x16 x17 r1 t0 z) Q) : Tt (fun K k => q_X13_step K k 0 x2 x3 x4 x5 x6 x7 x8 x9 x10 x11 x12 x13 x14 x15 x16 x17 r1 t0 z) Q := w_un (fun _ _ => rfl) H
theorem tp_step {n c P s m x pr size b : Nat} {A : rn_L} {sg : Nat → Bool} (hn : mw_net n) (hK : chOK A sg c P) (hA : oNet z n A sg) (hI : stI z A sg c) (hpl : plA z A sg c) (hs : s < 2 ^ c) (hx : x < c) (hb : btN s x = 0) (hpr1 : 2 ≤ pr) (hpr : pr ≤ 997) (hw : wkB z size b) : Te (fun K => qe_X13_step K n (nI s) (nI m) (nI x) (nI pr) z) (fun z1 => wkB z1 size (b + 2 * pr) ∧ fr (fun g => g = 89) z z1) := by
  obtain ⟨hok, hc, hC, hL9, hbs, -⟩ := hK
  have hV := okF_len hok
  have hd := wkF_ok hA.wk
  have hmn := net_mod hn
  have h2c : 2 ^ c ≤ 256 := two_mono (b := 8) hc
  have ht := st_lt hs hx hb
  have hLs := hL9 s hs
  have hLt := hL9 (s + 2 ^ x) ht
  have hb1 : bsN A sg (s + 2 ^ x + 1) ≤ bsN A sg (2 ^ c) := bs_mono ht
  rw [bs_s] at hb1
  let Q : ow_MS → Prop := fun z1 => wkB z1 size (b + 2 * pr) ∧ fr (fun g => g = 89) z z1
  have lo : ∀ {t g : Nat}, t < 2 ^ c → g < A.flatten.length → ∃ l, l < LcN A sg t ∧ z.2.1 81 (32 * t + g) = nI l := fun h1 h2 => hI.2.2 _ _ h1 h2
  obtain ⟨v0, v01, v02⟩ := ok_has hok hx
  -- the place of what comes
  have plc : ∀ {r : Nat}, r < 2 ^ LcN A sg (s + 2 ^ x) → ∃ k, k < 1200 ∧ z.2.1 84 (bsN A sg (s + 2 ^ x) + r) = nI k := fun hr => hpl.2 _ (by omega)
  have c1 : ∀ (d v : Nat), v + d = v0 → (∀ u, u < v → crs A u ≠ x) → Tt (fun K i => q_X13_step K i 1 (nI s) (nI m) (nI x) (nI pr) (nI v) 0 0 0 0 0 0 0 0 0 0 0 n 0 z) Q := by
    have found : ∀ v, v < A.flatten.length → crs A v = x → Tt (fun K i => q_X13_step K i 1 (nI s) (nI m) (nI x) (nI pr) (nI v) 0 0 0 0 0 0 0 0 0 0 0 n 0 z) Q := by
      intro v hv hcv
      have hml := mtf_lt hd hv
      have hpv := rn_pv_lt hv
      have hpm := rn_pv_lt hml
      obtain ⟨la, la1, la2⟩ := lo hs hv
      obtain ⟨lb, lb1, lb2⟩ := lo hs hpv
      obtain ⟨lc, lc1, lc2⟩ := lo hs hml
      obtain ⟨ld, ld1, ld2⟩ := lo hs hpm
      obtain ⟨ka, ka1, ka2⟩ := lo ht hv
      obtain ⟨kb, kb1, kb2⟩ := lo ht hpv
      obtain ⟨kc, kc1, kc2⟩ := lo ht hml
      obtain ⟨kd, kd1, kd2⟩ := lo ht hpm
      have c2 : ∀ (one : Nat), one ≤ pr → Tt (fun K i => q_X13_step K i 2 (nI s) (nI m) (nI x) (nI pr) (nI v) (nI (mtf A v)) (nI (s + 2 ^ x)) 0 0 0 0 0 0 0 0 0 n (nI one) z) Q := by
        intro one hone
        -- from label 9 on
        have put : ∀ {r : Nat} (y : ow_MS) (bb : Nat), r < 2 ^ LcN A sg (s + 2 ^ x) → fr (fun g => g = 89) z y → wkB y size bb → ∃ k, k < 1200 ∧ y.2.1 83 (s + 2 ^ x) = nI (bsN A sg (s + 2 ^ x)) ∧ y.2.1 84 (bsN A sg (s + 2 ^ x) + r) = nI k ∧ bsN A sg (s + 2 ^ x) + r < 13200 := by
          intro r y bb hr hf hwy
          obtain ⟨k, hk, ek⟩ := plc hr
          exact ⟨k, hk, by rw [(hf 83 (by omega)).2.1]; exact hI.2.1 _ (by omega), by rw [(hf 84 (by omega)).2.1]; exact ek, by omega⟩
        have add1 : ∀ {r : Nat} (y : ow_MS) (bb : Nat) {E : ow_MS → Nat → Nat → Option ow_MS} (j : Int32), r < 2 ^ LcN A sg (s + 2 ^ x) → fr (fun g => g = 89) z y → wkB y size bb → j = nI r → (∀ y1, fr (fun g => g = 89) z y1 → wkB y1 size (bb + pr) → Tt (E y1) Q) → Tt (fun K i => rdI mX y 83 (nI (s + 2 ^ x)) fun v1 => rdI mX y 84 (v1 + j) fun v2 => rdI mX y 89 v2 fun v3 => wrI mX y 89 v2 (v3 + nI one) fun y1 => E y1 K i) Q := by
          intro r y bb E j hr hf hwy hj H
          obtain ⟨k, hk, e83, e84, hlt⟩ := put y bb hr hf hwy
          refine w_rdI ml83 rfl (by omega) e83 (w_rdI (i := bsN A sg (s + 2 ^ x) + r) ml84 (by rw [hj, nI_add]) hlt e84 (w_rdI ml89 rfl (by omega) rfl (w_wrI ml89 rfl (by omega) (H _ (fr_I2 hf rfl) (wkB_mono (by omega) (wkB_add hwy rfl rfl))))))
        have c9 : ∀ (r lx ly : Nat) (x15 x16 t0 : Int32), r < 2 ^ LcN A sg (s + 2 ^ x) → ly < LcN A sg (s + 2 ^ x) → lx < LcN A sg (s + 2 ^ x) → ∀ (x10 x11 : Int32), Tt (fun K i => q_X13_step K i 9 (nI s) (nI m) (nI x) (nI pr) (nI v) (nI (mtf A v)) (nI (s + 2 ^ x)) (nI one) x10 x11 (nI lx) (nI ly) (nI r) x15 x16 0 n t0 z) Q := by
          intro r lx ly x15 x16 t0 hr hly hlx x10 x11
          obtain ⟨r1, hr1, er1⟩ := or_bit hr hlx hLt
          obtain ⟨r2, hr2, er2⟩ := or_bit hr hly hLt
          have c13 : ∀ (x16 x17 : Int32) (y : ow_MS), fr (fun g => g = 89) z y → wkB y size (b + pr) → Tt (fun K i => q_X13_step K i 13 (nI s) (nI m) (nI x) (nI pr) (nI v) (nI (mtf A v)) (nI (s + 2 ^ x)) (nI one) x10 x11 (nI lx) (nI ly) (nI r) x15 x16 x17 n 0 y) Q := by
            intro x16 x17 y hf hwy
            refine u_X13_step_13 ?_; unfold qm_X13_step_13
            exact w_some ⟨wkB_mono (by omega) hwy, hf⟩
          have c12 : ∀ (x16 x17 : Int32), Tt (fun K i => q_X13_step K i 12 (nI s) (nI m) (nI x) (nI pr) (nI v) (nI (mtf A v)) (nI (s + 2 ^ x)) (nI one) x10 x11 (nI lx) (nI ly) (nI r) x15 x16 x17 n 0 z) Q := by
            intro x16 x17
            refine u_X13_step_12 ?_; unfold qm_X13_step_12
            exact add1 z b _ hr fr_rf hw rfl (fun y1 f1 w1 => c13 _ _ y1 f1 w1)
          have c11 : ∀ (x16 x17 : Int32), Tt (fun K i => q_X13_step K i 11 (nI s) (nI m) (nI x) (nI pr) (nI v) (nI (mtf A v)) (nI (s + 2 ^ x)) (nI one) x10 x11 (nI lx) (nI ly) (nI r) x15 x16 x17 n 0 z) Q := by
            intro x16 x17
            refine u_X13_step_11 ?_; unfold qm_X13_step_11
            exact w_if (fun _ => w_if (fun _ => c13 _ _ z fr_rf (wkB_mono (by omega) hw)) (fun _ => c12 _ _)) (fun _ => c12 _ _)
          have c10 : ∀ (x16 t0 : Int32), Tt (fun K i => q_X13_step K i 10 (nI s) (nI m) (nI x) (nI pr) (nI v) (nI (mtf A v)) (nI (s + 2 ^ x)) (nI one) x10 x11 (nI lx) (nI ly) (nI r) x15 x16 0 n t0 z) Q := by
            intro x16 t0
            refine u_X13_step_10 ?_; unfold qm_X13_step_10
            exact w_if (fun _ => c11 _ _) (fun _ => w_if (fun _ => c11 _ _) (fun _ => add1 z b _ hr1 fr_rf hw er1 (fun y1 f1 w1 => c13 _ _ y1 f1 w1)))
          refine u_X13_step_9 ?_; unfold qm_X13_step_9
          exact w_if (fun _ => w_if (fun _ => add1 z b _ hr fr_rf hw rfl (fun y1 f1 w1 => w_some ⟨wkB_mono (by omega) w1, f1⟩)) (fun _ => add1 z b _ hr1 fr_rf hw er1 (fun y1 f1 w1 => add1 y1 (b + pr) _ hr2 f1 w1 er2 (fun y2 f2 w2 => w_some ⟨wkB_mono (by omega) w2, f2⟩)))) (fun _ => w_if (fun _ => c10 _ _) (fun _ => c10 _ _))
        have c7 : ∀ (d k r lx ly : Nat) (x10 x11 : Int32), k + d = eC A + 1 → 1 ≤ k → r < 2 ^ LcN A sg (s + 2 ^ x) → ly < LcN A sg (s + 2 ^ x) → lx < LcN A sg (s + 2 ^ x) → Tt (fun K i => q_X13_step K i 7 (nI s) (nI m) (nI x) (nI pr) (nI v) (nI (mtf A v)) (nI (s + 2 ^ x)) (nI one) x10 x11 (nI lx) (nI ly) (nI r) (nI (eC A)) (nI k) 0 n 0 z) Q := by
          have heC : eC A ≤ 6 := by have := neC_eC A; omega
          intro d
          induction d with
          | zero =>
            intro k r lx ly x10 x11 hk hk1 hr hly hlx
            refine u_X13_step_7 ?_; unfold qm_X13_step_7
            exact w_ltT (by omega) (by omega) (w_if (fun _ => c9 _ _ _ _ _ _ hr hly hlx _ _) (fun _ => c9 _ _ _ _ _ _ hr hly hlx _ _))
          | succ d ih7 =>
            intro k r lx ly x10 x11 hk hk1 hr hly hlx
            have hle : k ≤ LcN A sg (s + 2 ^ x) := by unfold LcN; omega
            obtain ⟨r1, hr1, er1⟩ := or_bit (l := LcN A sg (s + 2 ^ x) - k) hr (by omega) hLt
            have c8 : ∀ r, r < 2 ^ LcN A sg (s + 2 ^ x) → Tt (fun K i => q_X13_step K i 8 (nI s) (nI m) (nI x) (nI pr) (nI v) (nI (mtf A v)) (nI (s + 2 ^ x)) (nI one) x10 x11 (nI lx) (nI ly) (nI r) (nI (eC A)) (nI k) 0 n 0 z) Q := by
              intro r hr
              refine u_X13_step_8 ?_; unfold qm_X13_step_8
              rw [show nI k + 1 = nI (k + 1) from nI_1 _]
              exact ih7 (k + 1) r lx ly _ _ (by omega) (by omega) hr hly hlx
            refine u_X13_step_7 ?_; unfold qm_X13_step_7
            refine w_ltF (by omega) (by omega) (w_rdI ml82 rfl (by omega) (hI.1 s hs) (w_if (fun _ => w_rdI ml82 rfl (by omega) (hI.1 _ ht) ?_) (fun _ => c8 r hr)))
            rw [pk_sub hle, er1]
            exact c8 r1 hr1
        have c5 : ∀ (d g r lx ly : Nat) (x10 x11 : Int32), g + d = A.flatten.length → r < 2 ^ LcN A sg (s + 2 ^ x) → ly < LcN A sg (s + 2 ^ x) → lx < LcN A sg (s + 2 ^ x) → Tt (fun K i => q_X13_step K i 5 (nI s) (nI m) (nI x) (nI pr) (nI v) (nI (mtf A v)) (nI (s + 2 ^ x)) (nI one) x10 x11 (nI lx) (nI ly) (nI r) (nI g) 0 0 n 0 z) Q := by
          intro d
          induction d with
          | zero =>
            intro g r lx ly x10 x11 hg hr hly hlx
            refine u_X13_step_5 ?_; unfold qm_X13_step_5
            refine w_rdF hA.1.V (w_leT (by omega) (by omega) (w_cs1 (tp_circles2 hn (by omega) (by omega) hA.1.1) (fun a y e => ?_)))
            cases e
            exact c7 (eC A) 1 r lx ly _ _ (by omega) (Nat.le_refl _) hr hly hlx
          | succ d ih5 =>
            intro g r lx ly x10 x11 hg hr hly hlx
            have hgl : g < A.flatten.length := by omega
            obtain ⟨l, l1, l2⟩ := lo hs hgl
            obtain ⟨l', l'1, l'2⟩ := lo ht hgl
            obtain ⟨r1, hr1, er1⟩ := or_bit hr l'1 hLt
            have c6 : ∀ r (x16 : Int32), r < 2 ^ LcN A sg (s + 2 ^ x) → Tt (fun K i => q_X13_step K i 6 (nI s) (nI m) (nI x) (nI pr) (nI v) (nI (mtf A v)) (nI (s + 2 ^ x)) (nI one) x10 x11 (nI lx) (nI ly) (nI r) (nI g) x16 0 n 0 z) Q := by
              intro r x16 hr
              refine u_X13_step_6 ?_; unfold qm_X13_step_6
              rw [show nI g + 1 = nI (g + 1) from nI_1 _]
              exact ih5 (g + 1) r lx ly _ _ (by omega) hr hly hlx
            refine u_X13_step_5 ?_; unfold qm_X13_step_5
            rw [i32x, i32x]
            refine w_rdF hA.1.V (w_leF (by omega) hgl (w_rdI ml81 rfl (by omega) l2 (w_if (fun _ => c6 _ _ hr) (fun _ => w_if (fun _ => c6 _ _ hr) (fun _ => w_if (fun _ => w_rdI ml81 rfl (by omega) l'2 ?_) (fun _ => c6 _ _ hr))))))
            rw [er1]
            exact c6 _ _ hr1
        have c4 : ∀ (ly : Nat) (x10 x11 : Int32), ly < LcN A sg (s + 2 ^ x) → Tt (fun K i => q_X13_step K i 4 (nI s) (nI m) (nI x) (nI pr) (nI v) (nI (mtf A v)) (nI (s + 2 ^ x)) (nI one) x10 x11 (nI ka) 0 0 0 0 0 n (nI ly) z) Q := by
          intro ly x10 x11 hly
          refine u_X13_step_4 ?_; unfold qm_X13_step_4
          exact c5 A.flatten.length 0 0 ka ly _ _ (by omega) (Nat.two_pow_pos _) hly ka1
        have c3 : ∀ (x10 x11 : Int32), Tt (fun K i => q_X13_step K i 3 (nI s) (nI m) (nI x) (nI pr) (nI v) (nI (mtf A v)) (nI (s + 2 ^ x)) (nI one) x10 0 0 0 0 0 0 0 n x11 z) Q := by
          intro x10 x11
          refine u_X13_step_3 ?_; unfold qm_X13_step_3
          rw [i32x, i32x]
          exact w_rdI ml81 rfl (by omega) ka2 (w_rdI (pl10 hn) rfl (by omega) (lk_p hA.1 hv) (w_rdI ml81 i32x (by omega) kb2 (w_if (fun _ => w_rdI ml81 rfl (by omega) kc2 (w_if (fun _ => w_rdI (pl10 hn) rfl (by omega) (lk_p hA.1 hml) (w_rdI ml81 i32x (by omega) kd2 (c4 _ _ _ kd1))) (fun _ => w_rdI ml81 rfl (by omega) kc2 (c4 _ _ _ kc1)))) (fun _ => w_rdI (pl10 hn) rfl (by omega) (lk_p hA.1 hv) (w_rdI ml81 i32x (by omega) kb2 (c4 _ _ _ kb1))))))
        refine u_X13_step_2 ?_; unfold qm_X13_step_2
        rw [i32x, i32x]
        exact w_rdI ml81 rfl (by omega) la2 (w_rdI (pl10 hn) rfl (by omega) (lk_p hA.1 hv) (w_rdI ml81 i32x (by omega) lb2 (w_if (fun _ => w_rdI ml81 rfl (by omega) lc2 (w_if (fun _ => w_rdI (pl10 hn) rfl (by omega) (lk_p hA.1 hml) (w_rdI ml81 i32x (by omega) ld2 (c3 _ _))) (fun _ => w_rdI ml81 rfl (by omega) lc2 (c3 _ _)))) (fun _ => w_rdI (pl10 hn) rfl (by omega) (lk_p hA.1 hv) (w_rdI ml81 i32x (by omega) lb2 (c3 _ _))))))
      refine u_X13_step_1 ?_; unfold qm_X13_step_1
      refine w_rdI (pl4 hn) rfl (by omega) (lk_cu hA.1 hv).1 (w_ifT (by rw [hcv]) (w_rdI (pl7 hn) rfl (by omega) (lk_m hd hA.1 hv) ?_))
      rw [st_or (by omega) (by omega) hb]
      refine w_if (fun _ => c2 1 (by omega)) (fun _ => ?_)
      rw [show nI pr - 1 = nI (pr - 1) from pk_sub (b := 1) (by omega)]
      exact c2 (pr - 1) (by omega)
    intro d
    induction d with
    | zero =>
      intro v hv _
      exact found v (by omega) (by rw [show v = v0 by omega]; exact v02)
    | succ d ih =>
      intro v hv hall
      by_cases hcv : crs A v = x
      · exact found v (by omega) hcv
      · have hcx := (hA.cx (i := v) (by omega)).1
        refine u_X13_step_1 ?_; unfold qm_X13_step_1
        refine w_rdI (pl4 hn) rfl (by omega) (lk_cu hA.1 (by omega)).1 (w_ifF (fun e9 => hcv ((nI_eq (by omega) (by omega)).mp e9)) ?_)
        rw [show nI v + 1 = nI (v + 1) from nI_1 _]
        refine ih (v + 1) (by omega) (fun u hu => ?_)
        by_cases huv : u = v
        · rw [huv]; exact hcv
        · exact hall u (by omega)
  refine e_X13_step ?_
  refine u_X13_step_0 ?_; unfold qm_X13_step_0
  exact c1 v0 0 (by omega) (fun u hu => absurd hu (by omega))
end CHB
end
