section
/-! 99zzh.least -/
/-! leastOf: the least code of a part -/
def cdv (A : rn_L) (sg : Nat → Bool) (v : Nat) : List Nat := tks A sg (vsO A (trS A v)) (trS A v)
def lsA (a : Option (List Nat)) (T : List Nat) : Option (List Nat) := match a with
  | none => some T
  | some U => if lxb T U then some T else some U
def lsC (A : rn_L) (sg : Nat → Bool) (vs : List Nat) : Option (List Nat) := (vs.map (cdv A sg)).foldl lsA none
def pvl (A : rn_L) (m : Nat → Nat) (p k : Nat) : List Nat := (List.range k).filter (fun v => decide (m (rn_c A v) = p))
theorem pvl_s {A : rn_L} {m : Nat → Nat} {p k : Nat} : pvl A m p (k + 1) = pvl A m p k ++ if m (rn_c A k) = p then [k] else [] := by
  unfold pvl
  rw [List.range_succ, List.filter_append]
  by_cases h : m (rn_c A k) = p <;> simp [h]
theorem lsC_app {A : rn_L} {sg : Nat → Bool} {vs : List Nat} {v : Nat} : lsC A sg (vs ++ [v]) = lsA (lsC A sg vs) (cdv A sg v) := by
  unfold lsC
  rw [List.map_append, List.foldl_append]
  rfl
theorem lsA_some {a : Option (List Nat)} {T : List Nat} : ∃ U, lsA a T = some U ∧ (U = T ∨ a = some U) := by
  cases a with
  | none => exact ⟨T, rfl, Or.inl rfl⟩
  | some U =>
    unfold lsA
    by_cases h : lxb T U = true
    · exact ⟨T, if_pos h, Or.inl rfl⟩
    · exact ⟨U, if_neg h, Or.inr rfl⟩
theorem lsA_t {T U : List Nat} (h : lxb T U = true) : lsA (some U) T = some T := by
  show (if lxb T U = true then some T else some U) = some T
  rw [if_pos h]
theorem lsA_f {T U : List Nat} (h : lxb T U = false) : lsA (some U) T = some U := by
  show (if lxb T U = true then some T else some U) = some U
  rw [if_neg (by rw [h]; decide)]
theorem lsC_mem {A : rn_L} {sg : Nat → Bool} {T : List Nat} (vs : List Nat) : lsC A sg vs = some T → ∃ v, v ∈ vs ∧ T = cdv A sg v := by
  refine fm_rev (A := A) (P := fun vs => lsC A sg vs = some T → ∃ v, v ∈ vs ∧ T = cdv A sg v) (fun h => by cases h) (fun vs v ih => ?_) vs
  rw [lsC_app]
  intro h
  obtain ⟨U, h1, h2⟩ := lsA_some (a := lsC A sg vs) (T := cdv A sg v)
  rw [h] at h1
  cases h1
  rcases h2 with h2 | h2
  · exact ⟨v, by simp, h2⟩
  · obtain ⟨u, h3, h4⟩ := ih h2
    exact ⟨u, List.mem_append_left _ h3, h4⟩
theorem lsC_none {A : rn_L} {sg : Nat → Bool} {vs : List Nat} (h : lsC A sg vs = none) : vs = [] := by
  rcases List.eq_nil_or_concat vs with e | ⟨L, b, e⟩
  · exact e
  · rw [e, List.concat_eq_append, lsC_app] at h
    obtain ⟨U, h1, -⟩ := lsA_some (a := lsC A sg L) (T := cdv A sg b)
    rw [h] at h1
    cases h1
abbrev frR7 (g : Nat) : Prop := 2 ≤ g ∧ g ≤ 7
theorem u_X13_leastOf_1 {x2 : Int32} {x3 : Int32} {x4 : Int32} {x5 : Int32} {x6 : Int32} {r1 : Nat} {z : ow_MS} {Q : (Int32 × ow_MS) → Prop} (H : Tt (fun K k => qm_X13_leastOf_1 K (q_X13_leastOf K k) x2 x3 x4 x5 x6 r1 z) Q) : Tt (fun K k => q_X13_leastOf K k 1 x2 x3 x4 x5 x6 r1 z) Q := w_un (fun _ _ => rfl) H
theorem u_X13_leastOf_4 {x2 : Int32} {x3 : Int32} {x4 : Int32} {x5 : Int32} {x6 : Int32} {r1 : Nat} {z : ow_MS} {Q : (Int32 × ow_MS) → Prop} (H : Tt (fun K k => qm_X13_leastOf_4 K (q_X13_leastOf K k) x2 x3 x4 x5 x6 r1 z) Q) : Tt (fun K k => q_X13_leastOf K k 4 x2 x3 x4 x5 x6 r1 z) Q := w_un (fun _ _ => rfl) H
theorem u_X13_leastOf_3 {x2 : Int32} {x3 : Int32} {x4 : Int32} {x5 : Int32} {x6 : Int32} {r1 : Nat} {z : ow_MS} {Q : (Int32 × ow_MS) → Prop} (H : Tt (fun K k => qm_X13_leastOf_3 K (q_X13_leastOf K k) x2 x3 x4 x5 x6 r1 z) Q) : Tt (fun K k => q_X13_leastOf K k 3 x2 x3 x4 x5 x6 r1 z) Q := w_un (fun _ _ => rfl) H
theorem u_X13_leastOf_2 {x2 : Int32} {x3 : Int32} {x4 : Int32} {x5 : Int32} {x6 : Int32} {r1 : Nat} {z : ow_MS} {Q : (Int32 × ow_MS) → Prop} (H : Tt (fun K k => qm_X13_leastOf_2 K (q_X13_leastOf K k) x2 x3 x4 x5 x6 r1 z) Q) : Tt (fun K k => q_X13_leastOf K k 2 x2 x3 x4 x5 x6 r1 z) Q := w_un (fun _ _ => rfl) H
theorem e_X13_leastOf {r1 : Nat} {x2 : Int32} {x3 : Int32} {z : ow_MS} {Q : (Int32 × ow_MS) → Prop} (H : Tt (fun K k => q_X13_leastOf K k 0 x2 x3 0 0 0 r1 z) Q) : Te (fun K => qe_X13_leastOf K r1 x2 x3 z) Q := w_te H
theorem u_X13_leastOf_0 {x2 : Int32} {x3 : Int32} {x4 : Int32} {x5 : Int32} {x6 : Int32} {r1 : Nat} {z : ow_MS} {Q : (Int32 × ow_MS) → Prop} (H : Tt (fun K k => qm_X13_leastOf_0 K (q_X13_leastOf K k) x2 x3 x4 x5 x6 r1 z) Q) : Tt (fun K k => q_X13_leastOf K k 0 x2 x3 x4 x5 x6 r1 z) Q := w_un (fun _ _ => rfl) H
theorem tr_leastOf {n p o : Nat} {z : ow_MS} {A : rn_L} {sg : Nat → Bool} {m : Nat → Nat} (hn : mw_net n) (hVC : A.flatten.length + A.length ≤ 31) (hd : rn_ok A.flatten) (hL : rn_lk z n A) (hG : rn_sg z n A.flatten sg) (hM : ∀ c, c < A.length → z.2.1 (n + 12) c = nI (m c) ∧ m c < 40) (hp : p < 40) (ho : o + 32 ≤ 640) : Te (fun K => qe_X13_leastOf K n (nI p) (nI o) z) (fun r => r.1 = nI (pvl A m p A.flatten.length).length ∧ fr frR7 z r.2 ∧ (∀ i, i < o ∨ o + 32 ≤ i → r.2.2.1 7 i = z.2.1 7 i) ∧ ∀ T, lsC A sg (pvl A m p A.flatten.length) = some T → rc_At r.2 7 o T) := by
  have hm := net_mod hn
  have frK : ∀ {y y1 : ow_MS}, fr frR7 y y1 → rn_lk y n A → rn_lk y1 n A := fun hf h => fr_lk hf (fun g hg => by have := hg.2; omega) h
  have frS : ∀ {y y1 : ow_MS}, fr frR7 y y1 → rn_sg y n A.flatten sg → rn_sg y1 n A.flatten sg := fun hf h p hp => by
    rw [(hf (n + 6) (by omega)).2.1]
    exact h p hp
  have f67 : ∀ {y y1 : ow_MS}, fr frR y y1 → fr frR7 y y1 := fun hf => fr_mono (fun g hg => by have := hg.1; have := hg.2; omega) hf
  let Q : Int32 × ow_MS → Prop := fun r => r.1 = nI (pvl A m p A.flatten.length).length ∧ fr frR7 z r.2 ∧ (∀ i, i < o ∨ o + 32 ≤ i → r.2.2.1 7 i = z.2.1 7 i) ∧ ∀ T, lsC A sg (pvl A m p A.flatten.length) = some T → rc_At r.2 7 o T
  have hlen : ∀ k, (pvl A m p k).length ≤ k := fun k => Nat.le_trans (List.length_filter_le _ _) (by rw [List.length_range]; exact Nat.le_refl _)
  have main : ∀ (d v : Nat) (z1 : ow_MS), v + d = A.flatten.length → fr frR7 z z1 → (∀ i, i < o ∨ o + 32 ≤ i → z1.2.1 7 i = z.2.1 7 i) → (∀ T, lsC A sg (pvl A m p v) = some T → rc_At z1 7 o T) → Tt (fun K k => q_X13_leastOf K k 1 (nI p) (nI o) (nI (pvl A m p v).length) (nI v) 0 n z1) Q := by
    intro d
    induction d with
    | zero =>
      intro v z1 hv hf h7 hT
      have hve : v = A.flatten.length := by omega
      rw [hve] at hT ⊢
      refine u_X13_leastOf_1 ?_; unfold qm_X13_leastOf_1
      exact w_rdF (frK hf hL).V (w_leT (by omega) (Nat.le_refl _) (w_some ⟨rfl, hf, h7, hT⟩))
    | succ d ih =>
      intro v z1 hv hf h7 hT
      have hvl : v < A.flatten.length := by omega
      have hL1 := frK hf hL
      have hc := (rn_c_in A v hvl).1
      obtain ⟨m1, m2⟩ := hM _ hc
      have m3 : z1.2.1 (n + 12) (rn_c A v) = nI (m (rn_c A v)) := by
        rw [(hf (n + 12) (by omega)).2.1]
        exact m1
      have hll := hlen v
      refine u_X13_leastOf_1 ?_; unfold qm_X13_leastOf_1
      refine w_rdF hL1.V (w_leF (by omega) hvl (w_rdI (pl8 hn) rfl (by omega) (hL1.2.1 v hvl).1 (w_rdI (pl12 hn) rfl (by omega) m3 (w_eqN (by omega) (by omega) (fun he => w_cs0 (tr_rowFrom hn hVC hd hL1 (frS hf hG) hvl) (fun z2 ⟨f2, r2, s2⟩ => ?_)) (fun he => ?_)))))
      · have epv : pvl A m p (v + 1) = pvl A m p v ++ [v] := by rw [pvl_s, if_pos he]
        have els : lsC A sg (pvl A m p (v + 1)) = lsA (lsC A sg (pvl A m p v)) (cdv A sg v) := by rw [epv, lsC_app]
        have hf2 : fr frR7 z z2 := fr_tr hf (f67 f2)
        have e7 : z2.2.1 7 = z1.2.1 7 := (f2 7 (by decide)).2.1
        have r2' : rc_At z2 2 0 (cdv A sg v) := r2
        have s2' : z2.1 3 = nI (cdv A sg v).length := s2
        have hcl := r2'.1
        have c4 : ∀ z3 : ow_MS, fr frR7 z z3 → (∀ i, i < o ∨ o + 32 ≤ i → z3.2.1 7 i = z.2.1 7 i) → (∀ T, lsC A sg (pvl A m p (v + 1)) = some T → rc_At z3 7 o T) → Tt (fun K k => q_X13_leastOf K k 4 (nI p) (nI o) (nI (pvl A m p (v + 1)).length) (nI v) 0 n z3) Q := by
          intro z3 a1 a2 a3
          refine u_X13_leastOf_4 ?_; unfold qm_X13_leastOf_4
          rw [nI_1]
          exact ih (v + 1) z3 (by omega) a1 a2 a3
        have cp : lsA (lsC A sg (pvl A m p v)) (cdv A sg v) = some (cdv A sg v) → ∀ (d k : Nat) (z3 : ow_MS), k + d = (cdv A sg v).length + 1 → fr (fun g => g = 7) z2 z3 → (∀ i, i < o ∨ o + 32 ≤ i → z3.2.1 7 i = z.2.1 7 i) → (∀ i, i < k → z3.2.1 7 (o + i) = z2.2.1 2 i) → Tt (fun K k1 => q_X13_leastOf K k1 3 (nI p) (nI o) (nI (pvl A m p (v + 1)).length) (nI v) (nI k) n z3) Q := by
          intro hls d
          induction d with
          | zero =>
            intro k z3 hk f3 h73 hcp
            refine u_X13_leastOf_3 ?_; unfold qm_X13_leastOf_3
            refine w_rdF (x := nI (cdv A sg v).length) (by rw [(f3 3 (by decide)).1]; exact s2') (w_ltT (by omega) (by omega) (c4 z3 (fr_tr hf2 (fr_mono (fun g hg => by rw [hg]; decide) f3)) h73 (fun T hT9 => ?_)))
            rw [els, hls] at hT9
            cases hT9
            refine ⟨r2'.1, r2'.2.1, ?_, fun i t hi => ?_⟩
            · have := hcp 0 (by omega)
              rw [Nat.add_zero] at this
              rw [this]
              exact r2'.2.2.1
            · have hil := (List.getElem?_eq_some_iff.mp hi).1
              rw [hcp (i + 1) (by omega)]
              have := r2'.2.2.2 i t hi
              rw [Nat.zero_add] at this
              exact this
          | succ d ihd =>
            intro k z3 hk f3 h73 hcp
            refine u_X13_leastOf_3 ?_; unfold qm_X13_leastOf_3
            rw [nI_add, nI_1]
            refine w_rdF (x := nI (cdv A sg v).length) (by rw [(f3 3 (by decide)).1]; exact s2') (w_ltF (by omega) (by omega) (w_rdI ml2 rfl (by omega) (by rw [(f3 2 (by decide)).2.1]) (w_wrI ml7 rfl (by omega) ?_)))
            refine ihd (k + 1) _ (by omega) (fr_I2 f3 rfl) (fun i hi => ?_) (fun i hi => ?_)
            · exact rd_ne (by omega) (h73 i hi)
            · by_cases hik : i = k
              · rw [hik, po_usI_at]
              · exact rd_ne (by omega) (hcp i (by omega))
        have c2 : lsA (lsC A sg (pvl A m p v)) (cdv A sg v) = some (cdv A sg v) → Tt (fun K k => q_X13_leastOf K k 2 (nI p) (nI o) (nI (pvl A m p (v + 1)).length) (nI v) 0 n z2) Q := by
          intro hls
          refine u_X13_leastOf_2 ?_; unfold qm_X13_leastOf_2
          exact cp hls ((cdv A sg v).length + 1) 0 z2 (by omega) fr_rf (fun i hi => by rw [e7]; exact h7 i hi) (fun i hi => by omega)
        have epl : (pvl A m p (v + 1)).length = (pvl A m p v).length + 1 := by
          rw [epv, List.length_append]
          rfl
        rw [epl] at c2 c4
        rw [nI_1]
        refine w_eqN (b := 1) (by omega) (by omega) (fun h1 => c2 ?_) (fun h1 => ?_)
        · have h0 : pvl A m p v = [] := List.length_eq_zero_iff.mp (by omega)
          rw [h0]
          rfl
        · cases hls : lsC A sg (pvl A m p v) with
          | none =>
            have := lsC_none hls
            rw [this] at h1
            exact absurd rfl h1
          | some U =>
            have hU := hT U hls
            have hU2 : rc_At z2 7 o U := rc_fr f2 (by decide) hU
            have hul := hU2.1
            rw [hls] at c2
            refine w_cs1 (tr_below (o := 0) ml2 ml7 (by omega) (by omega) (by omega) (by omega) r2' hU2) (fun a z3 e => ?_)
            cases e
            cases hlx : lxb (cdv A sg v) U with
            | true => exact w_ifF (by decide) (c2 (lsA_t hlx))
            | false =>
              refine w_ifT rfl (c4 z2 hf2 (fun i hi => by rw [e7]; exact h7 i hi) (fun T hT9 => ?_))
              rw [els, hls, lsA_f hlx] at hT9
              cases hT9
              exact hU2
      · have epv : pvl A m p (v + 1) = pvl A m p v := by rw [pvl_s, if_neg he, List.append_nil]
        refine u_X13_leastOf_4 ?_; unfold qm_X13_leastOf_4
        rw [nI_1]
        have := ih (v + 1) z1 (by omega) hf h7 (by rw [epv]; exact hT)
        rw [epv] at this
        exact this
  refine e_X13_leastOf ?_
  refine u_X13_leastOf_0 ?_; unfold qm_X13_leastOf_0
  exact main A.flatten.length 0 z (by omega) fr_rf (fun i hi => rfl) (fun T hT => by cases hT)
end
section
/-! 99zzi.codes -/
/-! the walk from a start sees one part, each visit once -/
theorem nodup_le {α : Type} [DecidableEq α] : ∀ (l1 l2 : List α), l1.Nodup → (∀ a, a ∈ l1 → a ∈ l2) → l1.length ≤ l2.length
  | [], l2, _, _ => Nat.zero_le _
  | a :: l1, l2, hn, hs => by
    have ha := hs a List.mem_cons_self
    rw [List.nodup_cons] at hn
    have := nodup_le l1 (l2.erase a) hn.2 (fun b hb => by
      have hne : b ≠ a := fun e => hn.1 (e ▸ hb)
      exact (List.mem_erase_of_ne hne).mpr (hs b (List.mem_cons_of_mem _ hb)))
    rw [List.length_erase_of_mem ha] at this
    have h9 : 0 < l2.length := List.length_pos_of_mem ha
    rw [List.length_cons]
    omega
theorem nodup_eq {α : Type} [DecidableEq α] {l1 l2 : List α} (h1 : l1.Nodup) (h2 : l2.Nodup) (h : ∀ a, a ∈ l1 ↔ a ∈ l2) : l1.length = l2.length := Nat.le_antisymm (nodup_le l1 l2 h1 (fun a ha => (h a).mp ha)) (nodup_le l2 l1 h2 (fun a ha => (h a).mpr ha))
theorem nodup_map {α β : Type} {f : α → β} : ∀ {l : List α}, l.Nodup → (∀ a b, a ∈ l → b ∈ l → f a = f b → a = b) → (l.map f).Nodup
  | [], _, _ => List.nodup_nil
  | a :: l, hn, hi => by
    rw [List.nodup_cons] at hn
    rw [List.map_cons, List.nodup_cons]
    refine ⟨fun h => ?_, nodup_map hn.2 (fun x y hx hy => hi x y (List.mem_cons_of_mem _ hx) (List.mem_cons_of_mem _ hy))⟩
    obtain ⟨b, hb, e⟩ := List.mem_map.mp h
    have := hi b a (List.mem_cons_of_mem _ hb) List.mem_cons_self e
    exact hn.1 (this ▸ hb)
theorem rgl_nd {A : rn_L} {s : Nat} (hs : s < A.flatten.length) : (rgl A s).Nodup := by
  unfold rgl
  refine nodup_map List.nodup_range (fun a b ha hb e => ?_)
  have ha := List.mem_range.mp ha
  have hb := List.mem_range.mp hb
  obtain ⟨h1, h2, h3⟩ := rn_c_in A s hs
  unfold rv at e
  unfold rlen at ha hb e
  by_cases c1 : s + a < rn_b A (rn_c A s + 1)
  · by_cases c2 : s + b < rn_b A (rn_c A s + 1)
    · rw [if_pos c1, if_pos c2] at e; omega
    · rw [if_pos c1, if_neg c2] at e; omega
  · by_cases c2 : s + b < rn_b A (rn_c A s + 1)
    · rw [if_neg c1, if_pos c2] at e; omega
    · rw [if_neg c1, if_neg c2] at e; omega
theorem rgl_all {A : rn_L} {s v : Nat} (hs : s < A.flatten.length) (hv : v < A.flatten.length) (hc : rn_c A v = rn_c A s) : v ∈ rgl A s := by
  obtain ⟨h1, h2, h3⟩ := rn_c_in A s hs
  obtain ⟨g1, g2, g3⟩ := rn_c_in A v hv
  rw [hc] at g2 g3
  unfold rgl
  by_cases h : s ≤ v
  · refine List.mem_map.mpr ⟨v - s, List.mem_range.mpr (by unfold rlen; omega), ?_⟩
    unfold rv
    rw [if_pos (by omega)]
    omega
  · refine List.mem_map.mpr ⟨v + rlen A (rn_c A s) - s, List.mem_range.mpr (by unfold rlen; omega), ?_⟩
    unfold rv
    rw [if_neg (by unfold rlen; omega)]
    unfold rlen
    omega
theorem rgl_c {A : rn_L} {s v : Nat} (hs : s < A.flatten.length) (h : v ∈ rgl A s) : rn_c A v = rn_c A s ∧ v < A.flatten.length := by
  obtain ⟨j, hj, e⟩ := rgl_mem h
  rw [e]
  exact ⟨rv_c hs hj, rv_lt hs hj⟩
/-- starts that stand in different components -/
def tS (A : rn_L) (S : List Nat) : Prop := (S.map (rn_c A)).Nodup ∧ ∀ s, s ∈ S → s < A.flatten.length
theorem vsO_in {A : rn_L} {S : List Nat} (h : tS A S) {v : Nat} (hv : v ∈ vsO A S) : v < A.flatten.length ∧ rn_c A v ∈ S.map (rn_c A) := by
  unfold vsO at hv
  obtain ⟨l, hl, hvl⟩ := List.mem_flatten.mp hv
  obtain ⟨s, hs, e⟩ := List.mem_map.mp hl
  rw [← e] at hvl
  obtain ⟨h1, h2⟩ := rgl_c (h.2 s hs) hvl
  exact ⟨h2, List.mem_map.mpr ⟨s, hs, h1.symm⟩⟩
theorem vsO_of {A : rn_L} {S : List Nat} (h : tS A S) {v : Nat} (hv : v < A.flatten.length) (hc : rn_c A v ∈ S.map (rn_c A)) : v ∈ vsO A S := by
  obtain ⟨s, hs, e⟩ := List.mem_map.mp hc
  exact vsO_mem hs (rgl_all (h.2 s hs) hv e.symm)
theorem vsO_nd {A : rn_L} : ∀ {S : List Nat}, tS A S → (vsO A S).Nodup
  | [], _ => List.nodup_nil
  | s :: S, h => by
    obtain ⟨h1, h2⟩ := h
    rw [List.map_cons, List.nodup_cons] at h1
    have hS : tS A S := ⟨h1.2, fun t ht => h2 t (List.mem_cons_of_mem _ ht)⟩
    have ih := vsO_nd hS
    have e : vsO A (s :: S) = rgl A s ++ vsO A S := by
      unfold vsO
      rw [List.map_cons, List.flatten_cons]
    rw [e, List.nodup_append]
    refine ⟨rgl_nd (h2 s List.mem_cons_self), ih, fun a ha b hb e => ?_⟩
    have c1 := (rgl_c (h2 s List.mem_cons_self) ha).1
    have c2 := (vsO_in hS hb).2
    rw [← e, c1] at c2
    exact h1.1 c2
theorem nxS_step {A : rn_L} {S : List Nat} {w : Nat} (hd : rn_ok A.flatten) (h : tS A S) (hn : nxS A S = some w) : tS A (S ++ [w]) ∧ gn A S (rn_c A w) = false ∧ ∃ c, c ∈ S.map (rn_c A) ∧ rn_adj A c (rn_c A w) := by
  unfold nxS at hn
  rw [Option.map_eq_some_iff] at hn
  obtain ⟨v, h1, h2⟩ := hn
  have h3 := List.find?_some h1
  have hv := vsO_in h (fm_mem _ (List.mem_of_find?_eq_some h1))
  have hm := mtf_mt hd hv.1
  rw [h2] at hm h3
  have hg : gn A S (rn_c A w) = false := by
    cases hb : gn A S (rn_c A w) with
    | false => rfl
    | true => rw [hb] at h3; cases h3
  refine ⟨⟨?_, fun t ht => ?_⟩, hg, rn_c A v, hv.2, v, w, hm, rfl, rfl⟩
  · rw [List.map_append, List.nodup_append]
    refine ⟨h.1, by simp, fun a ha b hb e => ?_⟩
    have eb : b = rn_c A w := by simpa using hb
    unfold gn at hg
    rw [decide_eq_false_iff_not] at hg
    exact hg (by rw [← eb, ← e]; exact ha)
  · rw [List.mem_append] at ht
    rcases ht with ht | ht
    · exact h.2 t ht
    · have : t = w := by simpa using ht
      rw [this]
      exact (rn_mt_lt hm).2
theorem rem_zero {g : Nat → Bool} : ∀ n, rem g (fun _ => 1) n = 0 → ∀ c, c < n → g c = true
  | 0, _, c, hc => by omega
  | n + 1, h, c, hc => by
    unfold rem at h
    by_cases hcn : c = n
    · rw [hcn]
      cases hg : g n with
      | true => rfl
      | false => rw [hg] at h; simp at h
    · exact rem_zero n (by omega) c (by omega)
theorem trF_all {A : rn_L} {s0 : Nat} (hd : rn_ok A.flatten) : ∀ (f : Nat) (S : List Nat), tS A S → rem (gn A S) (fun _ => 1) A.length ≤ f → s0 ∈ S → (∀ t, t ∈ S → rn_con A (rn_c A s0) (rn_c A t)) → tS A (trF A f S) ∧ nxS A (trF A f S) = none ∧ s0 ∈ trF A f S ∧ ∀ t, t ∈ trF A f S → rn_con A (rn_c A s0) (rn_c A t) := by
  intro f
  induction f with
  | zero =>
    intro S hS hr h0 hc
    cases hx : nxS A S with
    | none => rw [trF_none hx]; exact ⟨hS, hx, h0, hc⟩
    | some w =>
      obtain ⟨h1, h2, -⟩ := nxS_step hd hS hx
      have hw : w < A.flatten.length := h1.2 w (by simp)
      have := rem_zero (g := gn A S) A.length (by omega) (rn_c A w) (rn_c_in A w hw).1
      rw [h2] at this
      cases this
  | succ f ih =>
    intro S hS hr h0 hc
    cases hx : nxS A S with
    | none => rw [trF_none hx]; exact ⟨hS, hx, h0, hc⟩
    | some w =>
      obtain ⟨h1, h2, c, h3, h4⟩ := nxS_step hd hS hx
      have hw : w < A.flatten.length := h1.2 w (by simp)
      have r := rem_st (f := fun _ => 1) h2 (fun b => gn_app (A := A) (S := S) (w := w) (b := b)) A.length (rn_c_in A w hw).1
      have r' : rem (gn A (S ++ [w])) (fun _ => 1) A.length + 1 = rem (gn A S) (fun _ => 1) A.length := r
      rw [trF_some hx]
      refine ih (S ++ [w]) h1 (by omega) (List.mem_append_left _ h0) (fun t ht => ?_)
      rw [List.mem_append] at ht
      rcases ht with ht | ht
      · exact hc t ht
      · have e : t = w := by simpa using ht
        rw [e]
        obtain ⟨t9, h8, h9⟩ := List.mem_map.mp h3
        have := hc t9 h8
        rw [h9] at this
        exact this.st h4
theorem trS_all {A : rn_L} {s : Nat} (hd : rn_ok A.flatten) (hs : s < A.flatten.length) : tS A (trS A s) ∧ nxS A (trS A s) = none ∧ s ∈ trS A s ∧ ∀ t, t ∈ trS A s → rn_con A (rn_c A s) (rn_c A t) := by
  refine trF_all hd A.length [s] ⟨by simp, fun t ht => ?_⟩ ?_ (by simp) (fun t ht => ?_)
  · have : t = s := by simpa using ht
    rw [this]; exact hs
  · have : ∀ (g : Nat → Bool) n, rem g (fun _ => 1) n ≤ n := by
      intro g n
      induction n with
      | zero => exact Nat.le_refl _
      | succ n ih =>
        unfold rem
        by_cases h : g n = true
        · rw [if_pos h]; omega
        · rw [if_neg h]; omega
    exact this _ _
  · have : t = s := by simpa using ht
    rw [this]; exact rn_con.rf
/-- nothing leads out -/
theorem nxS_cl {A : rn_L} {S : List Nat} {v : Nat} (hd : rn_ok A.flatten) (h : tS A S) (hn : nxS A S = none) (hv : v ∈ vsO A S) : mtf A v ∈ vsO A S := by
  unfold nxS at hn
  rw [Option.map_eq_none_iff, List.find?_eq_none] at hn
  have hvl := (vsO_in h hv).1
  have hm := mtf_mt hd hvl
  have hml := (rn_mt_lt hm).2
  obtain ⟨u, h1, h2⟩ := List.mem_map.mp ((fm_cr (A := A) (vsO A S)).mpr (List.mem_map.mpr ⟨v, hv, rfl⟩))
  by_cases huv : u = v
  · have h9 := hn u h1
    rw [huv] at h9
    have hg : gn A S (rn_c A (mtf A v)) = true := by
      cases hb : gn A S (rn_c A (mtf A v)) with
      | true => rfl
      | false => rw [hb] at h9; exact absurd rfl h9
    unfold gn at hg
    rw [decide_eq_true_iff] at hg
    exact vsO_of h hml hg
  · have hul := (vsO_in h (fm_mem _ h1)).1
    have : rn_mt A.flatten v u := ⟨fun e => huv e.symm, _, _, vAt_of hvl, vAt_of hul, h2.symm⟩
    rw [mtf_eq hd this]
    exact fm_mem _ h1
theorem con_in {A : rn_L} {S : List Nat} {a b : Nat} (hd : rn_ok A.flatten) (h : tS A S) (hn : nxS A S = none) (ha : a ∈ S.map (rn_c A)) (hc : rn_con A a b) : b ∈ S.map (rn_c A) := by
  refine hc (fun x => x ∈ S.map (rn_c A)) ha (fun x y hx hxy => ?_)
  obtain ⟨v, w, hm, e1, e2⟩ := hxy
  have hv : v ∈ vsO A S := vsO_of h (rn_mt_lt hm).1 (by rw [e1]; exact hx)
  have hw := nxS_cl hd h hn hv
  rw [mtf_eq hd hm] at hw
  rw [← e2]
  exact (vsO_in h hw).2
/-- the parts: marks of the components -/
def mk (A : rn_L) (m : Nat → Nat) (P : Nat) : Prop := (∀ c, c < A.length → m c < P) ∧ (∀ a b, rn_adj A a b → m a = m b) ∧ (∀ a b, a < A.length → b < A.length → m a = m b → rn_con A a b) ∧ ∀ p, p < P → ∃ c, c < A.length ∧ m c = p
theorem mk_con {A : rn_L} {m : Nat → Nat} {P a b : Nat} (h : mk A m P) (hc : rn_con A a b) : m a = m b := hc (fun x => m a = m x) rfl (fun x y hx hxy => hx.trans (h.2.1 x y hxy))
/-- the components of the walk from s are those of its part -/
theorem trS_part {A : rn_L} {m : Nat → Nat} {P s c : Nat} (hd : rn_ok A.flatten) (hk : mk A m P) (hs : s < A.flatten.length) (hc : c < A.length) : c ∈ (trS A s).map (rn_c A) ↔ m c = m (rn_c A s) := by
  obtain ⟨h1, h2, h3, h4⟩ := trS_all hd hs
  constructor
  · intro h
    obtain ⟨t, ht, e⟩ := List.mem_map.mp h
    rw [← e]
    exact (mk_con hk (h4 t ht)).symm
  · intro h
    exact con_in hd h1 h2 (List.mem_map.mpr ⟨s, h3, rfl⟩) (hk.2.2.1 _ _ (rn_c_in A s hs).1 hc h.symm)
def cpl (A : rn_L) (m : Nat → Nat) (p : Nat) : List Nat := (List.range A.length).filter (fun c => decide (m c = p))
theorem nodup_filter {α : Type} {l : List α} {p : α → Bool} (h : l.Nodup) : (l.filter p).Nodup := List.Nodup.sublist List.filter_sublist h
theorem trS_len {A : rn_L} {m : Nat → Nat} {P s : Nat} (hd : rn_ok A.flatten) (hk : mk A m P) (hs : s < A.flatten.length) : (trS A s).length = (cpl A m (m (rn_c A s))).length ∧ (vsO A (trS A s)).length = (pvl A m (m (rn_c A s)) A.flatten.length).length := by
  obtain ⟨h1, h2, h3, h4⟩ := trS_all hd hs
  constructor
  · rw [← List.length_map (as := trS A s) (rn_c A)]
    refine nodup_eq h1.1 (nodup_filter List.nodup_range) (fun c => ?_)
    unfold cpl
    rw [List.mem_filter, List.mem_range, decide_eq_true_iff]
    constructor
    · intro h
      obtain ⟨t, ht, e⟩ := List.mem_map.mp h
      have hc : c < A.length := by rw [← e]; exact (rn_c_in A t (h1.2 t ht)).1
      exact ⟨hc, (trS_part hd hk hs hc).mp h⟩
    · intro h
      exact (trS_part hd hk hs h.1).mpr h.2
  · refine nodup_eq (vsO_nd h1) (nodup_filter List.nodup_range) (fun v => ?_)
    unfold pvl
    rw [List.mem_filter, List.mem_range, decide_eq_true_iff]
    constructor
    · intro h
      obtain ⟨g1, g2⟩ := vsO_in h1 h
      exact ⟨g1, (trS_part hd hk hs (rn_c_in A v g1).1).mp g2⟩
    · intro h
      exact vsO_of h1 h.1 ((trS_part hd hk hs (rn_c_in A v h.1).1).mpr h.2)
theorem tks_len {A : rn_L} {sg : Nat → Bool} {vs : List Nat} : ∀ S, (tks A sg vs S).length = (vsO A S).length + S.length
  | [] => rfl
  | s :: S => by
    have ih := tks_len (A := A) (sg := sg) (vs := vs) S
    unfold tks vsO at ih ⊢
    rw [List.map_cons, List.flatten_cons, List.map_cons, List.flatten_cons, List.length_append, List.length_append, ih, List.length_append, List.length_map, List.length_cons]
    simp
    omega
/-! sums -/
def sN (f : Nat → Nat) : Nat → Nat
  | 0 => 0
  | n + 1 => sN f n + f n
theorem sN_congr {f g : Nat → Nat} : ∀ n, (∀ p, p < n → f p = g p) → sN f n = sN g n
  | 0, _ => rfl
  | n + 1, h => by
    unfold sN
    rw [sN_congr n (fun p hp => h p (by omega)), h n (by omega)]
theorem sN_add {f g : Nat → Nat} : ∀ n, sN (fun p => f p + g p) n = sN f n + sN g n
  | 0 => rfl
  | n + 1 => by
    unfold sN
    rw [sN_add n]
    omega
theorem sN_ind {q : Nat} : ∀ n, sN (fun p => if q = p then 1 else 0) n = if q < n then 1 else 0
  | 0 => by simp [sN]
  | n + 1 => by
    unfold sN
    rw [sN_ind n]
    by_cases h1 : q < n
    · rw [if_pos h1, if_neg (by omega), if_pos (by omega)]
    · by_cases h2 : q = n
      · rw [if_neg h1, if_pos h2, if_pos (by omega)]
      · rw [if_neg h1, if_neg h2, if_neg (by omega)]
theorem sN_fib {g : Nat → Nat} {P : Nat} : ∀ n, (∀ v, v < n → g v < P) → sN (fun p => ((List.range n).filter (fun v => decide (g v = p))).length) P = n
  | 0, _ => by
    have : ∀ P, sN (fun p => ((List.range 0).filter (fun v => decide (g v = p))).length) P = 0 := by
      intro P
      induction P with
      | zero => rfl
      | succ P ih => unfold sN; rw [ih]; rfl
    exact this P
  | n + 1, h => by
    have ih := sN_fib n (fun v hv => h v (by omega))
    have e : sN (fun p => ((List.range (n + 1)).filter (fun v => decide (g v = p))).length) P = sN (fun p => ((List.range n).filter (fun v => decide (g v = p))).length + if g n = p then 1 else 0) P := by
      refine sN_congr P (fun p _ => ?_)
      show ((List.range (n + 1)).filter (fun v => decide (g v = p))).length = _
      rw [List.range_succ, List.filter_append, List.length_append]
      by_cases hg : g n = p <;> simp [hg]
    rw [e, sN_add, ih, sN_ind, if_pos (h n (by omega))]
/-! nets whose crossings are 0 .. c - 1, each once over and once under -/
def wkF (F : List (Nat × Nat)) : Prop := F.Nodup ∧ ∀ p : Nat × Nat, p ∈ F → p.1 < 40 ∧ p.2 < 2 ∧ (p.1, 1 - p.2) ∈ F
def okF (F : List (Nat × Nat)) (c : Nat) : Prop := F.Nodup ∧ ∀ p : Nat × Nat, p ∈ F ↔ p.1 < c ∧ p.2 < 2
theorem okF_wk {F : List (Nat × Nat)} {c : Nat} (hc : c ≤ 40) (h : okF F c) : wkF F := by
  refine ⟨h.1, fun p hp => ?_⟩
  obtain ⟨h1, h2⟩ := (h.2 p).mp hp
  exact ⟨by omega, h2, (h.2 _).mpr ⟨h1, by show 1 - p.2 < 2; omega⟩⟩
theorem nodup_at {α : Type} {F : List α} (hn : F.Nodup) {v w : Nat} {p : α} (h1 : F[v]? = some p) (h2 : F[w]? = some p) : v = w := by
  obtain ⟨a1, a2⟩ := List.getElem?_eq_some_iff.mp h1
  obtain ⟨b1, b2⟩ := List.getElem?_eq_some_iff.mp h2
  exact (List.getElem_inj hn).mp (a2.trans b2.symm)
theorem wkF_ok {F : List (Nat × Nat)} (h : wkF F) : rn_ok F := by
  have key : ∀ (v w : Nat) (p q : Nat × Nat), v ≠ w → F[v]? = some p → F[w]? = some q → p.1 = q.1 → q = (p.1, 1 - p.2) := by
    intro v w p q hvw hp hq he
    obtain ⟨-, p2, -⟩ := h.2 p (List.mem_of_getElem? hp)
    obtain ⟨-, q2, -⟩ := h.2 q (List.mem_of_getElem? hq)
    have hne : p.2 ≠ q.2 := fun e => hvw (nodup_at h.1 hp (by rw [hq]; exact congrArg some (Prod.ext he.symm e.symm)))
    exact Prod.ext he.symm (by show q.2 = 1 - p.2; omega)
  refine ⟨⟨fun v w w' h1 h2 => ?_, fun v p hp => ?_⟩, fun v hv => ?_⟩
  · obtain ⟨n1, p, q, a1, a2, a3⟩ := h1
    obtain ⟨n2, p', q', b1, b2, b3⟩ := h2
    rw [a1] at b1
    cases b1
    have e1 := key v w p q n1 a1 a2 a3
    have e2 := key v w' p q' n2 a1 b2 b3
    rw [e1] at a2
    rw [e2] at b2
    exact nodup_at h.1 a2 b2
  · obtain ⟨h1, h2, -⟩ := h.2 p (List.mem_of_getElem? hp)
    exact ⟨h1, h2⟩
  · have hp := List.getElem?_eq_getElem hv
    obtain ⟨h1, h2, h3⟩ := h.2 F[v] (List.getElem_mem hv)
    obtain ⟨w, hw, e⟩ := List.getElem_of_mem h3
    refine ⟨w, fun e9 => ?_, F[v], F[w], hp, List.getElem?_eq_getElem hw, by rw [e]⟩
    subst e9
    have := congrArg Prod.snd e
    have h9 : F[v].2 = 1 - F[v].2 := this
    omega
theorem okF_len {F : List (Nat × Nat)} {c : Nat} (h : okF F c) : F.length = 2 * c := by
  have e : ∀ c, ((List.range c).flatMap (fun x => [(x, 0), (x, 1)])).length = 2 * c := by
    intro c
    induction c with
    | zero => rfl
    | succ c ih => rw [List.range_succ, List.flatMap_append, List.length_append, ih]; simp; omega
  have nd : ∀ c, ((List.range c).flatMap (fun x => [(x, 0), (x, 1)])).Nodup := by
    intro c
    induction c with
    | zero => exact List.nodup_nil
    | succ c ih =>
      rw [List.range_succ, List.flatMap_append, List.nodup_append]
      refine ⟨ih, by simp, fun a ha b hb e => ?_⟩
      rw [List.mem_flatMap] at ha
      obtain ⟨x, hx, ha⟩ := ha
      have hx := List.mem_range.mp hx
      have h1 : a.1 = x := by
        simp at ha
        rcases ha with ha | ha <;> rw [ha]
      have h2 : b.1 = c := by
        simp at hb
        rcases hb with hb | hb <;> rw [hb]
      rw [e] at h1
      omega
  rw [← e c]
  refine nodup_eq h.1 (nd c) (fun p => ?_)
  rw [h.2 p, List.mem_flatMap]
  constructor
  · intro ⟨h1, h2⟩
    refine ⟨p.1, List.mem_range.mpr h1, ?_⟩
    obtain ⟨x, u⟩ := p
    have : u = 0 ∨ u = 1 := by have : u < 2 := h2; omega
    rcases this with e | e <;> simp [e]
  · intro ⟨x, hx, hp⟩
    have hx := List.mem_range.mp hx
    simp at hp
    rcases hp with hp | hp <;> rw [hp] <;> exact ⟨hx, by simp⟩
/-- the net that a walk writes down -/
def rnv (A : rn_L) (vs : List Nat) (v : Nat) : Nat × Nat := (num A vs (crs A v) - 1, uns A v)
def rnN (A : rn_L) (vs S : List Nat) : rn_L := S.map (fun s => (rgl A s).map (rnv A vs))
def rnG (A : rn_L) (sg : Nat → Bool) (vs : List Nat) (y : Nat) : Bool := sg (crs A (((fm A vs)[y]?).getD 0))
theorem rnN_fl {A : rn_L} {vs : List Nat} : ∀ S, (rnN A vs S).flatten = (vsO A S).map (rnv A vs)
  | [] => rfl
  | s :: S => by
    have ih := rnN_fl (A := A) (vs := vs) S
    unfold rnN vsO at ih ⊢
    rw [List.map_cons, List.flatten_cons, ih, List.map_cons, List.flatten_cons, List.map_append]
theorem rnN_len {A : rn_L} {vs S : List Nat} : (rnN A vs S).length = S.length := by
  unfold rnN
  rw [List.length_map]
theorem rnG_at {A : rn_L} {sg : Nat → Bool} {vs : List Nat} {v : Nat} (hv : v ∈ vs) : rnG A sg vs (num A vs (crs A v) - 1) = sg (crs A v) := by
  obtain ⟨u, h1, h2⟩ := num_at (A := A) (vs := vs) (x := crs A v) (List.mem_map.mpr ⟨v, hv, rfl⟩)
  unfold rnG
  rw [h1]
  show sg (crs A u) = _
  rw [h2]
theorem tkv_rnv {A : rn_L} {sg : Nat → Bool} {vs : List Nat} {v : Nat} (hv : v ∈ vs) : tkv (rnG A sg vs) (rnv A vs v) = tkn A sg vs v := by
  have h1 : 0 < num A vs (crs A v) := by unfold num; omega
  unfold tkv tkn rnv
  rw [rnG_at hv]
  show 4 * (num A vs (crs A v) - 1 + 1) + _ + _ = _
  rw [Nat.sub_add_cancel h1]
theorem tks_tk {A : rn_L} {sg : Nat → Bool} {vs : List Nat} : ∀ S, (∀ v, v ∈ vsO A S → v ∈ vs) → tks A sg vs S = tk (rnG A sg vs) (rnN A vs S)
  | [], _ => rfl
  | s :: S, h => by
    have e : vsO A (s :: S) = rgl A s ++ vsO A S := by
      unfold vsO
      rw [List.map_cons, List.flatten_cons]
    rw [e] at h
    have ih := tks_tk (sg := sg) S (fun v hv => h v (List.mem_append_right _ hv))
    unfold tks tk rnN tkc at ih ⊢
    rw [List.map_cons, List.flatten_cons, ih, List.map_cons, List.map_cons, List.flatten_cons, List.map_map (l := rgl A s)]
    have e2 : (rgl A s).map (tkn A sg vs) = (rgl A s).map (tkv (rnG A sg vs) ∘ rnv A vs) := List.map_congr_left (fun v hv => (tkv_rnv (h v (List.mem_append_left _ hv))).symm)
    rw [e2]
/-- the walk's net is one with crossings 0 .. -/
theorem rnN_ok {A : rn_L} {S : List Nat} (hF : wkF A.flatten) (h : tS A S) (hn : nxS A S = none) : okF (rnN A (vsO A S) S).flatten (fm A (vsO A S)).length := by
  have hd := wkF_ok hF
  rw [rnN_fl]
  have hmem : ∀ v, v ∈ vsO A S → vAt A v ∈ A.flatten := fun v hv => List.mem_of_getElem? (vAt_of (vsO_in h hv).1)
  have inj : ∀ v w, v ∈ vsO A S → w ∈ vsO A S → crs A v = crs A w → uns A v = uns A w → v = w := by
    intro v w hv hw e1 e2
    refine nodup_at hF.1 (vAt_of (vsO_in h hv).1) ?_
    rw [vAt_of (vsO_in h hw).1]
    exact congrArg some (Prod.ext e1.symm e2.symm)
  have numi : ∀ v w, v ∈ vsO A S → w ∈ vsO A S → num A (vsO A S) (crs A v) = num A (vsO A S) (crs A w) → crs A v = crs A w := by
    intro v w hv hw e
    obtain ⟨u, h1, h2⟩ := num_at (A := A) (vs := vsO A S) (x := crs A v) (List.mem_map.mpr ⟨v, hv, rfl⟩)
    obtain ⟨u', h3, h4⟩ := num_at (A := A) (vs := vsO A S) (x := crs A w) (List.mem_map.mpr ⟨w, hw, rfl⟩)
    rw [e, h3] at h1
    cases h1
    rw [← h2, ← h4]
  have npos : ∀ v, 0 < num A (vsO A S) (crs A v) := fun v => by unfold num; omega
  refine ⟨nodup_map (vsO_nd h) (fun v w hv hw e => ?_), fun p => ?_⟩
  · have e1 : (rnv A (vsO A S) v).1 = (rnv A (vsO A S) w).1 := congrArg Prod.fst e
    have e2 : (rnv A (vsO A S) v).2 = (rnv A (vsO A S) w).2 := congrArg Prod.snd e
    unfold rnv at e1 e2
    have e1 : num A (vsO A S) (crs A v) - 1 = num A (vsO A S) (crs A w) - 1 := e1
    have := npos v
    have := npos w
    exact inj v w hv hw (numi v w hv hw (by omega)) e2
  · constructor
    · intro hp
      obtain ⟨v, hv, e⟩ := List.mem_map.mp hp
      rw [← e]
      have h1 := num_le (A := A) (vs := vsO A S) (x := crs A v) (List.mem_map.mpr ⟨v, hv, rfl⟩)
      have := npos v
      refine ⟨?_, (hF.2 _ (hmem v hv)).2.1⟩
      show num A (vsO A S) (crs A v) - 1 < _
      omega
    · intro ⟨h1, h2⟩
      obtain ⟨u, hu⟩ : ∃ u, (fm A (vsO A S))[p.1]? = some u := ⟨_, List.getElem?_eq_getElem h1⟩
      have hn1 := num_of hu
      have huv := fm_mem _ (List.mem_of_getElem? hu)
      obtain ⟨g1, g2, g3⟩ := hF.2 _ (hmem u huv)
      by_cases hp : p.2 = uns A u
      · refine List.mem_map.mpr ⟨u, huv, Prod.ext ?_ hp.symm⟩
        show num A (vsO A S) (crs A u) - 1 = p.1
        rw [hn1]
        rfl
      · have hmv := nxS_cl hd h hn huv
        have hm := mtf_mt hd (vsO_in h huv).1
        obtain ⟨n1, q, r, a1, a2, a3⟩ := hm
        rw [vAt_of (vsO_in h huv).1] at a1
        cases a1
        have e2 : vAt A (mtf A u) = r := vAt_eq a2
        have ec : crs A (mtf A u) = crs A u := by
          unfold crs
          rw [e2, a3]
        have hg := hF.2 _ (hmem _ hmv)
        have hun : uns A (mtf A u) = p.2 := by
          have h5 : uns A (mtf A u) < 2 := hg.2.1
          have h6 : uns A u < 2 := g2
          have h7 : uns A (mtf A u) ≠ uns A u := fun e => n1 (inj u (mtf A u) huv hmv ec.symm e.symm)
          omega
        refine List.mem_map.mpr ⟨mtf A u, hmv, Prod.ext ?_ hun⟩
        show num A (vsO A S) (crs A (mtf A u)) - 1 = p.1
        rw [ec, hn1]
        rfl
/-! the parts' rows, put one behind another -/
def rlt (a b : Nat × List Nat) : Bool := decide (a.1 < b.1) || (decide (a.1 = b.1) && lxb a.2 b.2)
def rwA (A : rn_L) (sg : Nat → Bool) (m : Nat → Nat) (R : List (Nat × List Nat)) (p : Nat) : List (Nat × List Nat) := match lsC A sg (pvl A m p A.flatten.length) with
  | none => R
  | some T => R ++ [((pvl A m p A.flatten.length).length, T)]
def rwL (A : rn_L) (sg : Nat → Bool) (m : Nat → Nat) (P : Nat) : List (Nat × List Nat) := (List.range P).foldl (rwA A sg m) []
def cir (A : rn_L) (m : Nat → Nat) : Nat → Nat
  | 0 => 0
  | p + 1 => cir A m p + if pvl A m p A.flatten.length = [] then 1 else 0
theorem rwL_s {A : rn_L} {sg : Nat → Bool} {m : Nat → Nat} {P : Nat} : rwL A sg m (P + 1) = rwA A sg m (rwL A sg m P) P := by
  unfold rwL
  rw [List.range_succ, List.foldl_append]
  rfl
theorem lsC_nil {A : rn_L} {sg : Nat → Bool} : lsC A sg [] = none := rfl
theorem lsC_ne {A : rn_L} {sg : Nat → Bool} {vs : List Nat} (h : vs ≠ []) : ∃ T, lsC A sg vs = some T := by
  cases hl : lsC A sg vs with
  | none => exact absurd (lsC_none hl) h
  | some T => exact ⟨T, rfl⟩
theorem rwL_len {A : rn_L} {sg : Nat → Bool} {m : Nat → Nat} : ∀ P, (rwL A sg m P).length + cir A m P = P
  | 0 => rfl
  | P + 1 => by
    have ih := rwL_len (A := A) (sg := sg) (m := m) P
    rw [rwL_s]
    unfold rwA cir
    by_cases h : pvl A m P A.flatten.length = []
    · rw [h, lsC_nil, if_pos rfl]
      show (rwL A sg m P).length + _ = _
      omega
    · obtain ⟨T, hT⟩ := lsC_ne (sg := sg) h
      rw [hT, if_neg h]
      show (rwL A sg m P ++ [_]).length + _ = _
      rw [List.length_append]
      simp
      omega
theorem rwL_mem {A : rn_L} {sg : Nat → Bool} {m : Nat → Nat} {r : Nat × List Nat} : ∀ P, r ∈ rwL A sg m P → ∃ p v, p < P ∧ v < A.flatten.length ∧ m (rn_c A v) = p ∧ r = ((pvl A m p A.flatten.length).length, cdv A sg v)
  | 0, h => by simp [rwL] at h
  | P + 1, h => by
    rw [rwL_s] at h
    unfold rwA at h
    cases hl : lsC A sg (pvl A m P A.flatten.length) with
    | none =>
      rw [hl] at h
      obtain ⟨p, v, h1, h2⟩ := rwL_mem P h
      exact ⟨p, v, by omega, h2⟩
    | some T =>
      rw [hl] at h
      have h : r ∈ rwL A sg m P ++ [((pvl A m P A.flatten.length).length, T)] := h
      rw [List.mem_append] at h
      rcases h with h | h
      · obtain ⟨p, v, h1, h2⟩ := rwL_mem P h
        exact ⟨p, v, by omega, h2⟩
      · have e : r = ((pvl A m P A.flatten.length).length, T) := by simpa using h
        obtain ⟨v, hv, eT⟩ := lsC_mem _ hl
        unfold pvl at hv
        rw [List.mem_filter, List.mem_range, decide_eq_true_iff] at hv
        exact ⟨P, v, by omega, hv.1, hv.2, by rw [e, eT]⟩
theorem cdv_len {A : rn_L} {sg : Nat → Bool} {m : Nat → Nat} {P v : Nat} (hd : rn_ok A.flatten) (hk : mk A m P) (hv : v < A.flatten.length) : (cdv A sg v).length = (pvl A m (m (rn_c A v)) A.flatten.length).length + (cpl A m (m (rn_c A v))).length := by
  obtain ⟨h1, h2⟩ := trS_len hd hk hv
  unfold cdv
  rw [tks_len, h1, h2]
/-- a part without visits is one circle -/
theorem cpl_one {A : rn_L} {m : Nat → Nat} {P p : Nat} (hk : mk A m P) (hp : p < P) (h : pvl A m p A.flatten.length = []) : (cpl A m p).length = 1 := by
  obtain ⟨c, hc, hm⟩ := hk.2.2.2 p hp
  have key : ∀ b, b < A.length → m b = p → b = c := by
    intro b hb hmb
    have hcon := hk.2.2.1 c b hc hb (hm.trans hmb.symm)
    refine hcon (fun x => x = c) rfl (fun x y hx hxy => ?_)
    obtain ⟨v, w, hmt, e1, e2⟩ := hxy
    exfalso
    have hvp : v ∈ pvl A m p A.flatten.length := by
      unfold pvl
      rw [List.mem_filter, List.mem_range, decide_eq_true_iff]
      exact ⟨(rn_mt_lt hmt).1, by rw [e1, hx, hm]⟩
    rw [h] at hvp
    cases hvp
  have : (cpl A m p).length = [c].length := by
    refine nodup_eq (nodup_filter List.nodup_range) (by simp) (fun b => ?_)
    unfold cpl
    rw [List.mem_filter, List.mem_range, decide_eq_true_iff, List.mem_singleton]
    exact ⟨fun h9 => key b h9.1 h9.2, fun h9 => by rw [h9]; exact ⟨hc, hm⟩⟩
  exact this
theorem rwL_sum {A : rn_L} {sg : Nat → Bool} {m : Nat → Nat} {P : Nat} (hd : rn_ok A.flatten) (hk : mk A m P) : ∀ p, p ≤ P → ((rwL A sg m p).map (fun r => r.2.length)).sum + cir A m p = sN (fun q => (pvl A m q A.flatten.length).length + (cpl A m q).length) p ∧ ((rwL A sg m p).map (fun r => r.1)).sum = sN (fun q => (pvl A m q A.flatten.length).length) p
  | 0, _ => ⟨rfl, rfl⟩
  | p + 1, hp => by
    obtain ⟨ih, ih2⟩ := rwL_sum hd hk p (by omega)
    rw [rwL_s]
    unfold rwA cir sN
    by_cases h : pvl A m p A.flatten.length = []
    · have := cpl_one hk (by omega) h
      rw [h, lsC_nil, if_pos rfl, this]
      show ((rwL A sg m p).map (fun r => r.2.length)).sum + _ = _ ∧ ((rwL A sg m p).map (fun r => r.1)).sum = _
      rw [ih2]
      simp only [List.length_nil]
      omega
    · obtain ⟨T, hT⟩ := lsC_ne (sg := sg) h
      obtain ⟨v, hv, eT⟩ := lsC_mem _ hT
      unfold pvl at hv
      rw [List.mem_filter, List.mem_range, decide_eq_true_iff] at hv
      have hl := cdv_len (sg := sg) hd hk hv.1
      rw [hv.2, ← eT] at hl
      rw [hT, if_neg h]
      show ((rwL A sg m p ++ [((pvl A m p A.flatten.length).length, T)]).map (fun r => r.2.length)).sum + _ = _ ∧ ((rwL A sg m p ++ [((pvl A m p A.flatten.length).length, T)]).map (fun r => r.1)).sum = _
      rw [List.map_append, List.sum_append, List.map_append, List.sum_append, ih2]
      simp only [List.map_cons, List.map_nil, List.sum_cons, List.sum_nil]
      omega
theorem rwL_tot {A : rn_L} {sg : Nat → Bool} {m : Nat → Nat} {P : Nat} (hd : rn_ok A.flatten) (hk : mk A m P) : ((rwL A sg m P).map (fun r => r.2.length)).sum + cir A m P = A.flatten.length + A.length ∧ ((rwL A sg m P).map (fun r => r.1)).sum = A.flatten.length := by
  obtain ⟨h1, h2⟩ := rwL_sum (sg := sg) hd hk P (Nat.le_refl _)
  have e1 : sN (fun q => (pvl A m q A.flatten.length).length) P = A.flatten.length := sN_fib (g := fun v => m (rn_c A v)) _ (fun v hv => hk.1 _ (rn_c_in A v hv).1)
  have e2 : sN (fun q => (cpl A m q).length) P = A.length := sN_fib (g := m) _ (fun c hc => hk.1 c hc)
  rw [h1, h2, sN_add, e1, e2]
  exact ⟨rfl, rfl⟩
/-! the order in which the rows are put -/
def rAt (R : List (Nat × List Nat)) (p : Nat) : Nat × List Nat := (R[p]?).getD (0, [])
theorem rAt_of {R : List (Nat × List Nat)} {p : Nat} (h : p < R.length) : R[p]? = some (rAt R p) := by
  unfold rAt
  rw [List.getElem?_eq_getElem h]
  rfl
def pkA (R : List (Nat × List Nat)) (w : Nat → Bool) (l : Option Nat) (p : Nat) : Option Nat := if w p then l else match l with
  | none => some p
  | some q => if rlt (rAt R p) (rAt R q) then some p else some q
def pk1 (R : List (Nat × List Nat)) (w : Nat → Bool) (k : Nat) : Option Nat := (List.range k).foldl (pkA R w) none
theorem pk1_s {R : List (Nat × List Nat)} {w : Nat → Bool} {k : Nat} : pk1 R w (k + 1) = pkA R w (pk1 R w k) k := by
  unfold pk1
  rw [List.range_succ, List.foldl_append]
  rfl
theorem pk1_in {R : List (Nat × List Nat)} {w : Nat → Bool} {q : Nat} : ∀ k, pk1 R w k = some q → q < k ∧ w q = false
  | 0, h => by simp [pk1] at h
  | k + 1, h => by
    rw [pk1_s] at h
    unfold pkA at h
    cases hw : w k with
    | true =>
      rw [hw] at h
      obtain ⟨h1, h2⟩ := pk1_in k h
      exact ⟨by omega, h2⟩
    | false =>
      rw [hw] at h
      cases hp : pk1 R w k with
      | none =>
        rw [hp] at h
        have h : some k = some q := h
        cases h
        exact ⟨by omega, hw⟩
      | some q9 =>
        rw [hp] at h
        have h : (if rlt (rAt R k) (rAt R q9) then some k else some q9) = some q := h
        obtain ⟨h1, h2⟩ := pk1_in k hp
        by_cases hr : rlt (rAt R k) (rAt R q9) = true
        · rw [if_pos hr] at h
          cases h
          exact ⟨by omega, hw⟩
        · rw [if_neg hr] at h
          cases h
          exact ⟨by omega, h2⟩
theorem pk1_none {R : List (Nat × List Nat)} {w : Nat → Bool} : ∀ k, pk1 R w k = none → ∀ p, p < k → w p = true
  | 0, _, p, hp => by omega
  | k + 1, h, p, hp => by
    rw [pk1_s] at h
    unfold pkA at h
    cases hw : w k with
    | true =>
      rw [hw] at h
      by_cases hpk : p = k
      · rw [hpk]; exact hw
      · exact pk1_none k h p (by omega)
    | false =>
      rw [hw] at h
      cases hp9 : pk1 R w k with
      | none => rw [hp9] at h; cases h
      | some q =>
        rw [hp9] at h
        have h : (if rlt (rAt R k) (rAt R q) then some k else some q) = none := h
        by_cases hr : rlt (rAt R k) (rAt R q) = true
        · rw [if_pos hr] at h; cases h
        · rw [if_neg hr] at h; cases h
def sel (R : List (Nat × List Nat)) : Nat → (Nat → Bool) → List Nat
  | 0, _ => []
  | k + 1, w => match pk1 R w R.length with
    | none => []
    | some p => p :: sel R k (fun i => w i || decide (i = p))
def sft (b : Nat) (T : List Nat) : List Nat := T.map (fun t => if t = 0 then 0 else t + 4 * b)
def pkT (R : List (Nat × List Nat)) : Nat → List Nat → List Nat
  | _, [] => []
  | b, p :: ps => sft b (rAt R p).2 ++ pkT R (b + (rAt R p).1 / 2) ps
/-- what pack writes -/
def pkR (A : rn_L) (sg : Nat → Bool) (m : Nat → Nat) (P : Nat) : List Nat := pkT (rwL A sg m P) 0 (sel (rwL A sg m P) (rwL A sg m P).length (fun _ => false)) ++ List.replicate (cir A m P) 0
theorem sel_some {R : List (Nat × List Nat)} {w : Nat → Bool} {k p : Nat} (h : pk1 R w R.length = some p) : sel R (k + 1) w = p :: sel R k (fun i => w i || decide (i = p)) := by
  show (match pk1 R w R.length with | none => [] | some p => p :: sel R k (fun i => w i || decide (i = p))) = _
  rw [h]
/-- sums over what is not written yet -/
theorem rem_sum {R : List (Nat × List Nat)} (f : Nat × List Nat → Nat) : rem (fun _ => false) (fun p => f (rAt R p)) R.length = (R.map f).sum := by
  have key : ∀ n, n ≤ R.length → rem (fun _ => false) (fun p => f (rAt R p)) n = ((R.take n).map f).sum := by
    intro n
    induction n with
    | zero => intro _; rfl
    | succ n ih =>
      intro hn
      unfold rem
      rw [ih (by omega), List.take_succ_eq_append_getElem (by omega), List.map_append, List.sum_append]
      have : rAt R n = R[n] := by
        unfold rAt
        rw [List.getElem?_eq_getElem (by omega)]
        rfl
      rw [this]
      simp
  rw [key _ (Nat.le_refl _), List.take_length]
theorem sel_sum {R : List (Nat × List Nat)} (f : Nat × List Nat → Nat) : ∀ (k : Nat) (w : Nat → Bool), rem w (fun _ => 1) R.length = k → ((sel R k w).map (fun p => f (rAt R p))).sum = rem w (fun p => f (rAt R p)) R.length ∧ (∀ p, p ∈ sel R k w → p < R.length) := by
  intro k
  induction k with
  | zero =>
    intro w hw
    have h0 := rem_zero (g := w) R.length hw
    have : ∀ n, n ≤ R.length → rem w (fun p => f (rAt R p)) n = 0 := by
      intro n
      induction n with
      | zero => intro _; rfl
      | succ n ih =>
        intro hn
        unfold rem
        rw [ih (by omega), h0 n (by omega)]
        rfl
    refine ⟨by rw [this _ (Nat.le_refl _)]; rfl, fun p hp => by cases hp⟩
  | succ k ih =>
    intro w hw
    cases hp : pk1 R w R.length with
    | none =>
      have h0 := pk1_none R.length hp
      have : ∀ n, n ≤ R.length → rem w (fun _ => 1) n = 0 := by
        intro n
        induction n with
        | zero => intro _; rfl
        | succ n ih =>
          intro hn
          unfold rem
          rw [ih (by omega), h0 n (by omega)]
          rfl
      have := this _ (Nat.le_refl _)
      omega
    | some p =>
      obtain ⟨h1, h2⟩ := pk1_in R.length hp
      have r1 := rem_st (g' := fun i => w i || decide (i = p)) (f := fun _ => 1) h2 (fun b => rfl) R.length h1
      have r1' : rem (fun i => w i || decide (i = p)) (fun _ => 1) R.length + 1 = rem w (fun _ => 1) R.length := r1
      have r2 := rem_st (g' := fun i => w i || decide (i = p)) (f := fun p => f (rAt R p)) h2 (fun b => rfl) R.length h1
      obtain ⟨g1, g2⟩ := ih (fun i => w i || decide (i = p)) (by omega)
      rw [sel_some hp, List.map_cons, List.sum_cons, g1]
      refine ⟨by omega, fun q hq => ?_⟩
      rw [List.mem_cons] at hq
      rcases hq with hq | hq
      · rw [hq]; exact h1
      · exact g2 q hq
theorem sft_len {b : Nat} {T : List Nat} : (sft b T).length = T.length := by
  unfold sft
  rw [List.length_map]
theorem pkT_len {R : List (Nat × List Nat)} : ∀ (ps : List Nat) (b : Nat), (pkT R b ps).length = (ps.map (fun p => (rAt R p).2.length)).sum
  | [], _ => rfl
  | p :: ps, b => by
    unfold pkT
    rw [List.length_append, sft_len, pkT_len ps, List.map_cons, List.sum_cons]
/-! the whole row is that of a net -/
def okB (F : List (Nat × Nat)) (b c : Nat) : Prop := F.Nodup ∧ ∀ p : Nat × Nat, p ∈ F ↔ b ≤ p.1 ∧ p.1 < b + c ∧ p.2 < 2
def shN (b : Nat) (A : rn_L) : rn_L := A.map (fun B => B.map (fun p => (p.1 + b, p.2)))
theorem shN_fl {b : Nat} : ∀ A : rn_L, (shN b A).flatten = A.flatten.map (fun p => (p.1 + b, p.2))
  | [] => rfl
  | B :: A => by
    have ih := shN_fl (b := b) A
    unfold shN at ih ⊢
    rw [List.map_cons, List.flatten_cons, ih, List.flatten_cons, List.map_append]
theorem sft_tk {b : Nat} {sg : Nat → Bool} : ∀ A : rn_L, sft b (tk sg A) = tk (fun x => sg (x - b)) (shN b A)
  | [] => rfl
  | B :: A => by
    have ih := sft_tk (b := b) (sg := sg) A
    have e : shN b (B :: A) = B.map (fun p => (p.1 + b, p.2)) :: shN b A := rfl
    rw [e, tk_cons, tk_cons, ← ih]
    unfold sft
    rw [List.map_append, List.map_cons, List.map_map, List.map_map]
    congr 1
    refine List.map_congr_left (fun p _ => ?_)
    show (if tkv sg p = 0 then 0 else tkv sg p + 4 * b) = tkv (fun x => sg (x - b)) (p.1 + b, p.2)
    have h0 : tkv sg p ≠ 0 := by unfold tkv; omega
    rw [if_neg h0]
    unfold tkv
    show _ = 4 * (p.1 + b + 1) + 2 * p.2 + if sg (p.1 + b - b) then 1 else 0
    rw [Nat.add_sub_cancel]
    omega
theorem tk_congr {sg sg' : Nat → Bool} : ∀ A : rn_L, (∀ p : Nat × Nat, p ∈ A.flatten → sg p.1 = sg' p.1) → tk sg A = tk sg' A
  | [], _ => rfl
  | B :: A, h => by
    rw [List.flatten_cons] at h
    rw [tk_cons, tk_cons, tk_congr A (fun p hp => h p (List.mem_append_right _ hp))]
    congr 1
    refine List.map_congr_left (fun p hp => ?_)
    unfold tkv
    rw [h p (List.mem_append_left _ hp)]
theorem okF_sh {A : rn_L} {b c : Nat} (h : okF A.flatten c) : okB (shN b A).flatten b c := by
  rw [shN_fl]
  refine ⟨nodup_map h.1 (fun p q _ _ e => ?_), fun p => ?_⟩
  · have e1 : p.1 + b = q.1 + b := (Prod.mk.inj e).1
    have e2 : p.2 = q.2 := (Prod.mk.inj e).2
    exact Prod.ext (by omega) e2
  · rw [List.mem_map]
    constructor
    · intro ⟨q, hq, e⟩
      obtain ⟨h1, h2⟩ := (h.2 q).mp hq
      rw [← e]
      exact ⟨by show b ≤ q.1 + b; omega, by show q.1 + b < b + c; omega, h2⟩
    · intro ⟨h1, h2, h3⟩
      exact ⟨(p.1 - b, p.2), (h.2 _).mpr ⟨by show p.1 - b < c; omega, h3⟩, Prod.ext (by show p.1 - b + b = p.1; omega) rfl⟩
theorem okB_app {F G : List (Nat × Nat)} {b c d : Nat} (h1 : okB F b c) (h2 : okB G (b + c) d) : okB (F ++ G) b (c + d) := by
  refine ⟨?_, fun p => ?_⟩
  · rw [List.nodup_append]
    refine ⟨h1.1, h2.1, fun p hp q hq e => ?_⟩
    have a1 := (h1.2 p).mp hp
    have a2 := (h2.2 q).mp hq
    rw [← e] at a2
    omega
  · rw [List.mem_append, h1.2, h2.2]
    omega
/-- rows of nets give a row of a net -/
theorem pkT_ok {R : List (Nat × List Nat)} (hR : ∀ r, r ∈ R → ∃ (A : rn_L) (sg : Nat → Bool) (c : Nat), r.2 = tk sg A ∧ okF A.flatten c ∧ r.1 = 2 * c) : ∀ (ps : List Nat) (b : Nat), (∀ p, p ∈ ps → p < R.length) → ∃ (A : rn_L) (sg : Nat → Bool) (c : Nat), pkT R b ps = tk sg A ∧ okB A.flatten b c ∧ 2 * c = (ps.map (fun p => (rAt R p).1)).sum
  | [], b, _ => ⟨[], fun _ => false, 0, rfl, ⟨List.nodup_nil, fun p => ⟨fun h => by simp at h, fun h => by omega⟩⟩, rfl⟩
  | p :: ps, b, h => by
    have hp := h p List.mem_cons_self
    have hm : rAt R p ∈ R := List.mem_of_getElem? (rAt_of hp)
    obtain ⟨A1, sg1, c1, e1, o1, l1⟩ := hR _ hm
    have hb : (rAt R p).1 / 2 = c1 := by omega
    obtain ⟨A2, sg2, c2, e2, o2, l2⟩ := pkT_ok hR ps (b + c1) (fun q hq => h q (List.mem_cons_of_mem _ hq))
    have o1' := okF_sh (b := b) o1
    refine ⟨shN b A1 ++ A2, fun x => if x < b + c1 then sg1 (x - b) else sg2 x, c1 + c2, ?_, ?_, ?_⟩
    · unfold pkT
      rw [hb, e1, e2, sft_tk, tk_app]
      congr 1
      · refine tk_congr _ (fun q hq => ?_)
        have := (o1'.2 q).mp hq
        show sg1 (q.1 - b) = if q.1 < b + c1 then sg1 (q.1 - b) else sg2 q.1
        rw [if_pos this.2.1]
      · refine tk_congr _ (fun q hq => ?_)
        have := (o2.2 q).mp hq
        show sg2 q.1 = if q.1 < b + c1 then sg1 (q.1 - b) else sg2 q.1
        rw [if_neg (by omega)]
    · rw [List.flatten_append]
      exact okB_app o1' o2
    · rw [List.map_cons, List.sum_cons, ← l2]
      omega
theorem tk_nil {sg : Nat → Bool} : ∀ k, tk sg (List.replicate k []) = List.replicate k 0
  | 0 => rfl
  | k + 1 => by
    rw [List.replicate_succ, tk_cons, tk_nil k]
    rfl
theorem fl_nil : ∀ k, (List.replicate k ([] : List (Nat × Nat))).flatten = []
  | 0 => rfl
  | k + 1 => by
    rw [List.replicate_succ, List.flatten_cons, fl_nil k]
    rfl
/-- pack makes the row of a net -/
theorem pkR_ok {A : rn_L} {sg : Nat → Bool} {m : Nat → Nat} {P : Nat} (hF : wkF A.flatten) (hk : mk A m P) : ∃ (A' : rn_L) (sg' : Nat → Bool) (c : Nat), pkR A sg m P = tk sg' A' ∧ okF A'.flatten c ∧ 2 * c = A.flatten.length ∧ A'.length = A.length := by
  have hd := wkF_ok hF
  have hR : ∀ r, r ∈ rwL A sg m P → ∃ (A1 : rn_L) (sg1 : Nat → Bool) (c : Nat), r.2 = tk sg1 A1 ∧ okF A1.flatten c ∧ r.1 = 2 * c := by
    intro r hr
    obtain ⟨p, v, h1, h2, h3, h4⟩ := rwL_mem P hr
    obtain ⟨t1, t2, t3, t4⟩ := trS_all hd h2
    have ok := rnN_ok hF t1 t2
    refine ⟨_, rnG A sg (vsO A (trS A v)), _, ?_, ok, ?_⟩
    · rw [h4]
      exact tks_tk _ (fun v hv => hv)
    · rw [h4, ← h3]
      show (pvl A m (m (rn_c A v)) A.flatten.length).length = _
      rw [← (trS_len hd hk h2).2, ← okF_len ok, rnN_fl, List.length_map]
  have h0 : rem (fun _ => false) (fun _ => 1) (rwL A sg m P).length = (rwL A sg m P).length := rem_1 _
  obtain ⟨s1, s2⟩ := sel_sum (R := rwL A sg m P) (fun r => r.1) _ (fun _ => false) h0
  obtain ⟨s3, -⟩ := sel_sum (R := rwL A sg m P) (fun r => r.2.length) _ (fun _ => false) h0
  obtain ⟨A1, sg1, c, e, o, l⟩ := pkT_ok hR _ 0 s2
  obtain ⟨t1, t2⟩ := rwL_tot (sg := sg) hd hk
  have hlen := congrArg List.length e
  rw [pkT_len, s3, rem_sum (fun r => r.2.length), tk_len] at hlen
  rw [s1, rem_sum (fun r => r.1), t2] at l
  have oF : okF A1.flatten c := ⟨o.1, fun p => by rw [o.2]; omega⟩
  have hl1 := okF_len oF
  refine ⟨A1 ++ List.replicate (cir A m P) [], sg1, c, ?_, ?_, l, ?_⟩
  · unfold pkR
    rw [tk_app, tk_nil, ← e]
  · rw [List.flatten_append, fl_nil, List.append_nil]
    exact oF
  · rw [List.length_append, List.length_replicate]
    omega
end
section
/-! 99zzj.pack -/
/-! pack -/
theorem mk_of {z : ow_MS} {n P : Nat} {A : rn_L} (hcn : A.length ≤ 39) (h : rn_pt z n A P) : ∃ m, mk A m P ∧ ∀ c, c < A.length → z.2.1 (n + 12) c = nI (m c) := by
  obtain ⟨h1, h2, ⟨s1, s2, s3, s4⟩, h4⟩ := h
  have hM : ∀ c, c < A.length → z.2.1 (n + 12) c = nI (z.2.1 (n + 12) c).toNatClampNeg ∧ (z.2.1 (n + 12) c).toNatClampNeg < P := by
    intro c hc
    obtain ⟨p, hp, e⟩ := (s1 c hc).resolve_left (h4 c hc)
    rw [e, nI_clamp (by omega)]
    exact ⟨rfl, hp⟩
  refine ⟨fun c => (z.2.1 (n + 12) c).toNatClampNeg, ⟨fun c hc => (hM c hc).2, fun a b hab => ?_, fun a b ha hb e => ?_, fun p hp => ?_⟩, fun c hc => (hM c hc).1⟩
  · obtain ⟨v, w, hm, e1, e2⟩ := hab
    have ha : a < A.length := by rw [← e1]; exact (rn_c_in A v (rn_mt_lt hm).1).1
    obtain ⟨g1, g2⟩ := hM a ha
    have := s2 a b _ g2 ⟨v, w, hm, e1, e2⟩ g1
    show _ = (z.2.1 (n + 12) b).toNatClampNeg
    rw [this, nI_clamp (by omega)]
  · obtain ⟨g1, g2⟩ := hM a ha
    have g3 := (hM b hb).1
    have e : (z.2.1 (n + 12) a).toNatClampNeg = (z.2.1 (n + 12) b).toNatClampNeg := e
    rw [← e] at g3
    exact s3 a b _ g2 ha hb g1 g3
  · obtain ⟨a, ha, e⟩ := s4 p hp
    refine ⟨a, ha, ?_⟩
    show (z.2.1 (n + 12) a).toNatClampNeg = p
    rw [e, nI_clamp (by omega)]
def lI (l : Option Nat) : Int32 := match l with
  | none => -1
  | some q => nI q
def rwI (z : ow_MS) (R : List (Nat × List Nat)) (w : Nat → Bool) : Prop := ∀ k, k < R.length → z.2.1 8 k = nI (rAt R k).1 ∧ rc_At z 7 (32 * k) (rAt R k).2 ∧ z.2.1 9 k = bZ (w k)
theorem rwI_fr {P : Nat → Prop} {z z1 : ow_MS} {R : List (Nat × List Nat)} {w : Nat → Bool} (hf : fr P z z1) (h7 : ¬ P 7) (h8 : ¬ P 8) (h9 : ¬ P 9) (h : rwI z R w) : rwI z1 R w := fun k hk => by
  obtain ⟨a1, a2, a3⟩ := h k hk
  exact ⟨by rw [(hf 8 h8).2.1]; exact a1, rc_fr hf h7 a2, by rw [(hf 9 h9).2.1]; exact a3⟩
theorem rAt_app {R : List (Nat × List Nat)} {r : Nat × List Nat} {k : Nat} (hk : k < R.length) : rAt (R ++ [r]) k = rAt R k := by
  unfold rAt
  rw [List.getElem?_append_left hk]
theorem rAt_new {R : List (Nat × List Nat)} {r : Nat × List Nat} : rAt (R ++ [r]) R.length = r := by
  unfold rAt
  rw [List.getElem?_append_right (Nat.le_refl _), Nat.sub_self]
  rfl
theorem rlt_a {a b : Nat × List Nat} (h : a.1 < b.1) : rlt a b = true := by
  unfold rlt
  rw [decide_eq_true h]
  rfl
theorem rlt_b {a b : Nat × List Nat} (h : a.1 = b.1) : rlt a b = lxb a.2 b.2 := by
  unfold rlt
  rw [decide_eq_false (by omega), decide_eq_true h]
  rfl
theorem rlt_c {a b : Nat × List Nat} (h : b.1 < a.1) : rlt a b = false := by
  unfold rlt
  rw [decide_eq_false (by omega), decide_eq_false (by omega)]
  rfl
theorem pkA_w {R : List (Nat × List Nat)} {w : Nat → Bool} {l : Option Nat} {p : Nat} (h : w p = true) : pkA R w l p = l := by
  unfold pkA
  rw [if_pos h]
theorem pkA_n {R : List (Nat × List Nat)} {w : Nat → Bool} {p : Nat} (h : w p = false) : pkA R w none p = some p := by
  unfold pkA
  rw [h]
  rfl
theorem pkA_t {R : List (Nat × List Nat)} {w : Nat → Bool} {p q : Nat} (h : w p = false) (hr : rlt (rAt R p) (rAt R q) = true) : pkA R w (some q) p = some p := by
  unfold pkA
  rw [h]
  show (if rlt (rAt R p) (rAt R q) = true then some p else some q) = _
  rw [if_pos hr]
theorem pkA_f {R : List (Nat × List Nat)} {w : Nat → Bool} {p q : Nat} (h : w p = false) (hr : rlt (rAt R p) (rAt R q) = false) : pkA R w (some q) p = some q := by
  unfold pkA
  rw [h]
  show (if rlt (rAt R p) (rAt R q) = true then some p else some q) = _
  rw [hr]
  rfl
theorem tk_200 {sg : Nat → Bool} : ∀ A : rn_L, (∀ p : Nat × Nat, p ∈ A.flatten → p.1 < 40 ∧ p.2 < 2) → ∀ t, t ∈ tk sg A → t < 200
  | [], _, t, ht => by simp [tk] at ht
  | B :: A, h, t, ht => by
    rw [List.flatten_cons] at h
    rw [tk_cons, List.mem_append, List.mem_cons] at ht
    rcases ht with ht | ht | ht
    · obtain ⟨p, hp, e⟩ := List.mem_map.mp ht
      have := h p (List.mem_append_left _ hp)
      rw [← e]
      unfold tkv
      by_cases hb : sg p.1 = true
      · rw [if_pos hb]; omega
      · rw [if_neg hb]; omega
    · omega
    · exact tk_200 A (fun p hp => h p (List.mem_append_right _ hp)) t ht
abbrev frQ (n h g : Nat) : Prop := 2 ≤ g ∧ g ≤ 9 ∨ g = h ∨ n + 7 ≤ g ∧ g ≤ n + 13
theorem add_ap {T : List Nat} {z : ow_MS} {h o t : Nat} (hT : ∀ k u, T[k]? = some u → z.2.1 h (o + (k + 1)) = nI u) : ∀ k u, (T ++ [t])[k]? = some u → (usI z h (o + (T.length + 1)) (nI t)).2.1 h (o + (k + 1)) = nI u := by
  intro k u hk
  by_cases hkl : k < T.length
  · rw [List.getElem?_append_left hkl] at hk
    exact rd_ne (by omega) (hT k u hk)
  · have hk2 : k = T.length := by
      have := (List.getElem?_eq_some_iff.mp hk).1
      rw [List.length_append] at this
      simp at this
      omega
    subst hk2
    rw [List.getElem?_append_right (Nat.le_refl _), Nat.sub_self] at hk
    cases hk
    exact po_usI_at
theorem e_X13_pack {r1 : Nat} {r2 : Nat} {x3 : Int32} {z : ow_MS} {Q : ow_MS → Prop} (H : Tt (fun K k => q_X13_pack K k 0 x3 0 0 0 0 0 0 0 0 r1 r2 0 0 z) Q) : Te (fun K => qe_X13_pack K r1 r2 x3 z) Q := w_te H
theorem u_X13_pack_0 {x3 : Int32} {x4 : Int32} {x5 : Int32} {x6 : Int32} {x7 : Int32} {x8 : Int32} {x9 : Int32} {x10 : Int32} {x11 : Int32} {r1 : Nat} {r2 : Nat} {t0 : Int32} {t1 : Int32} {z : ow_MS} {Q : ow_MS → Prop} (H : Tt (fun K k => qm_X13_pack_0 K (q_X13_pack K k) x3 x4 x5 x6 x7 x8 x9 x10 x11 r1 r2 t0 t1 z) Q) : Tt (fun K k => q_X13_pack K k 0 x3 x4 x5 x6 x7 x8 x9 x10 x11 r1 r2 t0 t1 z) Q := w_un (fun _ _ => rfl) H
theorem u_X13_pack_9 {x3 : Int32} {x4 : Int32} {x5 : Int32} {x6 : Int32} {x7 : Int32} {x8 : Int32} {x9 : Int32} {x10 : Int32} {x11 : Int32} {r1 : Nat} {r2 : Nat} {t0 : Int32} {t1 : Int32} {z : ow_MS} {Q : ow_MS → Prop} (H : Tt (fun K k => qm_X13_pack_9 K (q_X13_pack K k) x3 x4 x5 x6 x7 x8 x9 x10 x11 r1 r2 t0 t1 z) Q) : Tt (fun K k => q_X13_pack K k 9 x3 x4 x5 x6 x7 x8 x9 x10 x11 r1 r2 t0 t1 z) Q := w_un (fun _ _ => rfl) H
theorem u_X13_pack_3 {x3 : Int32} {x4 : Int32} {x5 : Int32} {x6 : Int32} {x7 : Int32} {x8 : Int32} {x9 : Int32} {x10 : Int32} {x11 : Int32} {r1 : Nat} {r2 : Nat} {t0 : Int32} {t1 : Int32} {z : ow_MS} {Q : ow_MS → Prop} (H : Tt (fun K k => qm_X13_pack_3 K (q_X13_pack K k) x3 x4 x5 x6 x7 x8 x9 x10 x11 r1 r2 t0 t1 z) Q) : Tt (fun K k => q_X13_pack K k 3 x3 x4 x5 x6 x7 x8 x9 x10 x11 r1 r2 t0 t1 z) Q := w_un (fun _ _ => rfl) H
theorem u_X13_pack_7 {x3 : Int32} {x4 : Int32} {x5 : Int32} {x6 : Int32} {x7 : Int32} {x8 : Int32} {x9 : Int32} {x10 : Int32} {x11 : Int32} {r1 : Nat} {r2 : Nat} {t0 : Int32} {t1 : Int32} {z : ow_MS} {Q : ow_MS → Prop} (H : Tt (fun K k => qm_X13_pack_7 K (q_X13_pack K k) x3 x4 x5 x6 x7 x8 x9 x10 x11 r1 r2 t0 t1 z) Q) : Tt (fun K k => q_X13_pack K k 7 x3 x4 x5 x6 x7 x8 x9 x10 x11 r1 r2 t0 t1 z) Q := w_un (fun _ _ => rfl) H
theorem u_X13_pack_8 {x3 : Int32} {x4 : Int32} {x5 : Int32} {x6 : Int32} {x7 : Int32} {x8 : Int32} {x9 : Int32} {x10 : Int32} {x11 : Int32} {r1 : Nat} {r2 : Nat} {t0 : Int32} {t1 : Int32} {z : ow_MS} {Q : ow_MS → Prop} (H : Tt (fun K k => qm_X13_pack_8 K (q_X13_pack K k) x3 x4 x5 x6 x7 x8 x9 x10 x11 r1 r2 t0 t1 z) Q) : Tt (fun K k => q_X13_pack K k 8 x3 x4 x5 x6 x7 x8 x9 x10 x11 r1 r2 t0 t1 z) Q := w_un (fun _ _ => rfl) H
theorem u_X13_pack_4 {x3 : Int32} {x4 : Int32} {x5 : Int32} {x6 : Int32} {x7 : Int32} {x8 : Int32} {x9 : Int32} {x10 : Int32} {x11 : Int32} {r1 : Nat} {r2 : Nat} {t0 : Int32} {t1 : Int32} {z : ow_MS} {Q : ow_MS → Prop} (H : Tt (fun K k => qm_X13_pack_4 K (q_X13_pack K k) x3 x4 x5 x6 x7 x8 x9 x10 x11 r1 r2 t0 t1 z) Q) : Tt (fun K k => q_X13_pack K k 4 x3 x4 x5 x6 x7 x8 x9 x10 x11 r1 r2 t0 t1 z) Q := w_un (fun _ _ => rfl) H
theorem u_X13_pack_6 {x3 : Int32} {x4 : Int32} {x5 : Int32} {x6 : Int32} {x7 : Int32} {x8 : Int32} {x9 : Int32} {x10 : Int32} {x11 : Int32} {r1 : Nat} {r2 : Nat} {t0 : Int32} {t1 : Int32} {z : ow_MS} {Q : ow_MS → Prop} (H : Tt (fun K k => qm_X13_pack_6 K (q_X13_pack K k) x3 x4 x5 x6 x7 x8 x9 x10 x11 r1 r2 t0 t1 z) Q) : Tt (fun K k => q_X13_pack K k 6 x3 x4 x5 x6 x7 x8 x9 x10 x11 r1 r2 t0 t1 z) Q := w_un (fun _ _ => rfl) H
theorem u_X13_pack_5 {x3 : Int32} {x4 : Int32} {x5 : Int32} {x6 : Int32} {x7 : Int32} {x8 : Int32} {x9 : Int32} {x10 : Int32} {x11 : Int32} {r1 : Nat} {r2 : Nat} {t0 : Int32} {t1 : Int32} {z : ow_MS} {Q : ow_MS → Prop} (H : Tt (fun K k => qm_X13_pack_5 K (q_X13_pack K k) x3 x4 x5 x6 x7 x8 x9 x10 x11 r1 r2 t0 t1 z) Q) : Tt (fun K k => q_X13_pack K k 5 x3 x4 x5 x6 x7 x8 x9 x10 x11 r1 r2 t0 t1 z) Q := w_un (fun _ _ => rfl) H
theorem u_X13_pack_1 {x3 : Int32} {x4 : Int32} {x5 : Int32} {x6 : Int32} {x7 : Int32} {x8 : Int32} {x9 : Int32} {x10 : Int32} {x11 : Int32} {r1 : Nat} {r2 : Nat} {t0 : Int32} {t1 : Int32} {z : ow_MS} {Q : ow_MS → Prop} (H : Tt (fun K k => qm_X13_pack_1 K (q_X13_pack K k) x3 x4 x5 x6 x7 x8 x9 x10 x11 r1 r2 t0 t1 z) Q) : Tt (fun K k => q_X13_pack K k 1 x3 x4 x5 x6 x7 x8 x9 x10 x11 r1 r2 t0 t1 z) Q := w_un (fun _ _ => rfl) H
theorem u_X13_pack_2 {x3 : Int32} {x4 : Int32} {x5 : Int32} {x6 : Int32} {x7 : Int32} {x8 : Int32} {x9 : Int32} {x10 : Int32} {x11 : Int32} {r1 : Nat} {r2 : Nat} {t0 : Int32} {t1 : Int32} {z : ow_MS} {Q : ow_MS → Prop} (H : Tt (fun K k => qm_X13_pack_2 K (q_X13_pack K k) x3 x4 x5 x6 x7 x8 x9 x10 x11 r1 r2 t0 t1 z) Q) : Tt (fun K k => q_X13_pack K k 2 x3 x4 x5 x6 x7 x8 x9 x10 x11 r1 r2 t0 t1 z) Q := w_un (fun _ _ => rfl) H
theorem tr_pack {n h o la : Nat} {z : ow_MS} {A : rn_L} {sg : Nat → Bool} (hn : mw_net n) (hh : 10 ≤ h ∧ h < 1000) (hla : (mX.2 h).2.1 = la) (ha : la < 2 ^ 30) (ho : o + 32 ≤ la) (hVC : A.flatten.length + A.length ≤ 31) (hcn : A.length ≤ 19) (hF : wkF A.flatten) (hA : rn_At z n A []) (hG : rn_sg z n A.flatten sg) : Te (fun K => qe_X13_pack K n h (nI o) z) (fun z1 => ∃ m P, mk A m P ∧ rc_At z1 h o (pkR A sg m P) ∧ fr (frQ n h) z z1 ∧ (∀ i, i < o ∨ o + 32 ≤ i → z1.2.1 h i = z.2.1 h i) ∧ rn_lk z1 n A ∧ rn_pt z1 n A P) := by
  have hm := net_mod hn
  have hd := wkF_ok hF
  refine e_X13_pack ?_
  refine u_X13_pack_0 ?_; unfold qm_X13_pack_0
  refine w_cs0 (tn_link hn (by omega) (by omega) hd.1 hA) (fun zl ⟨fl, al, il⟩ => w_cs0 (tn_split hn (by omega) (by omega) hd ⟨al, il⟩) (fun z0 ⟨f0, P, hpt⟩ => ?_))
  have hL0 : rn_lk z0 n A := fr_lk f0 (fun g hg => by rcases hg with hg | hg <;> omega) ⟨al, il⟩
  have f00 : fr (frQ n h) z z0 := fr_tr (fr_mono (fun g hg => Or.inr (Or.inr (by have := hg.1; have := hg.2; omega))) fl) (fr_mono (fun g hg => Or.inr (Or.inr (by rcases hg with hg | hg <;> omega))) f0)
  have hG0 : rn_sg z0 n A.flatten sg := fun p hp => by
    rw [(f00 (n + 6) (by omega)).2.1]
    exact hG p hp
  obtain ⟨m, hk, hmz⟩ := mk_of (by omega) hpt
  have hP := hpt.2.1
  obtain ⟨tot, -⟩ := rwL_tot (sg := sg) hd hk
  obtain ⟨R, hR⟩ : ∃ R, R = rwL A sg m P := ⟨_, rfl⟩
  rw [← hR] at tot
  have hRl := rwL_len (A := A) (sg := sg) (m := m) P
  rw [← hR] at hRl
  obtain ⟨A', sg', c', eP, okP, cP, lP⟩ := pkR_ok (sg := sg) hF hk
  have t200 : ∀ t, t ∈ pkR A sg m P → t < 200 := by
    rw [eP]
    exact tk_200 A' (fun p hp => by
      obtain ⟨a1, a2⟩ := (okP.2 p).mp hp
      exact ⟨by omega, a2⟩)
  have lenP : (pkR A sg m P).length = A.flatten.length + A.length := by
    rw [eP, tk_len, lP, okF_len okP]
    omega
  -- what stays
  have frN : ∀ {y : ow_MS}, fr (fun g => 2 ≤ g ∧ g ≤ 9 ∨ g = h) z0 y → rn_lk y n A ∧ rn_sg y n A.flatten sg ∧ rn_pt y n A P ∧ (∀ c, c < A.length → y.2.1 (n + 12) c = nI (m c)) ∧ fr (frQ n h) z y := fun {y} hf => by
    have e12 := (hf (n + 12) (by omega)).2.1
    refine ⟨fr_lk hf (fun g hg => by omega) hL0, fun p hp => ?_, ?_, fun c hc => ?_, fr_tr f00 (fr_mono (fun g hg => by unfold frQ; omega) hf)⟩
    · rw [(hf (n + 6) (by omega)).2.1]
      exact hG0 p hp
    · obtain ⟨a1, a2, a3, a4⟩ := hpt
      exact ⟨by rw [(hf (n + 13) (by omega)).1]; exact a1, a2, by rw [e12]; exact a3, by rw [e12]; exact a4⟩
    · rw [e12]
      exact hmz c hc
  let Q : ow_MS → Prop := fun z1 => ∃ m P, mk A m P ∧ rc_At z1 h o (pkR A sg m P) ∧ fr (frQ n h) z z1 ∧ (∀ i, i < o ∨ o + 32 ≤ i → z1.2.1 h i = z.2.1 h i) ∧ rn_lk z1 n A ∧ rn_pt z1 n A P
  have eh : z0.2.1 h = z.2.1 h := by
    rw [(f0 h (by rintro (h9 | h9) <;> omega)).2.1, (fl h (fun h9 => by have := h9.1; omega)).2.1]
  -- circles
  have cirL : ∀ (d k : Nat) (T : List Nat) (x4 x7 : Int32) (z1 : ow_MS), k + d = cir A m P → T ++ List.replicate d 0 = pkR A sg m P → fr (fun g => 2 ≤ g ∧ g ≤ 9 ∨ g = h) z0 z1 → (∀ i, i < o ∨ o + 32 ≤ i → z1.2.1 h i = z.2.1 h i) → (∀ i u, T[i]? = some u → z1.2.1 h (o + (i + 1)) = nI u) → Tt (fun K i => q_X13_pack K i 9 (nI o) x4 (nI (cir A m P)) (nI T.length) x7 (nI k) 0 0 0 n h 0 0 z1) Q := by
    intro d
    induction d with
    | zero =>
      intro k T x4 x7 z1 hkd hT hf hi hw
      rw [List.replicate_zero, List.append_nil] at hT
      obtain ⟨b1, b2, b3, b4, b5⟩ := frN (y := usI z1 h o (nI T.length)) (fr_I2 hf (Or.inr rfl))
      have hTl : T.length ≤ 31 := by rw [hT, lenP]; exact hVC
      refine u_X13_pack_9 ?_; unfold qm_X13_pack_9
      refine w_leT (by omega) (by omega) (w_wrI hla rfl (by omega) (w_some ⟨m, P, hk, ⟨by rw [lenP]; exact hVC, t200, ?_, fun i u hi9 => ?_⟩, b5, fun i hi9 => rd_ne (by omega) (hi i hi9), b1, b3⟩))
      · rw [po_usI_at, hT]
      · rw [← hT] at hi9
        exact rd_ne (by omega) (hw i u hi9)
    | succ d ih =>
      intro k T x4 x7 z1 hkd hT hf hi hw
      have hTl : T.length + 1 ≤ 31 := by
        have := congrArg List.length hT
        rw [List.length_append, List.length_replicate, lenP] at this
        omega
      refine u_X13_pack_9 ?_; unfold qm_X13_pack_9
      rw [nI_1, nI_1, nI_add]
      refine w_leF (by omega) (by omega) (w_wrI hla rfl (by omega) ?_)
      have := ih (k + 1) (T ++ [0]) x4 x7 (usI z1 h (o + (T.length + 1)) (nI 0)) (by omega) (by rw [← hT, List.replicate_succ, List.append_assoc]; rfl) (fr_I2 hf (Or.inr rfl)) (fun i hi9 => rd_ne (by omega) (hi i hi9)) (add_ap hw)
      rw [List.length_append] at this
      exact this
  -- the rows in order
  have ordL : ∀ (k : Nat) (w : Nat → Bool) (T : List Nat) (b : Nat) (z1 : ow_MS), rem w (fun _ => 1) R.length = k → T ++ pkT R b (sel R k w) ++ List.replicate (cir A m P) 0 = pkR A sg m P → fr (fun g => 2 ≤ g ∧ g ≤ 9 ∨ g = h) z0 z1 → (∀ i, i < o ∨ o + 32 ≤ i → z1.2.1 h i = z.2.1 h i) → (∀ i u, T[i]? = some u → z1.2.1 h (o + (i + 1)) = nI u) → rwI z1 R w → Tt (fun K i => q_X13_pack K i 3 (nI o) (nI R.length) (nI (cir A m P)) (nI T.length) (nI b) (nI (R.length - k)) 0 0 0 n h 0 0 z1) Q := by
    intro k
    induction k with
    | zero =>
      intro w T b z1 hr hT hf hi hw hI
      refine u_X13_pack_3 ?_; unfold qm_X13_pack_3
      refine w_leT (by omega) (by omega) ?_
      have e : sel R 0 w = [] := rfl
      rw [e] at hT
      have e2 : pkT R b [] = [] := rfl
      rw [e2, List.append_nil] at hT
      exact cirL (cir A m P) 0 T (nI R.length) (nI b) z1 (by omega) hT hf hi hw
    | succ k ih =>
      intro w T b z1 hr hT hf hi hw hI
      have hkR : k + 1 ≤ R.length := by
        have : ∀ (g : Nat → Bool) n, rem g (fun _ => 1) n ≤ n := by
          intro g n
          induction n with
          | zero => exact Nat.le_refl _
          | succ n ih =>
            unfold rem
            by_cases h9 : g n = true
            · rw [if_pos h9]; omega
            · rw [if_neg h9]; omega
        have := this w R.length
        omega
      obtain ⟨q, hq⟩ : ∃ q, pk1 R w R.length = some q := by
        cases hp : pk1 R w R.length with
        | some q => exact ⟨q, rfl⟩
        | none =>
          have h0 := pk1_none R.length hp
          have : ∀ n, n ≤ R.length → rem w (fun _ => 1) n = 0 := by
            intro n
            induction n with
            | zero => intro _; rfl
            | succ n ih =>
              intro hn
              unfold rem
              rw [ih (by omega), h0 n (by omega)]
              rfl
          have := this _ (Nat.le_refl _)
          omega
      obtain ⟨hq1, hq2⟩ := pk1_in R.length hq
      rw [sel_some hq] at hT
      have eT : T ++ (sft b (rAt R q).2 ++ pkT R (b + (rAt R q).1 / 2) (sel R k (fun i => w i || decide (i = q)))) ++ List.replicate (cir A m P) 0 = pkR A sg m P := hT
      have r1 := rem_st (g' := fun i => w i || decide (i = q)) (f := fun _ => 1) hq2 (fun b => rfl) R.length hq1
      have r1' : rem (fun i => w i || decide (i = q)) (fun _ => 1) R.length + 1 = rem w (fun _ => 1) R.length := r1
      have hTtot := congrArg List.length eT
      rw [List.length_append, List.length_append, List.length_append, sft_len, List.length_replicate, lenP] at hTtot
      obtain ⟨v1, v2, v3⟩ := hI q hq1
      have hR20 : R.length ≤ 19 := by omega
      have hb1 : ∀ j, j < R.length → (rAt R j).1 < 2 ^ 20 := by
        intro j hj
        have hmem : rAt R j ∈ rwL A sg m P := by rw [← hR]; exact List.mem_of_getElem? (rAt_of hj)
        obtain ⟨p, v, g1, g2, g3, g4⟩ := rwL_mem P hmem
        rw [g4]
        have : (pvl A m p A.flatten.length).length ≤ A.flatten.length := Nat.le_trans (List.length_filter_le _ _) (by rw [List.length_range]; exact Nat.le_refl _)
        show (pvl A m p A.flatten.length).length < 2 ^ 20
        omega
      -- the row q is put
      have put : ∀ (d i : Nat) (z2 : ow_MS), i + d = (rAt R q).2.length → fr (fun g => 2 ≤ g ∧ g ≤ 9 ∨ g = h) z0 z2 → (∀ i, i < o ∨ o + 32 ≤ i → z2.2.1 h i = z.2.1 h i) → (∀ j u, (T ++ sft b ((rAt R q).2.take i))[j]? = some u → z2.2.1 h (o + (j + 1)) = nI u) → rwI z2 R (fun i => w i || decide (i = q)) → Tt (fun K i9 => q_X13_pack K i9 7 (nI o) (nI R.length) (nI (cir A m P)) (nI (T ++ sft b ((rAt R q).2.take i)).length) (nI b) (nI (R.length - (k + 1))) (nI q) (nI (i + 1)) 0 n h 0 0 z2) Q := by
        intro d
        induction d with
        | zero =>
          intro i z2 hid hf2 hi2 hw2 hI2
          obtain ⟨u1, u2, u3⟩ := hI2 q hq1
          have hql := u2.1
          refine u_X13_pack_7 ?_; unfold qm_X13_pack_7
          rw [show (32 : Int32) * nI q = nI (32 * q) from pk_mul 32 q]
          refine w_rdI ml7 rfl (by omega) u2.2.2.1 (w_ltT (by omega) (by omega) (w_rdI ml8 rfl (by omega) u1 (w_nzI (by decide) ?_)))
          have hdv : nI (rAt R q).1 / 2 = nI ((rAt R q).1 / 2) := pk_div (d := 2) (by have := hb1 q hq1; omega) (by omega) (by omega)
          rw [hdv, nI_add, nI_1]
          rw [List.take_of_length_le (by omega)] at hw2 ⊢
          have := ih (fun i => w i || decide (i = q)) (T ++ sft b (rAt R q).2) (b + (rAt R q).1 / 2) z2 (by omega) (by rw [← eT]; simp only [List.append_assoc]) hf2 hi2 hw2 hI2
          rw [show R.length - (k + 1) + 1 = R.length - k by omega]
          exact this
        | succ d ihd =>
          intro i z2 hid hf2 hi2 hw2 hI2
          obtain ⟨u1, u2, u3⟩ := hI2 q hq1
          have hql := u2.1
          obtain ⟨t, a1, a2, a3⟩ := rc_get u2 (k := i) (by omega)
          have hTl : (T ++ sft b ((rAt R q).2.take i)).length = T.length + i := by
            rw [List.length_append, sft_len, List.length_take]
            omega
          obtain ⟨T2, hT2⟩ : ∃ T2, T2 = T ++ sft b ((rAt R q).2.take i) := ⟨_, rfl⟩
          rw [← hT2] at hTl hw2 ⊢
          have est : T ++ sft b ((rAt R q).2.take (i + 1)) = T2 ++ [if t = 0 then 0 else t + 4 * b] := by
            obtain ⟨g1, g2⟩ := List.getElem?_eq_some_iff.mp a1
            rw [List.take_succ_eq_append_getElem g1, g2, hT2]
            unfold sft
            rw [List.map_append, List.append_assoc]
            rfl
          have c8 : Tt (fun K i9 => q_X13_pack K i9 8 (nI o) (nI R.length) (nI (cir A m P)) (nI (T2.length + 1)) (nI b) (nI (R.length - (k + 1))) (nI q) (nI (i + 1)) (nI t) n h (nI (if t = 0 then 0 else t + 4 * b)) (nI (o + (T2.length + 1))) z2) Q := by
            refine u_X13_pack_8 ?_; unfold qm_X13_pack_8
            refine w_wrI hla rfl (by omega) ?_
            rw [nI_1]
            have := ihd (i + 1) (usI z2 h (o + (T2.length + 1)) (nI (if t = 0 then 0 else t + 4 * b))) (by omega) (fr_I2 hf2 (Or.inr rfl)) (fun j hj => rd_ne (by omega) (hi2 j hj)) (by rw [est]; exact add_ap hw2) (rwI_fr (P := fun g => g = h) (fr_I rfl) (by omega) (by omega) (by omega) hI2)
            rw [est, List.length_append] at this
            exact this
          refine u_X13_pack_7 ?_; unfold qm_X13_pack_7
          rw [show (32 : Int32) * nI q = nI (32 * q) from pk_mul 32 q, nI_add, nI_1 T2.length, nI_add]
          refine w_rdI ml7 rfl (by omega) u2.2.2.1 (w_ltF (by omega) (by omega) (w_rdI ml7 rfl (by omega) a3 (w_eqN (b := 0) (by omega) (by omega) (fun h9 => ?_) (fun h9 => ?_))))
          · rw [if_pos h9] at c8
            exact c8
          · rw [if_neg h9] at c8
            rw [show (4 : Int32) * nI b = nI (4 * b) from pk_mul 4 b, nI_add]
            exact c8
      -- the least row is looked for
      have pick : ∀ (d p : Nat), p + d = R.length → Tt (fun K i9 => q_X13_pack K i9 4 (nI o) (nI R.length) (nI (cir A m P)) (nI T.length) (nI b) (nI (R.length - (k + 1))) (lI (pk1 R w p)) (nI p) 0 n h 0 0 z1) Q := by
        intro d
        induction d with
        | zero =>
          intro p hp
          have hpR : p = R.length := by omega
          rw [hpR, hq]
          show Tt (fun K i9 => q_X13_pack K i9 4 (nI o) (nI R.length) (nI (cir A m P)) (nI T.length) (nI b) (nI (R.length - (k + 1))) (nI q) (nI R.length) 0 n h 0 0 z1) Q
          refine u_X13_pack_4 ?_; unfold qm_X13_pack_4
          refine w_leT (by omega) (Nat.le_refl _) (w_wrZ ml9 rfl (by omega) ?_)
          have e0 : T ++ sft b ((rAt R q).2.take 0) = T := List.append_nil _
          have := put (rAt R q).2.length 0 (usI z1 9 q (vp_nar .boolean 1)) (by omega) (fr_I2 hf (Or.inl (by decide))) (fun i hi9 => rd_ot (by omega) (hi i hi9)) (by rw [e0]; exact fun j u hj => rd_ot (by omega) (hw j u hj)) (fun j hj => by
            obtain ⟨g1, g2, g3⟩ := hI j hj
            refine ⟨rd_ot (by decide) g1, rc_fr (P := fun g => g = 9) (fr_I rfl) (by decide) g2, ?_⟩
            by_cases hjq : j = q
            · show _ = bZ (w j || decide (j = q))
              rw [hjq, po_usI_at, decide_eq_true rfl, Bool.or_true]
              rfl
            · show _ = bZ (w j || decide (j = q))
              rw [po_usI_ne hjq, decide_eq_false hjq, Bool.or_false]
              exact g3)
          rw [e0] at this
          exact this
        | succ d ihd =>
          intro p hp
          have hpR : p < R.length := by omega
          obtain ⟨g1, g2, g3⟩ := hI p hpR
          have c6 : ∀ l : Option Nat, pk1 R w (p + 1) = l → Tt (fun K i9 => q_X13_pack K i9 6 (nI o) (nI R.length) (nI (cir A m P)) (nI T.length) (nI b) (nI (R.length - (k + 1))) (lI l) (nI p) 0 n h 0 0 z1) Q := by
            intro l hl
            refine u_X13_pack_6 ?_; unfold qm_X13_pack_6
            rw [nI_1, ← hl]
            exact ihd (p + 1) (by omega)
          have c5 : ∀ (x9 : Int32), pk1 R w (p + 1) = some p → Tt (fun K i9 => q_X13_pack K i9 5 (nI o) (nI R.length) (nI (cir A m P)) (nI T.length) (nI b) (nI (R.length - (k + 1))) x9 (nI p) 0 n h 0 0 z1) Q := by
            intro x9 hl
            refine u_X13_pack_5 ?_; unfold qm_X13_pack_5
            exact c6 _ hl
          refine u_X13_pack_4 ?_; unfold qm_X13_pack_4
          refine w_leF (by omega) hpR (w_rdI ml9 rfl (by omega) g3 ?_)
          cases hwp : w p with
          | true => exact w_ifF (by decide) (c6 _ (by rw [pk1_s, pkA_w hwp]))
          | false =>
            refine w_ifT rfl ?_
            cases hl : pk1 R w p with
            | none => exact w_ifT rfl (c5 _ (by rw [pk1_s, hl, pkA_n hwp]))
            | some q9 =>
              obtain ⟨j1, j2⟩ := pk1_in p hl
              obtain ⟨i1, i2, i3⟩ := hI q9 (by omega)
              have b1 := hb1 p hpR
              have b2 := hb1 q9 (by omega)
              have l1 := g2.1
              have l2 := i2.1
              rw [show lI (some q9) = nI q9 from rfl]
              refine w_ifF (rn_neg1 (by omega)) (w_rdI ml8 rfl (by omega) g1 (w_rdI ml8 rfl (by omega) i1 (w_lt (by omega) (by omega) (fun h9 => c5 _ (by rw [pk1_s, hl, pkA_t hwp (rlt_a h9)])) (fun h9 => w_rdI ml8 rfl (by omega) g1 (w_rdI ml8 rfl (by omega) i1 (w_eqN (by omega) (by omega) (fun h8 => ?_) (fun h8 => c6 (some q9) (by rw [pk1_s, hl, pkA_f hwp (rlt_c (by omega))]))))))))
              rw [show (32 : Int32) * nI p = nI (32 * p) from pk_mul 32 p, show (32 : Int32) * nI q9 = nI (32 * q9) from pk_mul 32 q9]
              refine w_cs1 (tr_below ml7 ml7 (by omega) (by omega) (by omega) (by omega) g2 i2) (fun a z2 e => ?_)
              cases e
              cases hlx : lxb (rAt R p).2 (rAt R q9).2 with
              | true => exact w_ifF (by decide) (c5 _ (by rw [pk1_s, hl, pkA_t hwp (by rw [rlt_b h8, hlx])]))
              | false => exact w_ifT rfl (c6 (some q9) (by rw [pk1_s, hl, pkA_f hwp (by rw [rlt_b h8, hlx])]))
      refine u_X13_pack_3 ?_; unfold qm_X13_pack_3
      refine w_leF (by omega) (by omega) ?_
      exact pick R.length 0 (by omega)
  -- the parts
  have partL : ∀ (d p : Nat) (z1 : ow_MS), p + d = P → fr (fun g => 2 ≤ g ∧ g ≤ 9 ∨ g = h) z0 z1 → z1.2.1 h = z.2.1 h → rwI z1 (rwL A sg m p) (fun _ => false) → Tt (fun K i => q_X13_pack K i 1 (nI o) (nI (rwL A sg m p).length) (nI (cir A m p)) (nI p) 0 0 0 0 0 n h 0 0 z1) Q := by
    intro d
    induction d with
    | zero =>
      intro p z1 hp hf hz hI
      have hpP : p = P := by omega
      rw [hpP, ← hR] at hI ⊢
      refine u_X13_pack_1 ?_; unfold qm_X13_pack_1
      refine w_rdF (frN hf).2.2.1.1 (w_leT (by omega) (by omega) ?_)
      have h0 : rem (fun _ => false) (fun _ => 1) R.length = R.length := rem_1 _
      have := ordL R.length (fun _ => false) [] 0 z1 h0 (by rw [List.nil_append]; unfold pkR; rw [← hR]) hf (fun i hi => by rw [hz]) (fun i u hi => by simp at hi) hI
      rw [Nat.sub_self] at this
      exact this
    | succ d ih =>
      intro p z1 hp hf hz hI
      obtain ⟨b1, b2, b3, b4, b5⟩ := frN hf
      have hRp := rwL_len (A := A) (sg := sg) (m := m) p
      have hlen : (pvl A m p A.flatten.length).length ≤ A.flatten.length := Nat.le_trans (List.length_filter_le _ _) (by rw [List.length_range]; exact Nat.le_refl _)
      refine u_X13_pack_1 ?_; unfold qm_X13_pack_1
      rw [show (32 : Int32) * nI (rwL A sg m p).length = nI (32 * (rwL A sg m p).length) from pk_mul 32 _]
      refine w_rdF b3.1 (w_leF (by omega) (by omega) (w_cs1 (tr_leastOf hn hVC hd b1 b2 (fun c hc => ⟨b4 c hc, by have := hk.1 c hc; omega⟩) (by omega) (by omega)) (fun a z2 ⟨r1, r2, r3, r4⟩ => ?_)))
      have r1 : a = nI (pvl A m p A.flatten.length).length := r1
      have r2 : fr frR7 z1 z2 := r2
      have r3 : ∀ i, i < 32 * (rwL A sg m p).length ∨ 32 * (rwL A sg m p).length + 32 ≤ i → z2.2.1 7 i = z1.2.1 7 i := r3
      have r4 : ∀ T, lsC A sg (pvl A m p A.flatten.length) = some T → rc_At z2 7 (32 * (rwL A sg m p).length) T := r4
      have hf2 : fr (fun g => 2 ≤ g ∧ g ≤ 9 ∨ g = h) z0 z2 := fr_tr hf (fr_mono (fun g hg => Or.inl (by have := hg.1; have := hg.2; omega)) r2)
      have hz2 : z2.2.1 h = z.2.1 h := by
        rw [(r2 h (fun h9 => by have := h9.2; omega)).2.1]
        exact hz
      have e8 := (r2 8 (by decide)).2.1
      have e9 := (r2 9 (by decide)).2.1
      have hI2 : rwI z2 (rwL A sg m p) (fun _ => false) := fun k hk9 => by
        obtain ⟨g1, g2, g3⟩ := hI k hk9
        refine ⟨by rw [e8]; exact g1, ⟨g2.1, g2.2.1, ?_, fun i t hi => ?_⟩, by rw [e9]; exact g3⟩
        · rw [r3 _ (Or.inl (by omega))]
          exact g2.2.2.1
        · have := (List.getElem?_eq_some_iff.mp hi).1
          have := g2.1
          rw [r3 _ (Or.inl (by omega))]
          exact g2.2.2.2 i t hi
      rw [r1]
      refine w_eqN (b := 0) (by omega) (by omega) (fun h9 => ?_) (fun h9 => ?_)
      · have hnil : pvl A m p A.flatten.length = [] := List.length_eq_zero_iff.mp h9
        have eR : rwL A sg m (p + 1) = rwL A sg m p := by
          rw [rwL_s]
          unfold rwA
          rw [hnil]
          rfl
        have eC : cir A m (p + 1) = cir A m p + 1 := by
          show cir A m p + (if pvl A m p A.flatten.length = [] then 1 else 0) = _
          rw [if_pos hnil]
        refine u_X13_pack_2 ?_; unfold qm_X13_pack_2
        rw [nI_1, nI_1]
        have := ih (p + 1) z2 (by omega) hf2 hz2 (by rw [eR]; exact hI2)
        rw [eR, eC] at this
        exact this
      · have hne : pvl A m p A.flatten.length ≠ [] := fun e => h9 (by rw [e]; rfl)
        obtain ⟨T, hT⟩ := lsC_ne (sg := sg) hne
        have eR : rwL A sg m (p + 1) = rwL A sg m p ++ [((pvl A m p A.flatten.length).length, T)] := by
          rw [rwL_s]
          unfold rwA
          rw [hT]
        have eC : cir A m (p + 1) = cir A m p := by
          show cir A m p + (if pvl A m p A.flatten.length = [] then 1 else 0) = _
          rw [if_neg hne]
          rfl
        refine w_wrI ml8 rfl (by omega) (w_wrZ ml9 rfl (by omega) ?_)
        refine u_X13_pack_2 ?_; unfold qm_X13_pack_2
        rw [nI_1, nI_1]
        have := ih (p + 1) (usI (usI z2 8 (rwL A sg m p).length (nI (pvl A m p A.flatten.length).length)) 9 (rwL A sg m p).length (vp_nar .boolean 0)) (by omega) (fr_I2 (fr_I2 hf2 (Or.inl (by decide))) (Or.inl (by decide))) (by rw [po_usI_ot (by omega), po_usI_ot (by omega)]; exact hz2) (by
          rw [eR]
          intro k hk9
          rw [List.length_append] at hk9
          simp only [List.length_cons, List.length_nil] at hk9
          by_cases hke : k = (rwL A sg m p).length
          · rw [hke, rAt_new]
            exact ⟨rd_ot (by decide) po_usI_at, rc_fr (P := fun g => g = 8 ∨ g = 9) (fr_I2 (fr_I (Or.inl rfl)) (Or.inr rfl)) (by decide) (r4 T hT), po_usI_at⟩
          · have hk8 : k < (rwL A sg m p).length := by omega
            obtain ⟨g1, g2, g3⟩ := hI2 k hk8
            rw [rAt_app hk8]
            exact ⟨rd_ot (by decide) (rd_ne hke g1), rc_fr (P := fun g => g = 8 ∨ g = 9) (fr_I2 (fr_I (Or.inl rfl)) (Or.inr rfl)) (by decide) g2, rd_ne hke (rd_ot (by decide) g3)⟩)
        rw [eR, eC, List.length_append] at this
        exact this
  exact partL P 0 z0 (by omega) fr_rf eh (fun k hk9 => by simp [rwL] at hk9)
end
