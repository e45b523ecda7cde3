/-! leastOf: the least code of a part -/
def cdv (A : rn_L) (sg : Nat → Bool) (v : Nat) : List Nat := tks A sg (vsO A (trS A v)) (trS A v)
def lsA (a : Option (List Nat)) (T : List Nat) : Option (List Nat) := match a with
  | none => some T
  | some U => if lxb T U then some T else some U
def lsC (A : rn_L) (sg : Nat → Bool) (vs : List Nat) : Option (List Nat) := (vs.map (cdv A sg)).foldl lsA none
def pvl (A : rn_L) (m : Nat → Nat) (p k : Nat) : List Nat := (List.range k).filter (fun v => decide (m (rn_c A v) = p))
theorem pvl_s {A : rn_L} {m : Nat → Nat} {p k : Nat} : pvl A m p (k + 1) = pvl A m p k ++ if m (rn_c A k) = p then [k] else [] := by
  unfold pvl
  rw [List.range_succ, List.filter_append]
  by_cases h : m (rn_c A k) = p <;> simp [h]
theorem lsC_app {A : rn_L} {sg : Nat → Bool} {vs : List Nat} {v : Nat} : lsC A sg (vs ++ [v]) = lsA (lsC A sg vs) (cdv A sg v) := by
  unfold lsC
  rw [List.map_append, List.foldl_append]
  rfl
theorem lsA_some {a : Option (List Nat)} {T : List Nat} : ∃ U, lsA a T = some U ∧ (U = T ∨ a = some U) := by
  cases a with
  | none => exact ⟨T, rfl, Or.inl rfl⟩
  | some U =>
    unfold lsA
    by_cases h : lxb T U = true
    · exact ⟨T, if_pos h, Or.inl rfl⟩
    · exact ⟨U, if_neg h, Or.inr rfl⟩
theorem lsA_t {T U : List Nat} (h : lxb T U = true) : lsA (some U) T = some T := by
  show (if lxb T U = true then some T else some U) = some T
  rw [if_pos h]
theorem lsA_f {T U : List Nat} (h : lxb T U = false) : lsA (some U) T = some U := by
  show (if lxb T U = true then some T else some U) = some U
  rw [if_neg (by rw [h]; decide)]
theorem lsC_mem {A : rn_L} {sg : Nat → Bool} {T : List Nat} (vs : List Nat) : lsC A sg vs = some T → ∃ v, v ∈ vs ∧ T = cdv A sg v := by
  refine fm_rev (A := A) (P := fun vs => lsC A sg vs = some T → ∃ v, v ∈ vs ∧ T = cdv A sg v) (fun h => by cases h) (fun vs v ih => ?_) vs
  rw [lsC_app]
  intro h
  obtain ⟨U, h1, h2⟩ := lsA_some (a := lsC A sg vs) (T := cdv A sg v)
  rw [h] at h1
  cases h1
  rcases h2 with h2 | h2
  · exact ⟨v, by simp, h2⟩
  · obtain ⟨u, h3, h4⟩ := ih h2
    exact ⟨u, List.mem_append_left _ h3, h4⟩
theorem lsC_none {A : rn_L} {sg : Nat → Bool} {vs : List Nat} (h : lsC A sg vs = none) : vs = [] := by
  rcases List.eq_nil_or_concat vs with e | ⟨L, b, e⟩
  · exact e
  · rw [e, List.concat_eq_append, lsC_app] at h
    obtain ⟨U, h1, -⟩ := lsA_some (a := lsC A sg L) (T := cdv A sg b)
    rw [h] at h1
    cases h1
abbrev frR7 (g : Nat) : Prop := 2 ≤ g ∧ g ≤ 7
theorem u_X13_leastOf_1 {x2 : Int32} {x3 : Int32} {x4 : Int32} {x5 : Int32} {x6 : Int32} {r1 : Nat} {z : ow_MS} {Q : (Int32 × ow_MS) → Prop} (H : Tt (fun K k => qm_X13_leastOf_1 K (q_X13_leastOf K k) x2 x3 x4 x5 x6 r1 z) Q) : Tt (fun K k => q_X13_leastOf K k 1 x2 x3 x4 x5 x6 r1 z) Q := w_un (fun _ _ => rfl) H
theorem u_X13_leastOf_4 {x2 : Int32} {x3 : Int32} {x4 : Int32} {x5 : Int32} {x6 : Int32} {r1 : Nat} {z : ow_MS} {Q : (Int32 × ow_MS) → Prop} (H : Tt (fun K k => qm_X13_leastOf_4 K (q_X13_leastOf K k) x2 x3 x4 x5 x6 r1 z) Q) : Tt (fun K k => q_X13_leastOf K k 4 x2 x3 x4 x5 x6 r1 z) Q := w_un (fun _ _ => rfl) H
theorem u_X13_leastOf_3 {x2 : Int32} {x3 : Int32} {x4 : Int32} {x5 : Int32} {x6 : Int32} {r1 : Nat} {z : ow_MS} {Q : (Int32 × ow_MS) → Prop} (H : Tt (fun K k => qm_X13_leastOf_3 K (q_X13_leastOf K k) x2 x3 x4 x5 x6 r1 z) Q) : Tt (fun K k => q_X13_leastOf K k 3 x2 x3 x4 x5 x6 r1 z) Q := w_un (fun _ _ => rfl) H
theorem u_X13_leastOf_2 {x2 : Int32} {x3 : Int32} {x4 : Int32} {x5 : Int32} {x6 : Int32} {r1 : Nat} {z : ow_MS} {Q : (Int32 × ow_MS) → Prop} (H : Tt (fun K k => qm_X13_leastOf_2 K (q_X13_leastOf K k) x2 x3 x4 x5 x6 r1 z) Q) : Tt (fun K k => q_X13_leastOf K k 2 x2 x3 x4 x5 x6 r1 z) Q := w_un (fun _ _ => rfl) H
theorem e_X13_leastOf {r1 : Nat} {x2 : Int32} {x3 : Int32} {z : ow_MS} {Q : (Int32 × ow_MS) → Prop} (H : Tt (fun K k => q_X13_leastOf K k 0 x2 x3 0 0 0 r1 z) Q) : Te (fun K => qe_X13_leastOf K r1 x2 x3 z) Q := w_te H
theorem u_X13_leastOf_0 {x2 : Int32} {x3 : Int32} {x4 : Int32} {x5 : Int32} {x6 : Int32} {r1 : Nat} {z : ow_MS} {Q : (Int32 × ow_MS) → Prop} (H : Tt (fun K k => qm_X13_leastOf_0 K (q_X13_leastOf K k) x2 x3 x4 x5 x6 r1 z) Q) : Tt (fun K k => q_X13_leastOf K k 0 x2 x3 x4 x5 x6 r1 z) Q := w_un (fun _ _ => rfl) H
theorem tr_leastOf {n p o : Nat} {z : ow_MS} {A : rn_L} {sg : Nat → Bool} {m : Nat → Nat} (hn : mw_net n) (hVC : A.flatten.length + A.length ≤ 31) (hd : rn_ok A.flatten) (hL : rn_lk z n A) (hG : rn_sg z n A.flatten sg) (hM : ∀ c, c < A.length → z.2.1 (n + 12) c = nI (m c) ∧ m c < 40) (hp : p < 40) (ho : o + 32 ≤ 640) : Te (fun K => qe_X13_leastOf K n (nI p) (nI o) z) (fun r => r.1 = nI (pvl A m p A.flatten.length).length ∧ fr frR7 z r.2 ∧ (∀ i, i < o ∨ o + 32 ≤ i → r.2.2.1 7 i = z.2.1 7 i) ∧ ∀ T, lsC A sg (pvl A m p A.flatten.length) = some T → rc_At r.2 7 o T) := by
  have hm := net_mod hn
  have frK : ∀ {y y1 : ow_MS}, fr frR7 y y1 → rn_lk y n A → rn_lk y1 n A := fun hf h => fr_lk hf (fun g hg => by have := hg.2; omega) h
  have frS : ∀ {y y1 : ow_MS}, fr frR7 y y1 → rn_sg y n A.flatten sg → rn_sg y1 n A.flatten sg := fun hf h p hp => by
    rw [(hf (n + 6) (by omega)).2.1]
    exact h p hp
  have f67 : ∀ {y y1 : ow_MS}, fr frR y y1 → fr frR7 y y1 := fun hf => fr_mono (fun g hg => by have := hg.1; have := hg.2; omega) hf
  let Q : Int32 × ow_MS → Prop := fun r => r.1 = nI (pvl A m p A.flatten.length).length ∧ fr frR7 z r.2 ∧ (∀ i, i < o ∨ o + 32 ≤ i → r.2.2.1 7 i = z.2.1 7 i) ∧ ∀ T, lsC A sg (pvl A m p A.flatten.length) = some T → rc_At r.2 7 o T
  have hlen : ∀ k, (pvl A m p k).length ≤ k := fun k => Nat.le_trans (List.length_filter_le _ _) (by rw [List.length_range]; exact Nat.le_refl _)
  have main : ∀ (d v : Nat) (z1 : ow_MS), v + d = A.flatten.length → fr frR7 z z1 → (∀ i, i < o ∨ o + 32 ≤ i → z1.2.1 7 i = z.2.1 7 i) → (∀ T, lsC A sg (pvl A m p v) = some T → rc_At z1 7 o T) → Tt (fun K k => q_X13_leastOf K k 1 (nI p) (nI o) (nI (pvl A m p v).length) (nI v) 0 n z1) Q := by
    intro d
    induction d with
    | zero =>
      intro v z1 hv hf h7 hT
      have hve : v = A.flatten.length := by omega
      rw [hve] at hT ⊢
      refine u_X13_leastOf_1 ?_; unfold qm_X13_leastOf_1
      exact w_rdF (frK hf hL).V (w_leT (by omega) (Nat.le_refl _) (w_some ⟨rfl, hf, h7, hT⟩))
    | succ d ih =>
      intro v z1 hv hf h7 hT
      have hvl : v < A.flatten.length := by omega
      have hL1 := frK hf hL
      have hc := (rn_c_in A v hvl).1
      obtain ⟨m1, m2⟩ := hM _ hc
      have m3 : z1.2.1 (n + 12) (rn_c A v) = nI (m (rn_c A v)) := by
        rw [(hf (n + 12) (by omega)).2.1]
        exact m1
      have hll := hlen v
      refine u_X13_leastOf_1 ?_; unfold qm_X13_leastOf_1
      refine w_rdF hL1.V (w_leF (by omega) hvl (w_rdI (pl8 hn) rfl (by omega) (hL1.2.1 v hvl).1 (w_rdI (pl12 hn) rfl (by omega) m3 (w_eqN (by omega) (by omega) (fun he => w_cs0 (tr_rowFrom hn hVC hd hL1 (frS hf hG) hvl) (fun z2 ⟨f2, r2, s2⟩ => ?_)) (fun he => ?_)))))
      · have epv : pvl A m p (v + 1) = pvl A m p v ++ [v] := by rw [pvl_s, if_pos he]
        have els : lsC A sg (pvl A m p (v + 1)) = lsA (lsC A sg (pvl A m p v)) (cdv A sg v) := by rw [epv, lsC_app]
        have hf2 : fr frR7 z z2 := fr_tr hf (f67 f2)
        have e7 : z2.2.1 7 = z1.2.1 7 := (f2 7 (by decide)).2.1
        have r2' : rc_At z2 2 0 (cdv A sg v) := r2
        have s2' : z2.1 3 = nI (cdv A sg v).length := s2
        have hcl := r2'.1
        have c4 : ∀ z3 : ow_MS, fr frR7 z z3 → (∀ i, i < o ∨ o + 32 ≤ i → z3.2.1 7 i = z.2.1 7 i) → (∀ T, lsC A sg (pvl A m p (v + 1)) = some T → rc_At z3 7 o T) → Tt (fun K k => q_X13_leastOf K k 4 (nI p) (nI o) (nI (pvl A m p (v + 1)).length) (nI v) 0 n z3) Q := by
          intro z3 a1 a2 a3
          refine u_X13_leastOf_4 ?_; unfold qm_X13_leastOf_4
          rw [nI_1]
          exact ih (v + 1) z3 (by omega) a1 a2 a3
        have cp : lsA (lsC A sg (pvl A m p v)) (cdv A sg v) = some (cdv A sg v) → ∀ (d k : Nat) (z3 : ow_MS), k + d = (cdv A sg v).length + 1 → fr (fun g => g = 7) z2 z3 → (∀ i, i < o ∨ o + 32 ≤ i → z3.2.1 7 i = z.2.1 7 i) → (∀ i, i < k → z3.2.1 7 (o + i) = z2.2.1 2 i) → Tt (fun K k1 => q_X13_leastOf K k1 3 (nI p) (nI o) (nI (pvl A m p (v + 1)).length) (nI v) (nI k) n z3) Q := by
          intro hls d
          induction d with
          | zero =>
            intro k z3 hk f3 h73 hcp
            refine u_X13_leastOf_3 ?_; unfold qm_X13_leastOf_3
            refine w_rdF (x := nI (cdv A sg v).length) (by rw [(f3 3 (by decide)).1]; exact s2') (w_ltT (by omega) (by omega) (c4 z3 (fr_tr hf2 (fr_mono (fun g hg => by rw [hg]; decide) f3)) h73 (fun T hT9 => ?_)))
            rw [els, hls] at hT9
            cases hT9
            refine ⟨r2'.1, r2'.2.1, ?_, fun i t hi => ?_⟩
            · have := hcp 0 (by omega)
              rw [Nat.add_zero] at this
              rw [this]
              exact r2'.2.2.1
            · have hil := (List.getElem?_eq_some_iff.mp hi).1
              rw [hcp (i + 1) (by omega)]
              have := r2'.2.2.2 i t hi
              rw [Nat.zero_add] at this
              exact this
          | succ d ihd =>
            intro k z3 hk f3 h73 hcp
            refine u_X13_leastOf_3 ?_; unfold qm_X13_leastOf_3
            rw [nI_add, nI_1]
            refine w_rdF (x := nI (cdv A sg v).length) (by rw [(f3 3 (by decide)).1]; exact s2') (w_ltF (by omega) (by omega) (w_rdI ml2 rfl (by omega) (by rw [(f3 2 (by decide)).2.1]) (w_wrI ml7 rfl (by omega) ?_)))
            refine ihd (k + 1) _ (by omega) (fr_I2 f3 rfl) (fun i hi => ?_) (fun i hi => ?_)
            · exact rd_ne (by omega) (h73 i hi)
            · by_cases hik : i = k
              · rw [hik, po_usI_at]
              · exact rd_ne (by omega) (hcp i (by omega))
        have c2 : lsA (lsC A sg (pvl A m p v)) (cdv A sg v) = some (cdv A sg v) → Tt (fun K k => q_X13_leastOf K k 2 (nI p) (nI o) (nI (pvl A m p (v + 1)).length) (nI v) 0 n z2) Q := by
          intro hls
          refine u_X13_leastOf_2 ?_; unfold qm_X13_leastOf_2
          exact cp hls ((cdv A sg v).length + 1) 0 z2 (by omega) fr_rf (fun i hi => by rw [e7]; exact h7 i hi) (fun i hi => by omega)
        have epl : (pvl A m p (v + 1)).length = (pvl A m p v).length + 1 := by
          rw [epv, List.length_append]
          rfl
        rw [epl] at c2 c4
        rw [nI_1]
        refine w_eqN (b := 1) (by omega) (by omega) (fun h1 => c2 ?_) (fun h1 => ?_)
        · have h0 : pvl A m p v = [] := List.length_eq_zero_iff.mp (by omega)
          rw [h0]
          rfl
        · cases hls : lsC A sg (pvl A m p v) with
          | none =>
            have := lsC_none hls
            rw [this] at h1
            exact absurd rfl h1
          | some U =>
            have hU := hT U hls
            have hU2 : rc_At z2 7 o U := rc_fr f2 (by decide) hU
            have hul := hU2.1
            rw [hls] at c2
            refine w_cs1 (tr_below (o := 0) ml2 ml7 (by omega) (by omega) (by omega) (by omega) r2' hU2) (fun a z3 e => ?_)
            cases e
            cases hlx : lxb (cdv A sg v) U with
            | true => exact w_ifF (by decide) (c2 (lsA_t hlx))
            | false =>
              refine w_ifT rfl (c4 z2 hf2 (fun i hi => by rw [e7]; exact h7 i hi) (fun T hT9 => ?_))
              rw [els, hls, lsA_f hlx] at hT9
              cases hT9
              exact hU2
      · have epv : pvl A m p (v + 1) = pvl A m p v := by rw [pvl_s, if_neg he, List.append_nil]
        refine u_X13_leastOf_4 ?_; unfold qm_X13_leastOf_4
        rw [nI_1]
        have := ih (v + 1) z1 (by omega) hf h7 (by rw [epv]; exact hT)
        rw [epv] at this
        exact this
  refine e_X13_leastOf ?_
  refine u_X13_leastOf_0 ?_; unfold qm_X13_leastOf_0
  exact main A.flatten.length 0 z (by omega) fr_rf (fun i hi => rfl) (fun T hT => by cases hT)
