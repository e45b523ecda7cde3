section
/-! 99zzl.build -/
/-! nets that are built out of visits of a list A: P says which visits are in, q how many components are closed -/
def bm (z : ow_MS) (n : Nat) (A : rn_L) (P : Nat → Prop) (q : Nat) : Prop := ∃ (C : List (List Nat)) (l : List Nat), C.length = q ∧ rn_At z n (C.map (List.map (vAt A))) (l.map (vAt A)) ∧ (C.flatten ++ l).Nodup ∧ ∀ j, j ∈ C.flatten ++ l ↔ P j
def bmE (z : ow_MS) (n : Nat) (A : rn_L) (P : Nat → Prop) (q : Nat) : Prop := ∃ (C : List (List Nat)), C.length = q ∧ rn_At z n (C.map (List.map (vAt A))) [] ∧ C.flatten.Nodup ∧ ∀ j, j ∈ C.flatten ↔ P j
theorem fl_map {A : rn_L} : ∀ C : List (List Nat), (C.map (List.map (vAt A))).flatten = C.flatten.map (vAt A)
  | [] => rfl
  | B :: C => by rw [List.map_cons, List.flatten_cons, fl_map C, List.flatten_cons, List.map_append]
theorem bmE.b {z : ow_MS} {n q : Nat} {A : rn_L} {P : Nat → Prop} (h : bmE z n A P q) : bm z n A P q := by
  obtain ⟨C, h1, h2, h3, h4⟩ := h
  exact ⟨C, [], h1, h2, by rw [List.append_nil]; exact h3, by rw [List.append_nil]; exact h4⟩
theorem bm_eq {z : ow_MS} {n q : Nat} {A : rn_L} {P P2 : Nat → Prop} (h : bm z n A P q) (he : ∀ j, P j ↔ P2 j) : bm z n A P2 q := by
  obtain ⟨C, l, h1, h2, h3, h4⟩ := h
  exact ⟨C, l, h1, h2, h3, fun j => (h4 j).trans (he j)⟩
theorem bmE_eq {z : ow_MS} {n q : Nat} {A : rn_L} {P P2 : Nat → Prop} (h : bmE z n A P q) (he : ∀ j, P j ↔ P2 j) : bmE z n A P2 q := by
  obtain ⟨C, h1, h2, h3, h4⟩ := h
  exact ⟨C, h1, h2, h3, fun j => (h4 j).trans (he j)⟩
theorem bm_fr {F : Nat → Prop} {z z1 : ow_MS} {n q : Nat} {A : rn_L} {P : Nat → Prop} (hf : fr F z z1) (hF : ∀ g, F g → g < n + 1 ∨ n + 5 < g) (h : bm z n A P q) : bm z1 n A P q := by
  obtain ⟨C, l, h1, h2, h3⟩ := h
  exact ⟨C, l, h1, fr_At hf hF h2, h3⟩
theorem bmE_fr {F : Nat → Prop} {z z1 : ow_MS} {n q : Nat} {A : rn_L} {P : Nat → Prop} (hf : fr F z z1) (hF : ∀ g, F g → g < n + 1 ∨ n + 5 < g) (h : bmE z n A P q) : bmE z1 n A P q := by
  obtain ⟨C, h1, h2, h3⟩ := h
  exact ⟨C, h1, fr_At hf hF h2, h3⟩
theorem bm_clear {n : Nat} {z : ow_MS} {A : rn_L} (hn : mw_net n) : Te (fun K => qe_X12_clear K n z) (fun z1 => bmE z1 n A (fun _ => False) 0 ∧ fr (fun g => g = n + 1 ∨ g = n + 2 ∨ g = n + 3) z z1) := by
  refine w_monoE (tn_clear hn) (fun z1 ⟨h1, h2⟩ => ⟨⟨[], rfl, h1, List.nodup_nil, fun j => by simp⟩, h2⟩)
theorem bm_len {z : ow_MS} {n q : Nat} {A : rn_L} {P : Nat → Prop} (h : bm z n A P q) (hP : ∀ j, P j → j < A.flatten.length) : ∃ (C : List (List Nat)) (l : List Nat), C.length = q ∧ rn_At z n (C.map (List.map (vAt A))) (l.map (vAt A)) ∧ (C.flatten ++ l).Nodup ∧ (∀ j, j ∈ C.flatten ++ l ↔ P j) ∧ ((C.map (List.map (vAt A))).flatten ++ l.map (vAt A)).length ≤ A.flatten.length := by
  obtain ⟨C, l, h1, h2, h3, h4⟩ := h
  refine ⟨C, l, h1, h2, h3, h4, ?_⟩
  rw [fl_map, ← List.map_append, List.length_map]
  have := nodup_le (C.flatten ++ l) (List.range A.flatten.length) h3 (fun j hj => List.mem_range.mpr (hP j ((h4 j).mp hj)))
  rw [List.length_range] at this
  exact this
theorem bm_add {n q i : Nat} {x u : Int32} {z : ow_MS} {A : rn_L} {P : Nat → Prop} (hn : mw_net n) (hV : A.flatten.length < 40) (hP : ∀ j, P j → j < A.flatten.length) (hi : ¬ P i) (hx : x = nI (crs A i)) (hu : u = nI (uns A i)) (h : bm z n A P q) : Te (fun K => qe_X12_add K n x u z) (fun z1 => bm z1 n A (fun j => P j ∨ j = i) q ∧ fr (fun g => g = n + 1 ∨ g = n + 4 ∨ g = n + 5) z z1) := by
  obtain ⟨C, l, h1, h2, h3, h4, h5⟩ := bm_len h hP
  rw [hx, hu]
  refine w_monoE (tn_add hn h2 (by omega)) (fun z1 ⟨g1, g2⟩ => ⟨⟨C, l ++ [i], h1, by rw [List.map_append]; exact g1, ?_, fun j => ?_⟩, g2⟩)
  · rw [← List.append_assoc, List.nodup_append]
    refine ⟨h3, by simp, fun a ha b hb e => hi ((h4 i).mp ?_)⟩
    have : b = i := by simpa using hb
    rw [← this, ← e]
    exact ha
  · rw [← List.append_assoc, List.mem_append, h4 j, List.mem_singleton]
theorem bm_end {n q : Nat} {z : ow_MS} {A : rn_L} {P : Nat → Prop} (hn : mw_net n) (hq : q < 39) (h : bm z n A P q) : Te (fun K => qe_X12_end K n z) (fun z1 => bmE z1 n A P (q + 1) ∧ fr (fun g => g = n + 2 ∨ g = n + 3) z z1) := by
  obtain ⟨C, l, h1, h2, h3, h4⟩ := h
  have e : (C ++ [l]).flatten = C.flatten ++ l := by rw [List.flatten_append]; simp
  refine w_monoE (tn_end hn h2 (by rw [List.length_map]; omega)) (fun z1 ⟨g1, g2⟩ => ⟨⟨C ++ [l], by rw [List.length_append, h1]; rfl, by rw [List.map_append]; exact g1, by rw [e]; exact h3, fun j => by rw [e]; exact h4 j⟩, g2⟩)
/-- what is closed under mates may be kept -/
def s1 (x : Int32) : Prop := x = 1 ∨ x = -1
theorem s1_neg {x : Int32} (h : s1 x) : s1 (0 - x) := by
  rcases h with h | h <;> rw [h]
  · exact Or.inr (by decide)
  · exact Or.inl (by decide)
theorem s1_if {b : Bool} {x : Int32} (h : x = if b then -1 else 1) : s1 x := by
  cases b
  · exact Or.inl h
  · exact Or.inr h
theorem s1_sg {x : Int32} (h : s1 x) : x = if decide (x = -1) then -1 else 1 := by
  rcases h with h | h <;> rw [h] <;> decide
theorem bmE_net {z : ow_MS} {n q : Nat} {A : rn_L} {P : Nat → Prop} (hF : wkF A.flatten) (hl : A.flatten.length ≤ 24) (hq : q ≤ 6) (hP : ∀ j, P j → j < A.flatten.length) (hc : ∀ j, P j → P (mtf A j)) (hs : ∀ j, P j → s1 (z.2.1 (n + 6) (crs A j))) (h : bmE z n A P q) : mNet z n := by
  obtain ⟨C, h1, h2, h3, h4⟩ := h
  have hd := wkF_ok hF
  have inj : ∀ i j, i < A.flatten.length → j < A.flatten.length → vAt A i = vAt A j → i = j := fun i j hi hj e => nodup_at hF.1 (vAt_of hi) (by rw [e]; exact vAt_of hj)
  have hlen : C.flatten.length ≤ A.flatten.length := by
    have := nodup_le C.flatten (List.range A.flatten.length) h3 (fun j hj => List.mem_range.mpr (hP j ((h4 j).mp hj)))
    rw [List.length_range] at this
    exact this
  refine ⟨C.map (List.map (vAt A)), fun x => decide (z.2.1 (n + 6) x = -1), h2, fun p hp => ?_, ⟨?_, fun p hp => ?_⟩, ?_, ?_⟩
  · rw [fl_map] at hp
    obtain ⟨j, hj, e⟩ := List.mem_map.mp hp
    rw [← e]
    exact s1_sg (hs j ((h4 j).mp hj))
  · rw [fl_map]
    exact nodup_map h3 (fun i j hi hj e => inj i j (hP i ((h4 i).mp hi)) (hP j ((h4 j).mp hj)) e)
  · rw [fl_map] at hp ⊢
    obtain ⟨j, hj, e⟩ := List.mem_map.mp hp
    have hjP := (h4 j).mp hj
    have hjl := hP j hjP
    obtain ⟨g1, g2, -⟩ := hF.2 _ (List.mem_of_getElem? (vAt_of hjl))
    rw [← e]
    refine ⟨g1, g2, ?_⟩
    have hm := mtf_mt hd hjl
    obtain ⟨n1, p1, p2, a1, a2, a3⟩ := hm
    rw [vAt_of hjl] at a1
    cases a1
    have hml := hP _ (hc j hjP)
    have e2 := vAt_eq a2
    obtain ⟨-, k2, -⟩ := hF.2 _ (List.mem_of_getElem? a2)
    refine List.mem_map.mpr ⟨mtf A j, (h4 _).mpr (hc j hjP), ?_⟩
    have hne : (vAt A j).2 ≠ p2.2 := fun e9 => n1 (inj j (mtf A j) hjl hml (by rw [e2]; exact Prod.ext a3 e9))
    rw [e2]
    exact Prod.ext a3.symm (by show p2.2 = 1 - (vAt A j).2; omega)
  · rw [fl_map, List.length_map]
    omega
  · rw [List.length_map]
    omega
theorem mtf_mtf {A : rn_L} {v : Nat} (hd : rn_ok A.flatten) (hv : v < A.flatten.length) : mtf A (mtf A v) = v := mtf_eq hd (mtf_mt hd hv).symm
theorem mtf_lt {A : rn_L} {v : Nat} (hd : rn_ok A.flatten) (hv : v < A.flatten.length) : mtf A v < A.flatten.length := (rn_mt_lt (mtf_mt hd hv)).2
/-! what a linked net says of a visit -/
theorem lk_cu {z : ow_MS} {n i : Nat} {A : rn_L} (h : rn_lk z n A) (hi : i < A.flatten.length) : z.2.1 (n + 4) i = nI (crs A i) ∧ z.2.1 (n + 5) i = nI (uns A i) := h.1.2.2.2 i _ (by rw [List.append_nil]; exact vAt_of hi)
theorem lk_b {z : ow_MS} {n c : Nat} {A : rn_L} (h : rn_lk z n A) (hc : c ≤ A.length) : z.2.1 (n + 3) c = nI (rn_b A c) := h.1.2.2.1 c hc
theorem lk_c {z : ow_MS} {n i : Nat} {A : rn_L} (h : rn_lk z n A) (hi : i < A.flatten.length) : z.2.1 (n + 8) i = nI (rn_c A i) := (h.2.1 i hi).1
theorem lk_n {z : ow_MS} {n i : Nat} {A : rn_L} (h : rn_lk z n A) (hi : i < A.flatten.length) : z.2.1 (n + 9) i = nI (rn_nx A i) := (h.2.1 i hi).2.1
theorem lk_p {z : ow_MS} {n i : Nat} {A : rn_L} (h : rn_lk z n A) (hi : i < A.flatten.length) : z.2.1 (n + 10) i = nI (rn_pv A i) := (h.2.1 i hi).2.2
theorem lk_m {z : ow_MS} {n i : Nat} {A : rn_L} (hd : rn_ok A.flatten) (h : rn_lk z n A) (hi : i < A.flatten.length) : z.2.1 (n + 7) i = nI (mtf A i) := h.2.2.2 i _ hi (mtf_lt hd hi) (mtf_mt hd hi)
theorem lk_C {z : ow_MS} {n : Nat} {A : rn_L} (h : rn_lk z n A) : z.1 (n + 2) = nI A.length := h.1.2.1
/-- an opened net -/
def oNet (z : ow_MS) (n : Nat) (A : rn_L) (sg : Nat → Bool) : Prop := rn_lk z n A ∧ rn_sg z n A.flatten sg ∧ (∃ c, okF A.flatten c ∧ c ≤ 12) ∧ A.length ≤ 6
theorem oNet_fr {F : Nat → Prop} {z z1 : ow_MS} {n : Nat} {A : rn_L} {sg : Nat → Bool} (hf : fr F z z1) (hF : ∀ g, F g → g < n + 1 ∨ n + 11 < g) (h : oNet z n A sg) : oNet z1 n A sg := by
  obtain ⟨h1, h2, h3⟩ := h
  refine ⟨fr_lk hf (fun g hg => by have := hF g hg; omega) h1, fun p hp => ?_, h3⟩
  rw [(hf (n + 6) (fun h9 => by have := hF _ h9; omega)).2.1]
  exact h2 p hp
theorem oNet.wk {z : ow_MS} {n : Nat} {A : rn_L} {sg : Nat → Bool} (h : oNet z n A sg) : wkF A.flatten := by
  obtain ⟨-, -, ⟨c, h1, h2⟩, -⟩ := h
  exact okF_wk (by omega) h1
theorem oNet.len {z : ow_MS} {n : Nat} {A : rn_L} {sg : Nat → Bool} (h : oNet z n A sg) : A.flatten.length ≤ 24 := by
  obtain ⟨-, -, ⟨c, h1, h2⟩, -⟩ := h
  have := okF_len h1
  omega
theorem oNet.cx {z : ow_MS} {n i : Nat} {A : rn_L} {sg : Nat → Bool} (h : oNet z n A sg) (hi : i < A.flatten.length) : crs A i < 12 ∧ uns A i < 2 ∧ z.2.1 (n + 6) (crs A i) = if sg (crs A i) then -1 else 1 := by
  obtain ⟨-, h2, ⟨c, h1, h3⟩, -⟩ := h
  have hm := List.mem_of_getElem? (vAt_of hi)
  obtain ⟨a1, a2⟩ := (h1.2 _).mp hm
  have a1 : crs A i < c := a1
  exact ⟨by omega, a2, h2 _ hm⟩
theorem oNet_net {z : ow_MS} {n : Nat} {A : rn_L} {sg : Nat → Bool} (h : oNet z n A sg) : mNet z n := ⟨A, sg, h.1.1, h.2.1, h.wk, h.len, h.2.2.2⟩
theorem to_open {z : ow_MS} {n d : Nat} {A : rn_L} {sg : Nat → Bool} (hn : mw_net n) (hd : d < 40) (hv : vRow z 12 (32 * d) A sg) : Te (fun K => qe_X13_open K (nI d) n z) (fun z1 => oNet z1 n A sg ∧ fr (fun g => n + 1 ≤ g ∧ g ≤ n + 11) z z1) := w_monoE (tm_open hn hd hv) (fun _ ⟨h1, h2, h3⟩ => ⟨⟨h1, h2, hv.2.1, hv.2.2⟩, h3⟩)
section PUB
variable {X : (Nat → Nat → Int32) → Prop} {z z1 : ow_MS}
theorem gI_1 {c : Int32} (h : gI X z) : gI X (usF z 1 c) := gI_fr (P := fun g => g = 1) (fr_F rfl) (fun g hg => by rw [hg]; decide) h
theorem w_fail {c : Int32} (h : gI X z) : Tt (fun K _ => cs1 (qe_X13_fails K c z) fun v z1 => some (v, z1)) (fun r => gI X r.2) := w_cs1 tm_fails (fun a z1 e => by
  cases e
  exact w_some (gI_1 h))
theorem gI_net {n : Nat} (hn : mw_net n) {P : Nat → Prop} (hf : fr P z z1) (hP : ∀ g, P g → n + 1 ≤ g ∧ g ≤ n + 20) (h : gI X z) : gI X z1 := gI_fr hf (fun g hg => by
  have := hP g hg
  have := net_mod hn
  unfold per
  omega) h
end PUB
end
section
/-! 99zzm.pubA -/
/-! public methods of the reference: feed .. visit .. join have an answer -/
section PUBA
variable {X : (Nat → Nat → Int32) → Prop} {z : ow_MS}
theorem u_X13_feed_1 {x1 : Int32} {x2 : Int32} {x3 : Int32} {x4 : Int32} {x5 : Int32} {x6 : Int32} {t0 : Int32} {z : ow_MS} {Q : (Int32 × ow_MS) → Prop} (H : Tt (fun K k => qm_X13_feed_1 K (q_X13_feed K k) x1 x2 x3 x4 x5 x6 t0 z) Q) : Tt (fun K k => q_X13_feed K k 1 x1 x2 x3 x4 x5 x6 t0 z) Q := w_un (fun _ _ => rfl) H
theorem u_X13_feed_2 {x1 : Int32} {x2 : Int32} {x3 : Int32} {x4 : Int32} {x5 : Int32} {x6 : Int32} {t0 : Int32} {z : ow_MS} {Q : (Int32 × ow_MS) → Prop} (H : Tt (fun K k => qm_X13_feed_2 K (q_X13_feed K k) x1 x2 x3 x4 x5 x6 t0 z) Q) : Tt (fun K k => q_X13_feed K k 2 x1 x2 x3 x4 x5 x6 t0 z) Q := w_un (fun _ _ => rfl) H
theorem e_X13_feed {x1 : Int32} {x2 : Int32} {x3 : Int32} {x4 : Int32} {x5 : Int32} {z : ow_MS} {Q : (Int32 × ow_MS) → Prop} (H : Tt (fun K k => q_X13_feed K k 0 x1 x2 x3 x4 x5 0 0 z) Q) : Te (fun K => qe_X13_feed K x1 x2 x3 x4 x5 z) Q := w_te H
theorem u_X13_feed_0 {x1 : Int32} {x2 : Int32} {x3 : Int32} {x4 : Int32} {x5 : Int32} {x6 : Int32} {t0 : Int32} {z : ow_MS} {Q : (Int32 × ow_MS) → Prop} (H : Tt (fun K k => qm_X13_feed_0 K (q_X13_feed K k) x1 x2 x3 x4 x5 x6 t0 z) Q) : Tt (fun K k => q_X13_feed K k 0 x1 x2 x3 x4 x5 x6 t0 z) Q := w_un (fun _ _ => rfl) H
theorem tp_feed {a b c d e : Int32} (h : gI X z) : Te (fun K => qe_X13_feed K a b c d e z) (fun r => gI X r.2) := by
  have key : ∀ (k i t : Nat) (z1 : ow_MS), i + k = 20 → t + k ≤ 400 → z1.1 11 = nI t → gI X z1 → Tt (fun K j => q_X13_feed K j 1 a b c d e (nI i) 0 z1) (fun r => gI X r.2) := by
    intro k
    induction k with
    | zero =>
      intro i t z1 hi ht h11 hI
      refine u_X13_feed_1 ?_; unfold qm_X13_feed_1
      exact w_leT (a := 20) (by omega) (by omega) (w_rdF rfl (w_some hI))
    | succ k ih =>
      intro i t z1 hi ht h11 hI
      have c2 : ∀ w : Int32, Tt (fun K j => q_X13_feed K j 2 a b c d e (nI i) w z1) (fun r => gI X r.2) := by
        intro w
        refine u_X13_feed_2 ?_; unfold qm_X13_feed_2
        rw [nI_1]
        refine w_rdF h11 (w_wrB ml10 rfl (by omega) (w_rdF h11 (w_wrF ?_)))
        rw [nI_1]
        refine ih (i + 1) (t + 1) _ (by omega) (by omega) po_usF_at ?_
        have h1 : gI X (usI z1 10 t (vp_nar .byte (w >>> ((24 - 8 * (nI i &&& 3)) &&& 31)).toInt8.toInt32)) := gI_fr (P := fun g => g = 10) (fr_I rfl) (fun g hg => by rw [hg]; decide) hI
        obtain ⟨-, r⟩ := h1
        have hf : ∀ y : ow_MS, fr (fun g => g = 11) y (usF y 11 (nI (t + 1))) := fun y => fr_F rfl
        exact ⟨⟨t + 1, by omega, po_usF_at⟩, gRows_fr (hf _) (by decide) r.1, gList_fr (hf _) (by decide) (by decide) (by decide) r.2.1, gSum_fr (hf _) (by decide) (by decide) (by decide) r.2.2.1, gCash_fr (hf _) (by decide) (by decide) (by decide) (by decide) (by decide) r.2.2.2.1, gBrs_fr (hf _) (by decide) (by decide) (by decide) r.2.2.2.2.1, r.2.2.2.2.2⟩
      refine u_X13_feed_1 ?_; unfold qm_X13_feed_1
      exact w_leF (a := 20) (by omega) (by omega) (w_if (fun _ => w_if (fun _ => w_if (fun _ => w_if (fun _ => c2 _) (fun _ => c2 _)) (fun _ => c2 _)) (fun _ => c2 _)) (fun _ => c2 _))
  obtain ⟨t, ht, h11⟩ := h.1
  refine e_X13_feed ?_
  refine u_X13_feed_0 ?_; unfold qm_X13_feed_0
  refine w_wrF (w_rdF (x := nI t) (rf_ot (by omega) h11) ?_)
  rw [show nI t + 20 = nI (t + 20) from nI_add t 20]
  exact w_le (b := 400) (by omega) (by omega) (fun h9 => key 20 0 t _ (by omega) h9 (rf_ot (by omega) h11) (gI_1 h)) (fun h9 => w_fail (gI_1 h))
theorem gI_t {t : Nat} {x : Int32} (hx : x = nI t) (ht : t ≤ 400) (h : gI X z) : gI X (usF z 11 x) := by
  subst hx
  have hf : fr (fun g => g = 11) z (usF z 11 (nI t)) := fr_F rfl
  obtain ⟨-, r⟩ := h
  exact ⟨⟨t, ht, po_usF_at⟩, gRows_fr hf (by decide) r.1, gList_fr hf (by decide) (by decide) (by decide) r.2.1, gSum_fr hf (by decide) (by decide) (by decide) r.2.2.1, gCash_fr hf (by decide) (by decide) (by decide) (by decide) (by decide) r.2.2.2.1, gBrs_fr hf (by decide) (by decide) (by decide) r.2.2.2.2.1, r.2.2.2.2.2⟩
theorem u_X13_end_1 {x1 : Int32} {z : ow_MS} {Q : ow_MS → Prop} (H : Tt (fun K k => qm_X13_end_1 K (q_X13_end K k) x1 z) Q) : Tt (fun K k => q_X13_end K k 1 x1 z) Q := w_un (fun _ _ => rfl) H
theorem e_X13_end {x1 : Int32} {z : ow_MS} {Q : ow_MS → Prop} (H : Tt (fun K k => q_X13_end K k 0 x1 z) Q) : Te (fun K => qe_X13_end K x1 z) Q := w_te H
theorem u_X13_end_0 {x1 : Int32} {z : ow_MS} {Q : ow_MS → Prop} (H : Tt (fun K k => qm_X13_end_0 K (q_X13_end K k) x1 z) Q) : Tt (fun K k => q_X13_end K k 0 x1 z) Q := w_un (fun _ _ => rfl) H
theorem tp_end {n : Int32} (h : gI X z) : Te (fun K => qe_X13_end K n z) (fun r => gI X r) := by
  obtain ⟨t, ht, h11⟩ := h.1
  have c1 : Tt (fun K k => q_X13_end K k 1 n (usF z 1 0)) (fun r => gI X r) := by
    refine u_X13_end_1 ?_; unfold qm_X13_end_1
    refine w_cs1 tm_fails (fun a z1 e => ?_)
    cases e
    exact w_some (gI_1 (gI_1 h))
  refine e_X13_end ?_
  refine u_X13_end_0 ?_; unfold qm_X13_end_0
  refine w_wrF (w_if (fun _ => c1) (fun h0 => w_rdF (x := nI t) (rf_ot (by omega) h11) (w_if (fun h1 => w_wrF (w_some ?_)) (fun _ => c1))))
  obtain ⟨j, hj, rfl⟩ := nI_of h0
  exact gI_t rfl (by have := (nI_leI (by omega) (by omega)).mp h1; omega) (gI_1 h)
theorem e_X13_drop {x1 : Int32} {z : ow_MS} {Q : (Int32 × ow_MS) → Prop} (H : Tt (fun K _ => qm_X13_drop_0 K x1 z) Q) : Te (fun K => qe_X13_drop K x1 z) Q := w_te0 H
theorem tp_drop {d : Int32} (h : gI X z) : Te (fun K => qe_X13_drop K d z) (fun r => gI X r.2) := by
  refine e_X13_drop ?_; unfold qm_X13_drop_0
  refine w_wrF (w_cs1 (tm_has (gI_1 h).2.1) (fun a z1 ⟨e, h9⟩ => ?_))
  have e : z1 = usF z 1 0 := e
  subst e
  rcases h9 with h9 | ⟨h9, d, A, sg, hd, rfl, hv, -⟩
  · have h9 : a = 0 := h9
    exact w_ifT h9 (w_okZ (Or.inl h9) (w_some (gI_1 h)))
  · have h9 : a = 1 := h9
    rw [show (32 : Int32) * nI d = nI (32 * d) from pk_mul 32 d]
    refine w_ifF (by rw [h9]; decide) (w_wrI ml12 rfl (by omega) (w_okZ (Or.inr h9) (w_some ?_)))
    exact gI_rows (P := fun g => g = 12) (fr_I rfl) (fun g hg => Or.inl hg) (gRows_put (d := d) (dRow_0 po_usI_at) (fun i hi => po_usI_ne (by omega)) (gI_1 h).2.1) (gI_1 h)
/-- the beginning that most methods share -/
theorem w_has {O : Type} {x : Int32} {Q : O → Prop} {B : Int32 → ow_MS → Nat → Nat → Option O} (h : gRows z) (H0 : Tt (B 0 z) Q) (H1 : ∀ d A sg, d < 40 → x = nI d → vRow z 12 (32 * d) A sg → A ≠ [] → Tt (B 1 z) Q) : Tt (fun K k => cs1 (qe_X13_has K x z) fun v z1 => B v z1 K k) Q := by
  refine w_cs1 (tm_has h) (fun a z1 ⟨e, h9⟩ => ?_)
  have e : z1 = z := e
  subst e
  rcases h9 with h9 | ⟨h9, d, A, sg, hd, he, hv, hne⟩
  · have h9 : a = 0 := h9
    rw [h9]
    exact H0
  · have h9 : a = 1 := h9
    rw [h9]
    exact H1 d A sg hd he hv hne
/-- a place is looked for: none, or one that keep will find again -/
theorem w_free {O : Type} {Q : O → Prop} {B : Int32 → ow_MS → Nat → Nat → Option O} (H0 : Tt (B (-1) z) Q) (H1 : ∀ d, d < 40 → frD z → Tt (B (nI d) z) Q) : Tt (fun K k => cs1 (qe_X13_free K z) fun v z1 => B v z1 K k) Q := by
  refine w_cs1 tm_free (fun a z1 ⟨e, h2⟩ => ?_)
  have e : z1 = z := e
  subst e
  rcases h2 with ⟨h2, -⟩ | ⟨d, hd, h2, h3, -⟩
  · have h2 : a = -1 := h2
    rw [h2]
    exact H0
  · have h2 : a = nI d := h2
    rw [h2]
    exact H1 d hd ⟨d, hd, h3⟩
theorem w_keep (h : gI X z) (hf : frD z) (hM : mNet z 3000) : Tt (fun K _ => cs1 (qe_X13_keep K z) fun v z1 => some (v, z1)) (fun r => gI X r.2) := w_cs1 (tm_keep h hf hM) (fun _ _ h9 => w_some h9.1)
theorem u_X13_circlesOf_1 {x2 : Int32} {x3 : Int32} {r1 : Nat} {t0 : Int32} {t1 : Int32} {z : ow_MS} {Q : (Int32 × ow_MS) → Prop} (H : Tt (fun K k => qm_X13_circlesOf_1 K (q_X13_circlesOf K k) x2 x3 r1 t0 t1 z) Q) : Tt (fun K k => q_X13_circlesOf K k 1 x2 x3 r1 t0 t1 z) Q := w_un (fun _ _ => rfl) H
theorem u_X13_circlesOf_2 {x2 : Int32} {x3 : Int32} {r1 : Nat} {t0 : Int32} {t1 : Int32} {z : ow_MS} {Q : (Int32 × ow_MS) → Prop} (H : Tt (fun K k => qm_X13_circlesOf_2 K (q_X13_circlesOf K k) x2 x3 r1 t0 t1 z) Q) : Tt (fun K k => q_X13_circlesOf K k 2 x2 x3 r1 t0 t1 z) Q := w_un (fun _ _ => rfl) H
theorem e_X13_circlesOf {r1 : Nat} {z : ow_MS} {Q : (Int32 × ow_MS) → Prop} (H : Tt (fun K k => q_X13_circlesOf K k 0 0 0 r1 0 0 z) Q) : Te (fun K => qe_X13_circlesOf K r1 z) Q := w_te H
theorem u_X13_circlesOf_0 {x2 : Int32} {x3 : Int32} {r1 : Nat} {t0 : Int32} {t1 : Int32} {z : ow_MS} {Q : (Int32 × ow_MS) → Prop} (H : Tt (fun K k => qm_X13_circlesOf_0 K (q_X13_circlesOf K k) x2 x3 r1 t0 t1 z) Q) : Tt (fun K k => q_X13_circlesOf K k 0 x2 x3 r1 t0 t1 z) Q := w_un (fun _ _ => rfl) H
theorem tp_circles {n : Nat} {A : rn_L} (hn : mw_net n) (hlen : A.flatten.length ≤ 40) (hcn : A.length ≤ 39) (hA : rn_lk z n A) : Te (fun K => qe_X13_circlesOf K n z) (fun r => r.2 = z ∧ ∃ k, k ≤ A.length ∧ r.1 = nI k) := by
  have key : ∀ (d c k : Nat), c + d = A.length → k ≤ c → Tt (fun K i => q_X13_circlesOf K i 1 (nI k) (nI c) n 0 0 z) (fun r => r.2 = z ∧ ∃ k, k ≤ A.length ∧ r.1 = nI k) := by
    intro d
    induction d with
    | zero =>
      intro c k hc hk
      refine u_X13_circlesOf_1 ?_; unfold qm_X13_circlesOf_1
      exact w_rdF (lk_C hA) (w_leT (by omega) (by omega) (w_some ⟨rfl, k, by omega, rfl⟩))
    | succ d ih =>
      intro c k hc hk
      refine u_X13_circlesOf_1 ?_; unfold qm_X13_circlesOf_1
      refine w_rdF (lk_C hA) (w_leF (by omega) (by omega) (w_cs1 (tn_circle hn hlen hcn (by omega) hA.1) (fun a z1 e => ?_)))
      cases e
      refine w_if (fun _ => ?_) (fun _ => ?_)
      · refine u_X13_circlesOf_2 ?_; unfold qm_X13_circlesOf_2
        rw [nI_1, Int32.add_zero]
        exact ih (c + 1) k (by omega) (by omega)
      · refine u_X13_circlesOf_2 ?_; unfold qm_X13_circlesOf_2
        rw [nI_1, nI_1]
        exact ih (c + 1) (k + 1) (by omega) (by omega)
  refine e_X13_circlesOf ?_
  refine u_X13_circlesOf_0 ?_; unfold qm_X13_circlesOf_0
  exact key A.length 0 0 (by omega) (Nat.le_refl _)
theorem u_X13_writheOf_1 {x1 : Int32} {x2 : Int32} {r0 : Nat} {t0 : Int32} {t1 : Int32} {z : ow_MS} {Q : (Int32 × ow_MS) → Prop} (H : Tt (fun K k => qm_X13_writheOf_1 K (q_X13_writheOf K k) x1 x2 r0 t0 t1 z) Q) : Tt (fun K k => q_X13_writheOf K k 1 x1 x2 r0 t0 t1 z) Q := w_un (fun _ _ => rfl) H
theorem u_X13_writheOf_2 {x1 : Int32} {x2 : Int32} {r0 : Nat} {t0 : Int32} {t1 : Int32} {z : ow_MS} {Q : (Int32 × ow_MS) → Prop} (H : Tt (fun K k => qm_X13_writheOf_2 K (q_X13_writheOf K k) x1 x2 r0 t0 t1 z) Q) : Tt (fun K k => q_X13_writheOf K k 2 x1 x2 r0 t0 t1 z) Q := w_un (fun _ _ => rfl) H
theorem e_X13_writheOf {r0 : Nat} {z : ow_MS} {Q : (Int32 × ow_MS) → Prop} (H : Tt (fun K k => q_X13_writheOf K k 0 0 0 r0 0 0 z) Q) : Te (fun K => qe_X13_writheOf K r0 z) Q := w_te H
theorem u_X13_writheOf_0 {x1 : Int32} {x2 : Int32} {r0 : Nat} {t0 : Int32} {t1 : Int32} {z : ow_MS} {Q : (Int32 × ow_MS) → Prop} (H : Tt (fun K k => qm_X13_writheOf_0 K (q_X13_writheOf K k) x1 x2 r0 t0 t1 z) Q) : Tt (fun K k => q_X13_writheOf K k 0 x1 x2 r0 t0 t1 z) Q := w_un (fun _ _ => rfl) H
theorem tp_writhe {n : Nat} {A : rn_L} {sg : Nat → Bool} (hn : mw_net n) (hA : oNet z n A sg) : Te (fun K => qe_X13_writheOf K n z) (fun r => r.2 = z) := by
  have hl := hA.len
  have key : ∀ (d v : Nat) (x : Int32), v + d = A.flatten.length → Tt (fun K i => q_X13_writheOf K i 1 x (nI v) n 0 0 z) (fun r => r.2 = z) := by
    intro d
    induction d with
    | zero =>
      intro v x hv
      refine u_X13_writheOf_1 ?_; unfold qm_X13_writheOf_1
      exact w_rdF hA.1.V (w_leT (by omega) (by omega) (w_some rfl))
    | succ d ih =>
      intro v x hv
      have hvl : v < A.flatten.length := by omega
      obtain ⟨c1, c2, c3⟩ := hA.cx hvl
      refine u_X13_writheOf_1 ?_; unfold qm_X13_writheOf_1
      refine w_rdF hA.1.V (w_leF (by omega) hvl (w_rdI (pl5 hn) rfl (by omega) (lk_cu hA.1 hvl).2 (w_if (fun _ => w_rdI (pl4 hn) rfl (by omega) (lk_cu hA.1 hvl).1 (w_rdI (pl6 hn) rfl (by omega) rfl ?_)) (fun _ => ?_))))
      · refine u_X13_writheOf_2 ?_; unfold qm_X13_writheOf_2
        rw [nI_1]
        exact ih (v + 1) _ (by omega)
      · refine u_X13_writheOf_2 ?_; unfold qm_X13_writheOf_2
        rw [nI_1]
        exact ih (v + 1) _ (by omega)
  refine e_X13_writheOf ?_
  refine u_X13_writheOf_0 ?_; unfold qm_X13_writheOf_0
  exact key A.flatten.length 0 0 (by omega)
theorem e_X13_figure {x1 : Int32} {x2 : Int32} {z : ow_MS} {Q : (Int32 × ow_MS) → Prop} (H : Tt (fun K k => q_X13_figure K k 0 x1 x2 0 z) Q) : Te (fun K => qe_X13_figure K x1 x2 z) Q := w_te H
theorem u_X13_figure_0 {x1 : Int32} {x2 : Int32} {x3 : Int32} {z : ow_MS} {Q : (Int32 × ow_MS) → Prop} (H : Tt (fun K k => qm_X13_figure_0 K (q_X13_figure K k) x1 x2 x3 z) Q) : Tt (fun K k => q_X13_figure K k 0 x1 x2 x3 z) Q := w_un (fun _ _ => rfl) H
theorem u_X13_figure_1 {x1 : Int32} {x2 : Int32} {x3 : Int32} {z : ow_MS} {Q : (Int32 × ow_MS) → Prop} (H : Tt (fun K k => qm_X13_figure_1 K (q_X13_figure K k) x1 x2 x3 z) Q) : Tt (fun K k => q_X13_figure K k 1 x1 x2 x3 z) Q := w_un (fun _ _ => rfl) H
theorem u_X13_figure_2 {x1 : Int32} {x2 : Int32} {x3 : Int32} {z : ow_MS} {Q : (Int32 × ow_MS) → Prop} (H : Tt (fun K k => qm_X13_figure_2 K (q_X13_figure K k) x1 x2 x3 z) Q) : Tt (fun K k => q_X13_figure K k 2 x1 x2 x3 z) Q := w_un (fun _ _ => rfl) H
theorem tp_figure {d what : Int32} (h : gI X z) : Te (fun K => qe_X13_figure K d what z) (fun r => gI X r.2) := by
  refine e_X13_figure ?_
  refine u_X13_figure_0 ?_; unfold qm_X13_figure_0
  refine w_wrF (w_has (gI_1 h).2.1 (w_ifT rfl (w_fail (gI_1 h))) (fun e A sg he hx hv hne => w_ifF (by decide) ?_))
  subst hx
  have h1 := gI_1 (c := 0) h
  have c1 : Tt (fun K k => q_X13_figure K k 1 (nI e) what 0 (usF z 1 0)) (fun r => gI X r.2) := by
    refine u_X13_figure_1 ?_; unfold qm_X13_figure_1
    exact w_fail h1
  refine w_if (fun _ => c1) (fun _ => w_if (fun _ => w_cs0 (to_open pn1 he hv) (fun z2 ⟨o1, f1⟩ => ?_)) (fun _ => c1))
  have h2 : gI X z2 := gI_net pn1 f1 (fun g hg => by omega) h1
  have hl := o1.len
  have hc := o1.2.2.2
  have hd := wkF_ok o1.wk
  have c2 : ∀ (k v : Nat), v + k = A.flatten.length → Tt (fun K i => q_X13_figure K i 2 (nI e) what (nI v) z2) (fun r => gI X r.2) := by
    intro k
    induction k with
    | zero =>
      intro v hv9
      refine u_X13_figure_2 ?_; unfold qm_X13_figure_2
      exact w_rdF o1.1.V (w_leT (by omega) (by omega) (w_some h2))
    | succ k ih =>
      intro v hv9
      have hvl : v < A.flatten.length := by omega
      have hnl := rn_nx_lt (A := A) hvl
      refine u_X13_figure_2 ?_; unfold qm_X13_figure_2
      refine w_rdF o1.1.V (w_leF (by omega) hvl (w_rdI (pl5 pn1) rfl (by omega) rfl (w_rdI (pl9 pn1) rfl (by omega) (lk_n o1.1 hvl) (w_rdI (pl5 pn1) rfl (by omega) rfl (w_if (fun _ => w_some h2) (fun _ => ?_))))))
      rw [nI_1]
      exact ih (v + 1) (by omega)
  refine w_if (fun _ => w_rdF rfl (w_nzI (by decide) (w_some h2))) (fun _ => w_if (fun _ => w_rdF rfl (w_some h2)) (fun _ => w_if (fun _ => w_cs1 (tp_circles pn1 (by omega) (by omega) o1.1) (fun a z3 e => ?_)) (fun _ => w_if (fun _ => w_cs0 (tn_split pn1 (by omega) (by omega) hd o1.1) (fun z3 ⟨f3, _⟩ => w_rdF rfl (w_some ?_))) (fun _ => w_if (fun _ => w_cs1 (tp_writhe pn1 o1) (fun a z3 e => ?_)) (fun _ => c2 _ 0 (Nat.zero_add _))))))
  · have e : z3 = z2 := e.1
    subst e
    exact w_some h2
  · exact gI_net pn1 f3 (fun g hg => by rcases hg with hg | hg <;> omega) h2
  · have e : z3 = z2 := e
    subst e
    exact w_some h2
theorem e_X13_visit {x1 : Int32} {x2 : Int32} {x3 : Int32} {z : ow_MS} {Q : (Int32 × ow_MS) → Prop} (H : Tt (fun K k => q_X13_visit K k 0 x1 x2 x3 z) Q) : Te (fun K => qe_X13_visit K x1 x2 x3 z) Q := w_te H
theorem u_X13_visit_0 {x1 : Int32} {x2 : Int32} {x3 : Int32} {z : ow_MS} {Q : (Int32 × ow_MS) → Prop} (H : Tt (fun K k => qm_X13_visit_0 K (q_X13_visit K k) x1 x2 x3 z) Q) : Tt (fun K k => q_X13_visit K k 0 x1 x2 x3 z) Q := w_un (fun _ _ => rfl) H
theorem u_X13_visit_1 {x1 : Int32} {x2 : Int32} {x3 : Int32} {z : ow_MS} {Q : (Int32 × ow_MS) → Prop} (H : Tt (fun K k => qm_X13_visit_1 K (q_X13_visit K k) x1 x2 x3 z) Q) : Tt (fun K k => q_X13_visit K k 1 x1 x2 x3 z) Q := w_un (fun _ _ => rfl) H
theorem tp_visit {d i what : Int32} (h : gI X z) : Te (fun K => qe_X13_visit K d i what z) (fun r => gI X r.2) := by
  refine e_X13_visit ?_
  refine u_X13_visit_0 ?_; unfold qm_X13_visit_0
  refine w_wrF (w_has (gI_1 h).2.1 (w_ifT rfl (w_fail (gI_1 h))) (fun e A sg he hx hv hne => w_ifF (by decide) ?_))
  subst hx
  have h1 := gI_1 (c := 0) h
  refine w_cs0 (to_open pn1 he hv) (fun z2 ⟨o1, f1⟩ => ?_)
  have h2 : gI X z2 := gI_net pn1 f1 (fun g hg => by omega) h1
  have hl := o1.len
  have c1 : Tt (fun K k => q_X13_visit K k 1 (nI e) i what z2) (fun r => gI X r.2) := by
    refine u_X13_visit_1 ?_; unfold qm_X13_visit_1
    exact w_fail h2
  refine w_if (fun _ => c1) (fun h0 => w_rdF o1.1.V (w_if (fun h9 => ?_) (fun _ => c1)))
  obtain ⟨v, hv31, rfl⟩ := nI_of h0
  have hvl : v < A.flatten.length := (nI_ltI hv31 (by omega)).mp h9
  obtain ⟨x1, x2, x3⟩ := o1.cx hvl
  refine w_if (fun _ => w_fail h2) (fun hw => w_if (fun _ => w_rdI (pl8 pn1) rfl (by omega) rfl (w_some h2)) (fun w0 => w_if (fun _ => w_rdI (pl4 pn1) rfl (by omega) rfl (w_some h2)) (fun w1 => w_if (fun _ => w_rdI (pl5 pn1) rfl (by omega) rfl (w_some h2)) (fun w2 => w_if (fun _ => w_rdI (pl4 pn1) rfl (by omega) (lk_cu o1.1 hvl).1 (w_rdI (pl6 pn1) rfl (by omega) rfl (w_some h2))) (fun w3 => ?_)))))
  exfalso
  have key : ∀ k : Nat, k < 4 → what.toInt = (k : Int) → what = nI k := by
    intro k hk e9
    refine Int32.toInt_inj.mp ?_
    rw [e9, nI_toInt (by omega)]
  have hge : 0 ≤ what.toInt := by omega
  have hle : what.toInt ≤ 3 := by omega
  obtain ⟨k, hk⟩ := Int.eq_ofNat_of_zero_le hge
  have hk4 : k < 4 := by omega
  have hwk := key k hk4 hk
  have : k = 0 ∨ k = 1 ∨ k = 2 ∨ k = 3 := by omega
  rcases this with e9 | e9 | e9 | e9 <;> subst e9
  · exact w0 hwk
  · exact w1 hwk
  · exact w2 hwk
  · exact w3 hwk
theorem e_X13_linking {x1 : Int32} {x2 : Int32} {x3 : Int32} {z : ow_MS} {Q : (Int32 × ow_MS) → Prop} (H : Tt (fun K k => q_X13_linking K k 0 x1 x2 x3 0 0 z) Q) : Te (fun K => qe_X13_linking K x1 x2 x3 z) Q := w_te H
theorem u_X13_linking_0 {x1 : Int32} {x2 : Int32} {x3 : Int32} {x4 : Int32} {x5 : Int32} {z : ow_MS} {Q : (Int32 × ow_MS) → Prop} (H : Tt (fun K k => qm_X13_linking_0 K (q_X13_linking K k) x1 x2 x3 x4 x5 z) Q) : Tt (fun K k => q_X13_linking K k 0 x1 x2 x3 x4 x5 z) Q := w_un (fun _ _ => rfl) H
theorem u_X13_linking_1 {x1 : Int32} {x2 : Int32} {x3 : Int32} {x4 : Int32} {x5 : Int32} {z : ow_MS} {Q : (Int32 × ow_MS) → Prop} (H : Tt (fun K k => qm_X13_linking_1 K (q_X13_linking K k) x1 x2 x3 x4 x5 z) Q) : Tt (fun K k => q_X13_linking K k 1 x1 x2 x3 x4 x5 z) Q := w_un (fun _ _ => rfl) H
theorem u_X13_linking_2 {x1 : Int32} {x2 : Int32} {x3 : Int32} {x4 : Int32} {x5 : Int32} {z : ow_MS} {Q : (Int32 × ow_MS) → Prop} (H : Tt (fun K k => qm_X13_linking_2 K (q_X13_linking K k) x1 x2 x3 x4 x5 z) Q) : Tt (fun K k => q_X13_linking K k 2 x1 x2 x3 x4 x5 z) Q := w_un (fun _ _ => rfl) H
theorem u_X13_linking_3 {x1 : Int32} {x2 : Int32} {x3 : Int32} {x4 : Int32} {x5 : Int32} {z : ow_MS} {Q : (Int32 × ow_MS) → Prop} (H : Tt (fun K k => qm_X13_linking_3 K (q_X13_linking K k) x1 x2 x3 x4 x5 z) Q) : Tt (fun K k => q_X13_linking K k 3 x1 x2 x3 x4 x5 z) Q := w_un (fun _ _ => rfl) H
theorem tp_linking {d a b : Int32} (h : gI X z) : Te (fun K => qe_X13_linking K d a b z) (fun r => gI X r.2) := by
  refine e_X13_linking ?_
  refine u_X13_linking_0 ?_; unfold qm_X13_linking_0
  refine w_wrF (w_has (gI_1 h).2.1 (w_ifT rfl (w_fail (gI_1 h))) (fun e A sg he hx hv hne => w_ifF (by decide) ?_))
  subst hx
  have h1 := gI_1 (c := 0) h
  refine w_cs0 (to_open pn1 he hv) (fun z2 ⟨o1, f1⟩ => ?_)
  have h2 : gI X z2 := gI_net pn1 f1 (fun g hg => by omega) h1
  have hl := o1.len
  have hd := wkF_ok o1.wk
  have c1 : Tt (fun K k => q_X13_linking K k 1 (nI e) a b 0 0 z2) (fun r => gI X r.2) := by
    refine u_X13_linking_1 ?_; unfold qm_X13_linking_1
    exact w_fail h2
  have c2 : ∀ (k v : Nat) (x : Int32), v + k = A.flatten.length → Tt (fun K i => q_X13_linking K i 2 (nI e) a b x (nI v) z2) (fun r => gI X r.2) := by
    intro k
    induction k with
    | zero =>
      intro v x hv9
      refine u_X13_linking_2 ?_; unfold qm_X13_linking_2
      exact w_rdF o1.1.V (w_leT (by omega) (by omega) (w_nzI (by decide) (w_some h2)))
    | succ k ih =>
      intro v x hv9
      have hvl : v < A.flatten.length := by omega
      have hml := mtf_lt hd hvl
      obtain ⟨x1, x2, x3⟩ := o1.cx hvl
      have c3 : ∀ y : Int32, Tt (fun K i => q_X13_linking K i 3 (nI e) a b y (nI v) z2) (fun r => gI X r.2) := by
        intro y
        refine u_X13_linking_3 ?_; unfold qm_X13_linking_3
        rw [nI_1]
        exact ih (v + 1) _ (by omega)
      refine u_X13_linking_2 ?_; unfold qm_X13_linking_2
      exact w_rdF o1.1.V (w_leF (by omega) hvl (w_rdI (pl8 pn1) rfl (by omega) rfl (w_if (fun _ => w_rdI (pl7 pn1) rfl (by omega) (lk_m hd o1.1 hvl) (w_rdI (pl8 pn1) rfl (by omega) rfl (w_if (fun _ => w_rdI (pl4 pn1) rfl (by omega) (lk_cu o1.1 hvl).1 (w_rdI (pl6 pn1) rfl (by omega) rfl (c3 _))) (fun _ => c3 _)))) (fun _ => c3 _))))
  exact w_if (fun _ => c1) (fun _ => w_rdF rfl (w_if (fun _ => c1) (fun _ => w_if (fun _ => c1) (fun _ => w_rdF rfl (w_if (fun _ => w_if (fun _ => w_fail h2) (fun _ => c2 _ 0 0 (Nat.zero_add _))) (fun _ => c1))))))
theorem e_X13_alike {x1 : Int32} {x2 : Int32} {z : ow_MS} {Q : (Int32 × ow_MS) → Prop} (H : Tt (fun K _ => qm_X13_alike_0 K x1 x2 z) Q) : Te (fun K => qe_X13_alike K x1 x2 z) Q := w_te0 H
theorem tp_alike {d e : Int32} (h : gI X z) : Te (fun K => qe_X13_alike K d e z) (fun r => gI X r.2 ∧ (r.1 = 0 ∨ r.1 = 1) ∧ r.2.2 = z.2) := by
  have h1 := gI_1 (c := 0) h
  refine e_X13_alike ?_; unfold qm_X13_alike_0
  refine w_wrF (w_has h1.2.1 (w_ifT rfl (w_okZ (Or.inl rfl) (w_some ⟨h1, Or.inl rfl, rfl⟩))) (fun d A sg hd hx hv hne => w_ifF (by decide) (w_has h1.2.1 (w_ifT rfl (w_okZ (Or.inl rfl) (w_some ⟨h1, Or.inl rfl, rfl⟩))) (fun e B sg2 he hy hw hne2 => w_ifF (by decide) ?_))))
  subst hx
  subst hy
  have l1 := hv.1.1
  have l2 := hw.1.1
  rw [show (32 : Int32) * nI d = nI (32 * d) from pk_mul 32 d, show (32 : Int32) * nI e = nI (32 * e) from pk_mul 32 e]
  refine w_cs1 (tr_same ml12 ml12 (by omega) (by omega) (by omega) (by omega) hv.1 hw.1) (fun a z2 e => ?_)
  cases e
  exact w_if (fun _ => w_okZ (Or.inl rfl) (w_some ⟨h1, Or.inl rfl, rfl⟩)) (fun _ => w_okZ (Or.inr rfl) (w_some ⟨h1, Or.inr rfl, rfl⟩))
end PUBA
end
section
/-! 99zzn.pubB -/
/-! public methods of the reference: mirror .. join -/
def flp (b : Nat → Bool) (p : Nat × Nat) : Nat × Nat := if b p.1 then (p.1, 1 - p.2) else p
theorem flp_1 {b : Nat → Bool} {p : Nat × Nat} : (flp b p).1 = p.1 := by
  unfold flp
  by_cases h : b p.1 = true
  · rw [if_pos h]
  · rw [if_neg h]
theorem flp_2 {b : Nat → Bool} {p : Nat × Nat} : (flp b p).2 = if b p.1 then 1 - p.2 else p.2 := by
  unfold flp
  by_cases h : b p.1 = true
  · rw [if_pos h, if_pos h]
  · rw [if_neg h, if_neg h]
theorem wkF_flp {F : List (Nat × Nat)} {b : Nat → Bool} (h : wkF F) : wkF (F.map (flp b)) := by
  refine ⟨nodup_map h.1 (fun p q hp hq e => ?_), fun p hp => ?_⟩
  · have e1 := congrArg Prod.fst e
    have e2 := congrArg Prod.snd e
    rw [flp_1, flp_1] at e1
    rw [flp_2, flp_2, e1] at e2
    have p2 := (h.2 p hp).2.1
    have q2 := (h.2 q hq).2.1
    refine Prod.ext e1 ?_
    by_cases hb : b q.1 = true
    · rw [if_pos hb, if_pos hb] at e2; omega
    · rw [if_neg hb, if_neg hb] at e2; exact e2
  · obtain ⟨q, hq, e⟩ := List.mem_map.mp hp
    obtain ⟨h1, h2, h3⟩ := h.2 q hq
    rw [← e]
    refine ⟨by rw [flp_1]; exact h1, ?_, List.mem_map.mpr ⟨(q.1, 1 - q.2), h3, Prod.ext ?_ ?_⟩⟩
    · rw [flp_2]
      by_cases hb : b q.1 = true
      · rw [if_pos hb]; omega
      · rw [if_neg hb]; exact h2
    · rw [flp_1, flp_1]
    · rw [flp_2, flp_2]
      show (if b q.1 then 1 - (1 - q.2) else 1 - q.2) = 1 - if b q.1 then 1 - q.2 else q.2
      by_cases hb : b q.1 = true
      · rw [if_pos hb, if_pos hb]
      · rw [if_neg hb, if_neg hb]
theorem fl_map2 {f : Nat × Nat → Nat × Nat} : ∀ A : rn_L, (A.map (List.map f)).flatten = A.flatten.map f
  | [] => rfl
  | B :: A => by rw [List.map_cons, List.flatten_cons, fl_map2 A, List.flatten_cons, List.map_append]
/-- a net whose visits are changed in place -/
theorem At_map {z z1 : ow_MS} {n : Nat} {A : rn_L} {f : Nat × Nat → Nat × Nat} (h : rn_At z n A []) (e1 : z1.1 (n + 1) = z.1 (n + 1)) (e2 : z1.1 (n + 2) = z.1 (n + 2)) (e3 : z1.2.1 (n + 3) = z.2.1 (n + 3)) (h4 : ∀ v, v < A.flatten.length → z1.2.1 (n + 4) v = nI (f (vAt A v)).1 ∧ z1.2.1 (n + 5) v = nI (f (vAt A v)).2) : rn_At z1 n (A.map (List.map f)) [] := by
  obtain ⟨a1, a2, a3, a4⟩ := h
  refine ⟨?_, ?_, fun c hc => ?_, fun v p hv => ?_⟩
  · rw [e1, a1, List.append_nil, List.append_nil, fl_map2, List.length_map]
  · rw [e2, a2, List.length_map]
  · rw [List.length_map] at hc
    rw [e3, a3 c hc, ← List.map_take, fl_map2, List.length_map]
  · rw [List.append_nil, fl_map2, List.getElem?_map] at hv
    cases hq : A.flatten[v]? with
    | none => rw [hq] at hv; cases hv
    | some q =>
      rw [hq] at hv
      cases hv
      have := h4 v (List.getElem?_eq_some_iff.mp hq).1
      rw [vAt_eq hq] at this
      exact this
section PUBB
variable {X : (Nat → Nat → Int32) → Prop} {z : ow_MS}
theorem e_X13_mirror {x1 : Int32} {z : ow_MS} {Q : (Int32 × ow_MS) → Prop} (H : Tt (fun K k => q_X13_mirror K k 0 x1 0 z) Q) : Te (fun K => qe_X13_mirror K x1 z) Q := w_te H
theorem u_X13_mirror_0 {x1 : Int32} {x2 : Int32} {z : ow_MS} {Q : (Int32 × ow_MS) → Prop} (H : Tt (fun K k => qm_X13_mirror_0 K (q_X13_mirror K k) x1 x2 z) Q) : Tt (fun K k => q_X13_mirror K k 0 x1 x2 z) Q := w_un (fun _ _ => rfl) H
theorem u_X13_mirror_2 {x1 : Int32} {x2 : Int32} {z : ow_MS} {Q : (Int32 × ow_MS) → Prop} (H : Tt (fun K k => qm_X13_mirror_2 K (q_X13_mirror K k) x1 x2 z) Q) : Tt (fun K k => q_X13_mirror K k 2 x1 x2 z) Q := w_un (fun _ _ => rfl) H
theorem u_X13_mirror_1 {x1 : Int32} {x2 : Int32} {z : ow_MS} {Q : (Int32 × ow_MS) → Prop} (H : Tt (fun K k => qm_X13_mirror_1 K (q_X13_mirror K k) x1 x2 z) Q) : Tt (fun K k => q_X13_mirror K k 1 x1 x2 z) Q := w_un (fun _ _ => rfl) H
theorem tp_mirror {d : Int32} (h : gI X z) : Te (fun K => qe_X13_mirror K d z) (fun r => gI X r.2) := by
  have h1 := gI_1 (c := 0) h
  refine e_X13_mirror ?_
  refine u_X13_mirror_0 ?_; unfold qm_X13_mirror_0
  refine w_wrF (w_has h1.2.1 (w_ifT rfl (w_fail h1)) (fun e A sg he hx hv hne => w_ifF (by decide) (w_free (w_ifT rfl (w_fail h1)) (fun f hf hfr => w_ifF (rn_neg1 (by omega)) ?_))))
  subst hx
  refine w_cs0 (to_open pn3 he hv) (fun z2 ⟨o1, f1⟩ => ?_)
  have h2 : gI X z2 := gI_net pn3 f1 (fun g hg => by omega) h1
  have hl := o1.len
  have hfr2 : frD z2 := frD_eq (f1 12 (by omega)).2.1 hfr
  have c2 : ∀ (k x : Nat) (z3 : ow_MS), x + k = 40 → fr (fun g => g = 3005 ∨ g = 3006) z2 z3 → (∀ v, v < A.flatten.length → z3.2.1 3005 v = nI (1 - uns A v)) → (∀ y, y < x → z3.2.1 3006 y = 0 - z2.2.1 3006 y) → (∀ y, x ≤ y → z3.2.1 3006 y = z2.2.1 3006 y) → Tt (fun K i => q_X13_mirror K i 2 (nI e) (nI x) z3) (fun r => gI X r.2) := by
    intro k
    induction k with
    | zero =>
      intro x z3 hx hf hu hs hs2
      refine u_X13_mirror_2 ?_; unfold qm_X13_mirror_2
      refine w_leT (a := 40) (by omega) (by omega) (w_keep (gI_net pn3 hf (fun g hg => by omega) h2) (frD_eq (hf 12 (by omega)).2.1 hfr2) ?_)
      have hA : rn_At z3 3000 (A.map (List.map (flp (fun _ => true)))) [] := At_map o1.1.1 (hf 3001 (by omega)).1 (hf 3002 (by omega)).1 (hf 3003 (by omega)).2.1 (fun v hv9 => ⟨by rw [(hf 3004 (by omega)).2.1, flp_1]; exact (lk_cu o1.1 hv9).1, by rw [flp_2]; exact hu v hv9⟩)
      refine ⟨_, fun x => decide (z3.2.1 3006 x = -1), hA, fun p hp => ?_, by rw [fl_map2]; exact wkF_flp o1.wk, by rw [fl_map2, List.length_map]; exact hl, by rw [List.length_map]; exact o1.2.2.2⟩
      rw [fl_map2] at hp
      obtain ⟨q, hq, e9⟩ := List.mem_map.mp hp
      rw [← e9, flp_1]
      have hq40 := (o1.wk.2 q hq).1
      refine s1_sg ?_
      rw [hs q.1 (by omega)]
      exact s1_neg (s1_if (o1.2.1 q hq))
    | succ k ih =>
      intro x z3 hx hf hu hs hs2
      refine u_X13_mirror_2 ?_; unfold qm_X13_mirror_2
      refine w_leF (a := 40) (by omega) (by omega) (w_rdI (pl6 pn3) rfl (by omega) (hs2 x (by omega)) (w_wrI (pl6 pn3) rfl (by omega) ?_))
      rw [nI_1]
      refine ih (x + 1) _ (by omega) (fr_I2 hf (Or.inr rfl)) (fun v hv9 => rd_ot (by omega) (hu v hv9)) (fun y hy => ?_) (fun y hy => rd_ne (by omega) (hs2 y (by omega)))
      by_cases hyx : y = x
      · rw [hyx, po_usI_at]
      · exact rd_ne hyx (hs y (by omega))
  have c1 : ∀ (k v : Nat) (z3 : ow_MS), v + k = A.flatten.length → fr (fun g => g = 3005) z2 z3 → (∀ w, w < v → z3.2.1 3005 w = nI (1 - uns A w)) → (∀ w, v ≤ w → z3.2.1 3005 w = z2.2.1 3005 w) → Tt (fun K i => q_X13_mirror K i 1 (nI e) (nI v) z3) (fun r => gI X r.2) := by
    intro k
    induction k with
    | zero =>
      intro v z3 hv9 hf hu hu2
      refine u_X13_mirror_1 ?_; unfold qm_X13_mirror_1
      exact w_rdF (x := nI A.flatten.length) (by rw [(hf 3001 (by omega)).1]; exact o1.1.V) (w_leT (by omega) (by omega) (c2 40 0 z3 (by omega) (fr_mono (fun g hg => Or.inl hg) hf) (fun w hw => hu w (by omega)) (fun y hy => by omega) (fun y _ => by rw [(hf 3006 (by omega)).2.1])))
    | succ k ih =>
      intro v z3 hv9 hf hu hu2
      have hvl : v < A.flatten.length := by omega
      have hu9 := (o1.cx hvl).2.1
      refine u_X13_mirror_1 ?_; unfold qm_X13_mirror_1
      refine w_rdF (x := nI A.flatten.length) (by rw [(hf 3001 (by omega)).1]; exact o1.1.V) (w_leF (by omega) hvl (w_rdI (pl5 pn3) rfl (by omega) ((hu2 v (Nat.le_refl _)).trans (lk_cu o1.1 hvl).2) (w_wrI (pl5 pn3) rfl (by omega) ?_)))
      rw [nI_1, show (1 : Int32) - nI (uns A v) = nI (1 - uns A v) from pk_sub (a := 1) (by omega)]
      refine ih (v + 1) _ (by omega) (fr_I2 hf rfl) (fun w hw => ?_) (fun w hw => rd_ne (by omega) (hu2 w (by omega)))
      by_cases hwv : w = v
      · rw [hwv, po_usI_at]
      · exact rd_ne hwv (hu w (by omega))
  exact c1 _ 0 z2 (Nat.zero_add _) fr_rf (fun w hw => by omega) (fun w _ => rfl)
theorem u_X13_changeIn_1 {x1 : Int32} {x2 : Int32} {r0 : Nat} {z : ow_MS} {Q : ow_MS → Prop} (H : Tt (fun K k => qm_X13_changeIn_1 K (q_X13_changeIn K k) x1 x2 r0 z) Q) : Tt (fun K k => q_X13_changeIn K k 1 x1 x2 r0 z) Q := w_un (fun _ _ => rfl) H
theorem u_X13_changeIn_2 {x1 : Int32} {x2 : Int32} {r0 : Nat} {z : ow_MS} {Q : ow_MS → Prop} (H : Tt (fun K k => qm_X13_changeIn_2 K (q_X13_changeIn K k) x1 x2 r0 z) Q) : Tt (fun K k => q_X13_changeIn K k 2 x1 x2 r0 z) Q := w_un (fun _ _ => rfl) H
theorem e_X13_changeIn {r0 : Nat} {x1 : Int32} {z : ow_MS} {Q : ow_MS → Prop} (H : Tt (fun K k => q_X13_changeIn K k 0 x1 0 r0 z) Q) : Te (fun K => qe_X13_changeIn K r0 x1 z) Q := w_te H
theorem u_X13_changeIn_0 {x1 : Int32} {x2 : Int32} {r0 : Nat} {z : ow_MS} {Q : ow_MS → Prop} (H : Tt (fun K k => qm_X13_changeIn_0 K (q_X13_changeIn K k) x1 x2 r0 z) Q) : Tt (fun K k => q_X13_changeIn K k 0 x1 x2 r0 z) Q := w_un (fun _ _ => rfl) H
theorem tp_changeIn {n x : Nat} {A : rn_L} (hn : mw_net n) (hl : A.flatten.length ≤ 40) (hx : x < 40) (hu2 : ∀ v, v < A.flatten.length → uns A v < 2 ∧ crs A v < 40) (hA : rn_At z n A []) : Te (fun K => qe_X13_changeIn K n (nI x) z) (fun z1 => rn_At z1 n (A.map (List.map (flp (fun y => decide (y = x))))) [] ∧ fr (fun g => g = n + 5 ∨ g = n + 6) z z1 ∧ z1.2.1 (n + 6) x = 0 - z.2.1 (n + 6) x ∧ ∀ y, y ≠ x → z1.2.1 (n + 6) y = z.2.1 (n + 6) y) := by
  have aV : ∀ {y : ow_MS}, fr (fun g => g = n + 5) z y → y.1 (n + 1) = nI A.flatten.length := fun hf => by rw [(hf (n + 1) (by omega)).1, hA.1, List.append_nil]
  have key : ∀ (k v : Nat) (z1 : ow_MS), v + k = A.flatten.length → fr (fun g => g = n + 5) z z1 → (∀ w, w < v → z1.2.1 (n + 5) w = nI (flp (fun y => decide (y = x)) (vAt A w)).2) → (∀ w, v ≤ w → z1.2.1 (n + 5) w = z.2.1 (n + 5) w) → Tt (fun K i => q_X13_changeIn K i 1 (nI x) (nI v) n z1) (fun z1 => rn_At z1 n (A.map (List.map (flp (fun y => decide (y = x))))) [] ∧ fr (fun g => g = n + 5 ∨ g = n + 6) z z1 ∧ z1.2.1 (n + 6) x = 0 - z.2.1 (n + 6) x ∧ ∀ y, y ≠ x → z1.2.1 (n + 6) y = z.2.1 (n + 6) y) := by
    intro k
    induction k with
    | zero =>
      intro v z1 hv hf hu hu9
      have e6 := (hf (n + 6) (by omega)).2.1
      refine u_X13_changeIn_1 ?_; unfold qm_X13_changeIn_1
      refine w_rdF (aV hf) (w_leT (by omega) (by omega) (w_rdI (pl6 hn) rfl hx rfl (w_wrI (pl6 hn) rfl hx (w_some ⟨?_, fr_I2 (fr_mono (fun g hg => Or.inl hg) hf) (Or.inr rfl), by rw [po_usI_at, e6], fun y hy => by rw [po_usI_ne hy, e6]⟩))))
      refine At_map hA (hf (n + 1) (by omega)).1 (hf (n + 2) (by omega)).1 (by rw [po_usI_ot (by omega)]; exact (hf (n + 3) (by omega)).2.1) (fun w hw => ⟨rd_ot (by omega) ?_, rd_ot (by omega) (hu w (by omega))⟩)
      rw [(hf (n + 4) (by omega)).2.1, flp_1]
      exact (hA.2.2.2 w _ (by rw [List.append_nil]; exact vAt_of hw)).1
    | succ k ih =>
      intro v z1 hv hf hu hu9
      have hvl : v < A.flatten.length := by omega
      obtain ⟨u1, u2⟩ := hu2 v hvl
      obtain ⟨c4, c5⟩ := hA.2.2.2 v _ (by rw [List.append_nil]; exact vAt_of hvl)
      have c4' : z1.2.1 (n + 4) v = nI (crs A v) := by rw [(hf (n + 4) (by omega)).2.1]; exact c4
      have c5' : z1.2.1 (n + 5) v = nI (uns A v) := by rw [hu9 v (Nat.le_refl _)]; exact c5
      refine u_X13_changeIn_1 ?_; unfold qm_X13_changeIn_1
      refine w_rdF (aV hf) (w_leF (by omega) hvl (w_rdI (pl4 hn) rfl (by omega) c4' (w_eqN (by omega) (by omega) (fun h9 => w_rdI (pl5 hn) rfl (by omega) c5' (w_wrI (pl5 hn) rfl (by omega) ?_)) (fun h9 => ?_))))
      · refine u_X13_changeIn_2 ?_; unfold qm_X13_changeIn_2
        rw [nI_1, show (1 : Int32) - nI (uns A v) = nI (1 - uns A v) from pk_sub (a := 1) (by omega)]
        refine ih (v + 1) _ (by omega) (fr_I2 hf rfl) (fun w hw => ?_) (fun w hw => rd_ne (by omega) (hu9 w (by omega)))
        by_cases hwv : w = v
        · rw [hwv, po_usI_at, flp_2]
          show _ = nI (if decide (crs A v = x) = true then 1 - uns A v else uns A v)
          rw [decide_eq_true h9]
          rfl
        · exact rd_ne hwv (hu w (by omega))
      · refine u_X13_changeIn_2 ?_; unfold qm_X13_changeIn_2
        rw [nI_1]
        refine ih (v + 1) z1 (by omega) hf (fun w hw => ?_) (fun w hw => hu9 w (by omega))
        by_cases hwv : w = v
        · rw [hwv, c5', flp_2]
          show _ = nI (if decide (crs A v = x) = true then 1 - uns A v else uns A v)
          rw [decide_eq_false h9]
          rfl
        · exact hu w (by omega)
  refine e_X13_changeIn ?_
  refine u_X13_changeIn_0 ?_; unfold qm_X13_changeIn_0
  exact key _ 0 z (Nat.zero_add _) fr_rf (fun w hw => by omega) (fun w _ => rfl)
theorem e_X13_change {x1 : Int32} {x2 : Int32} {z : ow_MS} {Q : (Int32 × ow_MS) → Prop} (H : Tt (fun K k => q_X13_change K k 0 x1 x2 z) Q) : Te (fun K => qe_X13_change K x1 x2 z) Q := w_te H
theorem u_X13_change_0 {x1 : Int32} {x2 : Int32} {z : ow_MS} {Q : (Int32 × ow_MS) → Prop} (H : Tt (fun K k => qm_X13_change_0 K (q_X13_change K k) x1 x2 z) Q) : Tt (fun K k => q_X13_change K k 0 x1 x2 z) Q := w_un (fun _ _ => rfl) H
theorem u_X13_change_1 {x1 : Int32} {x2 : Int32} {z : ow_MS} {Q : (Int32 × ow_MS) → Prop} (H : Tt (fun K k => qm_X13_change_1 K (q_X13_change K k) x1 x2 z) Q) : Tt (fun K k => q_X13_change K k 1 x1 x2 z) Q := w_un (fun _ _ => rfl) H
theorem tp_change {d x : Int32} (h : gI X z) : Te (fun K => qe_X13_change K d x z) (fun r => gI X r.2) := by
  have h1 := gI_1 (c := 0) h
  refine e_X13_change ?_
  refine u_X13_change_0 ?_; unfold qm_X13_change_0
  refine w_wrF (w_has h1.2.1 (w_ifT rfl (w_fail h1)) (fun e A sg he hx hv hne => w_ifF (by decide) ?_))
  subst hx
  refine w_cs0 (to_open pn3 he hv) (fun z2 ⟨o1, f1⟩ => ?_)
  have h2 : gI X z2 := gI_net pn3 f1 (fun g hg => by omega) h1
  have hl := o1.len
  have c1 : Tt (fun K k => q_X13_change K k 1 (nI e) x z2) (fun r => gI X r.2) := by
    refine u_X13_change_1 ?_; unfold qm_X13_change_1
    exact w_fail h2
  refine w_if (fun _ => c1) (fun h0 => w_rdF o1.1.V (w_nzI (by decide) ?_))
  rw [show nI A.flatten.length / 2 = nI (A.flatten.length / 2) from pk_div (d := 2) (by omega) (by omega) (by omega)]
  refine w_if (fun h9 => ?_) (fun _ => c1)
  obtain ⟨y, hy31, rfl⟩ := nI_of h0
  have hy : y < A.flatten.length / 2 := (nI_ltI hy31 (by omega)).mp h9
  refine w_free (w_ifT rfl (w_fail h2)) (fun f hf hfr => w_ifF (rn_neg1 (by omega)) (w_cs0 (tp_changeIn pn3 (by omega) (by omega) (fun v hv9 => ?_) o1.1.1) (fun z3 ⟨g1, g2, g3, g4⟩ => w_keep (gI_net pn3 g2 (fun g hg => by omega) h2) (frD_eq (g2 12 (by omega)).2.1 hfr) ?_)))
  · have := o1.cx hv9
    exact ⟨this.2.1, by omega⟩
  · refine ⟨_, fun x => decide (z3.2.1 3006 x = -1), g1, fun p hp => ?_, by rw [fl_map2]; exact wkF_flp o1.wk, by rw [fl_map2, List.length_map]; exact hl, by rw [List.length_map]; exact o1.2.2.2⟩
    rw [fl_map2] at hp
    obtain ⟨q, hq, e9⟩ := List.mem_map.mp hp
    rw [← e9, flp_1]
    refine s1_sg ?_
    have hs := s1_if (o1.2.1 q hq)
    by_cases hqy : q.1 = y
    · rw [hqy] at hs ⊢
      rw [show z3.2.1 3006 y = 0 - z2.2.1 3006 y from g3]
      exact s1_neg hs
    · rw [show z3.2.1 3006 q.1 = z2.2.1 3006 q.1 from g4 q.1 hqy]
      exact hs
theorem e_X13_reverse {x1 : Int32} {x2 : Int32} {z : ow_MS} {Q : (Int32 × ow_MS) → Prop} (H : Tt (fun K k => q_X13_reverse K k 0 x1 x2 0 0 0 0 0 z) Q) : Te (fun K => qe_X13_reverse K x1 x2 z) Q := w_te H
theorem u_X13_reverse_0 {x1 : Int32} {x2 : Int32} {x3 : Int32} {x4 : Int32} {x5 : Int32} {x6 : Int32} {t0 : Int32} {z : ow_MS} {Q : (Int32 × ow_MS) → Prop} (H : Tt (fun K k => qm_X13_reverse_0 K (q_X13_reverse K k) x1 x2 x3 x4 x5 x6 t0 z) Q) : Tt (fun K k => q_X13_reverse K k 0 x1 x2 x3 x4 x5 x6 t0 z) Q := w_un (fun _ _ => rfl) H
theorem u_X13_reverse_1 {x1 : Int32} {x2 : Int32} {x3 : Int32} {x4 : Int32} {x5 : Int32} {x6 : Int32} {t0 : Int32} {z : ow_MS} {Q : (Int32 × ow_MS) → Prop} (H : Tt (fun K k => qm_X13_reverse_1 K (q_X13_reverse K k) x1 x2 x3 x4 x5 x6 t0 z) Q) : Tt (fun K k => q_X13_reverse K k 1 x1 x2 x3 x4 x5 x6 t0 z) Q := w_un (fun _ _ => rfl) H
theorem u_X13_reverse_2 {x1 : Int32} {x2 : Int32} {x3 : Int32} {x4 : Int32} {x5 : Int32} {x6 : Int32} {t0 : Int32} {z : ow_MS} {Q : (Int32 × ow_MS) → Prop} (H : Tt (fun K k => qm_X13_reverse_2 K (q_X13_reverse K k) x1 x2 x3 x4 x5 x6 t0 z) Q) : Tt (fun K k => q_X13_reverse K k 2 x1 x2 x3 x4 x5 x6 t0 z) Q := w_un (fun _ _ => rfl) H
theorem u_X13_reverse_5 {x1 : Int32} {x2 : Int32} {x3 : Int32} {x4 : Int32} {x5 : Int32} {x6 : Int32} {t0 : Int32} {z : ow_MS} {Q : (Int32 × ow_MS) → Prop} (H : Tt (fun K k => qm_X13_reverse_5 K (q_X13_reverse K k) x1 x2 x3 x4 x5 x6 t0 z) Q) : Tt (fun K k => q_X13_reverse K k 5 x1 x2 x3 x4 x5 x6 t0 z) Q := w_un (fun _ _ => rfl) H
theorem u_X13_reverse_7 {x1 : Int32} {x2 : Int32} {x3 : Int32} {x4 : Int32} {x5 : Int32} {x6 : Int32} {t0 : Int32} {z : ow_MS} {Q : (Int32 × ow_MS) → Prop} (H : Tt (fun K k => qm_X13_reverse_7 K (q_X13_reverse K k) x1 x2 x3 x4 x5 x6 t0 z) Q) : Tt (fun K k => q_X13_reverse K k 7 x1 x2 x3 x4 x5 x6 t0 z) Q := w_un (fun _ _ => rfl) H
theorem u_X13_reverse_6 {x1 : Int32} {x2 : Int32} {x3 : Int32} {x4 : Int32} {x5 : Int32} {x6 : Int32} {t0 : Int32} {z : ow_MS} {Q : (Int32 × ow_MS) → Prop} (H : Tt (fun K k => qm_X13_reverse_6 K (q_X13_reverse K k) x1 x2 x3 x4 x5 x6 t0 z) Q) : Tt (fun K k => q_X13_reverse K k 6 x1 x2 x3 x4 x5 x6 t0 z) Q := w_un (fun _ _ => rfl) H
theorem u_X13_reverse_4 {x1 : Int32} {x2 : Int32} {x3 : Int32} {x4 : Int32} {x5 : Int32} {x6 : Int32} {t0 : Int32} {z : ow_MS} {Q : (Int32 × ow_MS) → Prop} (H : Tt (fun K k => qm_X13_reverse_4 K (q_X13_reverse K k) x1 x2 x3 x4 x5 x6 t0 z) Q) : Tt (fun K k => q_X13_reverse K k 4 x1 x2 x3 x4 x5 x6 t0 z) Q := w_un (fun _ _ => rfl) H
theorem u_X13_reverse_3 {x1 : Int32} {x2 : Int32} {x3 : Int32} {x4 : Int32} {x5 : Int32} {x6 : Int32} {t0 : Int32} {z : ow_MS} {Q : (Int32 × ow_MS) → Prop} (H : Tt (fun K k => qm_X13_reverse_3 K (q_X13_reverse K k) x1 x2 x3 x4 x5 x6 t0 z) Q) : Tt (fun K k => q_X13_reverse K k 3 x1 x2 x3 x4 x5 x6 t0 z) Q := w_un (fun _ _ => rfl) H
theorem tp_reverse {d c : Int32} (h : gI X z) : Te (fun K => qe_X13_reverse K d c z) (fun r => gI X r.2) := by
  have h1 := gI_1 (c := 0) h
  refine e_X13_reverse ?_
  refine u_X13_reverse_0 ?_; unfold qm_X13_reverse_0
  refine w_wrF (w_has h1.2.1 (w_ifT rfl (w_fail h1)) (fun e A sg he hx hv hne => w_ifF (by decide) ?_))
  subst hx
  refine w_cs0 (to_open pn1 he hv) (fun z2 ⟨o1, f1⟩ => ?_)
  have h2 : gI X z2 := gI_net pn1 f1 (fun g hg => by omega) h1
  have hl := o1.len
  have hd := wkF_ok o1.wk
  have hC := o1.2.2.2
  have c1 : Tt (fun K k => q_X13_reverse K k 1 (nI e) c 0 0 0 0 0 z2) (fun r => gI X r.2) := by
    refine u_X13_reverse_1 ?_; unfold qm_X13_reverse_1
    exact w_fail h2
  refine w_if (fun _ => c1) (fun _ => w_rdF rfl (w_if (fun _ => w_free (w_ifT rfl (w_fail h2)) (fun f hf hfr => w_ifF (rn_neg1 (by omega)) (w_cs0 (bm_clear (A := A) pn3) (fun z3 ⟨b3, f3⟩ => w_cs0 (tn_signs pn3 pn1 (by omega)) (fun z4 ⟨f4, s4⟩ => ?_))))) (fun _ => c1)))
  let J : ow_MS → Prop := fun y => fr (fun g => 3001 ≤ g ∧ g ≤ 3006) z2 y ∧ ∀ v, v < A.flatten.length → s1 (y.2.1 3006 (crs A v))
  have oJ : ∀ {y : ow_MS}, J y → oNet y 1000 A sg := fun hj => oNet_fr hj.1 (fun g hg => by omega) o1
  have out : ∀ (k m : Nat) (y : ow_MS), m + k = A.length → J y → bmE y 3000 A (fun j => j < rn_b A m) m → Tt (fun K i => q_X13_reverse K i 2 (nI e) c (nI m) 0 0 0 0 y) (fun r => gI X r.2) := by
    intro k
    induction k with
    | zero =>
      intro m y hm hj hb
      have hm2 : m = A.length := by omega
      refine u_X13_reverse_2 ?_; unfold qm_X13_reverse_2
      refine w_rdF (lk_C (oJ hj).1) (w_leT (by omega) (by omega) (w_keep (gI_net pn3 hj.1 (fun g hg => by omega) h2) (frD_eq (hj.1 12 (by omega)).2.1 hfr) ?_))
      rw [hm2, rn_b_len] at hb
      exact bmE_net o1.wk hl hC (fun j hj9 => hj9) (fun j hj9 => mtf_lt hd hj9) (fun j hj9 => hj.2 j hj9) hb
    | succ k ih =>
      intro m y hm hj hb
      have hmC : m < A.length := by omega
      have hmono := rn_b_mono A m
      have hble := rn_b_le A (m + 1)
      have inn : ∀ (t : Bool) (k i : Nat) (y : ow_MS), i + k = rlen A m → J y → bm y 3000 A (fun j => j < rn_b A m ∨ (if t then rn_b A (m + 1) ≤ j + i ∧ j < rn_b A (m + 1) else rn_b A m ≤ j ∧ j < rn_b A m + i)) m → Tt (fun K i9 => q_X13_reverse K i9 5 (nI e) c (nI m) (bZ t) (nI i) 0 0 y) (fun r => gI X r.2) := by
        intro t k
        unfold rlen
        induction k with
        | zero =>
          intro i y hi hj hb
          have o2 := oJ hj
          refine u_X13_reverse_5 ?_; unfold qm_X13_reverse_5
          rw [nI_1]
          refine w_rdI (pl3 pn1) rfl (by omega) (lk_b o2.1 (by omega)) (w_rdI (pl3 pn1) rfl (by omega) (lk_b o2.1 (by omega)) ?_)
          rw [pk_sub hmono]
          refine w_leT (by omega) (by omega) (w_cs0 (bm_end pn3 (by omega) hb) (fun y2 ⟨g1, g2⟩ => ?_))
          refine ih (m + 1) y2 (by omega) ⟨fr_tr hj.1 (fr_mono (fun g hg => by omega) g2), fun v hv9 => ?_⟩ (bmE_eq g1 (fun j => ?_))
          · rw [(g2 3006 (by omega)).2.1]
            exact hj.2 v hv9
          · cases t
            · simp only [Bool.false_eq_true, if_false]
              omega
            · simp only [if_true]
              omega
        | succ k ihk =>
          intro i y hi hj hb
          have o2 := oJ hj
          have hv6 : ∀ v, v < A.flatten.length → rn_b A m ≤ v → v < rn_b A (m + 1) → (v = if t then rn_b A (m + 1) - 1 - i else rn_b A m + i) → Tt (fun K i9 => q_X13_reverse K i9 6 (nI e) c (nI m) (bZ t) (nI i) 0 (nI v) y) (fun r => gI X r.2) := by
            intro v hv9 hvb hvb2 hve
            have hml := mtf_lt hd hv9
            have c7 : ∀ (y2 : ow_MS), J y2 → bm y2 3000 A (fun j => j < rn_b A m ∨ (if t then rn_b A (m + 1) ≤ j + (i + 1) ∧ j < rn_b A (m + 1) else rn_b A m ≤ j ∧ j < rn_b A m + (i + 1))) m → Tt (fun K i9 => q_X13_reverse K i9 7 (nI e) c (nI m) (bZ t) (nI i) (nI v) 0 y2) (fun r => gI X r.2) := by
              intro y2 hj2 hb2
              refine u_X13_reverse_7 ?_; unfold qm_X13_reverse_7
              rw [nI_1]
              exact ihk (i + 1) y2 (by omega) hj2 hb2
            have hnot : ¬ (v < rn_b A m ∨ (if t then rn_b A (m + 1) ≤ v + i ∧ v < rn_b A (m + 1) else rn_b A m ≤ v ∧ v < rn_b A m + i)) := by
              cases t
              · simp only [Bool.false_eq_true, if_false] at hve ⊢
                omega
              · simp only [if_true] at hve ⊢
                omega
            refine u_X13_reverse_6 ?_; unfold qm_X13_reverse_6
            refine w_rdI (pl4 pn1) rfl (by omega) (lk_cu o2.1 hv9).1 (w_rdI (pl5 pn1) rfl (by omega) (lk_cu o2.1 hv9).2 (w_cs0 (bm_add pn3 (by omega) (fun j hj9 => ?_) hnot rfl rfl hb) (fun y2 ⟨g1, g2⟩ => ?_)))
            · cases t
              · simp only [Bool.false_eq_true, if_false] at hj9
                omega
              · simp only [if_true] at hj9
                omega
            · have hb2 : bm y2 3000 A (fun j => j < rn_b A m ∨ (if t then rn_b A (m + 1) ≤ j + (i + 1) ∧ j < rn_b A (m + 1) else rn_b A m ≤ j ∧ j < rn_b A m + (i + 1))) m := bm_eq g1 (fun j => by
                cases t
                · simp only [Bool.false_eq_true, if_false] at hve ⊢
                  omega
                · simp only [if_true] at hve ⊢
                  omega)
              have hj2 : J y2 := ⟨fr_tr hj.1 (fr_mono (fun g hg => by omega) g2), fun v9 hv8 => by
                rw [(g2 3006 (by omega)).2.1]
                exact hj.2 v9 hv8⟩
              have o3 := oJ hj2
              refine w_if (fun _ => c7 y2 hj2 hb2) (fun _ => w_if (fun _ => c7 y2 hj2 hb2) (fun _ => w_rdI (pl7 pn1) rfl (by omega) (lk_m hd o3.1 hv9) (w_rdI (pl8 pn1) rfl (by omega) rfl (w_if (fun _ => c7 y2 hj2 hb2) (fun _ => ?_)))))
              obtain ⟨x1, x2, x3⟩ := o3.cx hv9
              refine w_rdI (pl4 pn1) rfl (by omega) (lk_cu o3.1 hv9).1 (w_rdI (pl4 pn1) rfl (by omega) (lk_cu o3.1 hv9).1 (w_rdI (pl6 pn1) rfl (by omega) x3 (w_wrI (pl6 pn3) rfl (by omega) (c7 _ ⟨fr_I2 hj2.1 (by omega), fun v9 hv8 => ?_⟩ (bm_fr (F := fun g => g = 3006) (fr_I rfl) (fun g hg => by omega) hb2)))))
              by_cases hce : crs A v9 = crs A v
              · rw [hce]
                show s1 ((usI y2 3006 (crs A v) _).2.1 3006 (crs A v))
                rw [po_usI_at]
                exact s1_neg (s1_if rfl)
              · show s1 ((usI y2 3006 (crs A v) _).2.1 3006 (crs A v9))
                rw [po_usI_ne hce]
                exact hj2.2 v9 hv8
          refine u_X13_reverse_5 ?_; unfold qm_X13_reverse_5
          rw [nI_1]
          refine w_rdI (pl3 pn1) rfl (by omega) (lk_b o2.1 (by omega)) (w_rdI (pl3 pn1) rfl (by omega) (lk_b o2.1 (by omega)) ?_)
          rw [pk_sub hmono]
          refine w_leF (by omega) (by omega) ?_
          cases t with
          | false =>
            refine w_ifT rfl (w_rdI (pl3 pn1) rfl (by omega) (lk_b o2.1 (by omega)) ?_)
            rw [nI_add]
            exact hv6 _ (by omega) (by omega) (by omega) rfl
          | true =>
            refine w_ifF (by decide) (w_rdI (pl3 pn1) rfl (by omega) (lk_b o2.1 (by omega)) ?_)
            rw [show nI (rn_b A (m + 1)) - 1 - nI i = nI (rn_b A (m + 1) - 1 - i) from by
              rw [show nI (rn_b A (m + 1)) - 1 = nI (rn_b A (m + 1) - 1) from pk_sub (b := 1) (by omega)]
              exact pk_sub (by omega)]
            exact hv6 _ (by omega) (by omega) (by omega) rfl
      have c4 : ∀ t : Bool, Tt (fun K i9 => q_X13_reverse K i9 4 (nI e) c (nI m) 0 0 0 (bZ t) y) (fun r => gI X r.2) := by
        intro t
        refine u_X13_reverse_4 ?_; unfold qm_X13_reverse_4
        refine inn t (rlen A m) 0 y (by omega) hj (bm_eq hb.b (fun j => ?_))
        cases t
        · simp only [Bool.false_eq_true, if_false]
          omega
        · simp only [if_true]
          omega
      have c3 : Tt (fun K i9 => q_X13_reverse K i9 3 (nI e) c (nI m) 0 0 0 0 y) (fun r => gI X r.2) := by
        refine u_X13_reverse_3 ?_; unfold qm_X13_reverse_3
        exact c4 true
      refine u_X13_reverse_2 ?_; unfold qm_X13_reverse_2
      exact w_rdF (lk_C (oJ hj).1) (w_leF (by omega) (by omega) (w_if (fun _ => c3) (fun _ => w_if (fun _ => c3) (fun _ => c4 false))))
  refine out A.length 0 z4 (by omega) ⟨fr_tr (fr_mono (fun g hg => by omega) f3) (fr_mono (fun g hg => by omega) f4), fun v hv9 => ?_⟩ (bmE_eq (bmE_fr f4 (fun g hg => by omega) b3) (fun j => ?_))
  · obtain ⟨x1, x2, x3⟩ := o1.cx hv9
    have := s4 (crs A v) (by omega)
    rw [show z4.2.1 3006 (crs A v) = z3.2.1 1006 (crs A v) from this, (f3 1006 (by omega)).2.1]
    exact s1_if x3
  · rw [rn_b0]
    exact ⟨fun h9 => h9.elim, fun h9 => by omega⟩
end PUBB
end
section
/-! 99zzo.smooth -/
/-! smoothing, and nets side by side -/
theorem rn_b_mono2 {A : rn_L} {a c : Nat} (h : a ≤ c) : rn_b A a ≤ rn_b A c := by
  obtain ⟨d, rfl⟩ : ∃ d, c = a + d := ⟨c - a, by omega⟩
  induction d with
  | zero => exact Nat.le_refl _
  | succ d ih => exact Nat.le_trans (ih (by omega)) (rn_b_mono A (a + d))
theorem at_cu {z : ow_MS} {n i : Nat} {A : rn_L} (h : rn_At z n A []) (hi : i < A.flatten.length) : z.2.1 (n + 4) i = nI (crs A i) ∧ z.2.1 (n + 5) i = nI (uns A i) := h.2.2.2 i _ (by rw [List.append_nil]; exact vAt_of hi)
theorem u_X13_smoothIn_13 {x1 : Int32} {x2 : Int32} {x3 : Int32} {x5 : Int32} {x6 : Int32} {x7 : Int32} {x8 : Int32} {r0 : Nat} {r4 : Nat} {t0 : Int32} {z : ow_MS} {Q : ow_MS → Prop} (H : Tt (fun K k => qm_X13_smoothIn_13 K (q_X13_smoothIn K k) x1 x2 x3 x5 x6 x7 x8 r0 r4 t0 z) Q) : Tt (fun K k => q_X13_smoothIn K k 13 x1 x2 x3 x5 x6 x7 x8 r0 r4 t0 z) Q := w_un (fun _ _ => rfl) H
theorem u_X13_smoothIn_11 {x1 : Int32} {x2 : Int32} {x3 : Int32} {x5 : Int32} {x6 : Int32} {x7 : Int32} {x8 : Int32} {r0 : Nat} {r4 : Nat} {t0 : Int32} {z : ow_MS} {Q : ow_MS → Prop} (H : Tt (fun K k => qm_X13_smoothIn_11 K (q_X13_smoothIn K k) x1 x2 x3 x5 x6 x7 x8 r0 r4 t0 z) Q) : Tt (fun K k => q_X13_smoothIn K k 11 x1 x2 x3 x5 x6 x7 x8 r0 r4 t0 z) Q := w_un (fun _ _ => rfl) H
theorem u_X13_smoothIn_10 {x1 : Int32} {x2 : Int32} {x3 : Int32} {x5 : Int32} {x6 : Int32} {x7 : Int32} {x8 : Int32} {r0 : Nat} {r4 : Nat} {t0 : Int32} {z : ow_MS} {Q : ow_MS → Prop} (H : Tt (fun K k => qm_X13_smoothIn_10 K (q_X13_smoothIn K k) x1 x2 x3 x5 x6 x7 x8 r0 r4 t0 z) Q) : Tt (fun K k => q_X13_smoothIn K k 10 x1 x2 x3 x5 x6 x7 x8 r0 r4 t0 z) Q := w_un (fun _ _ => rfl) H
theorem u_X13_smoothIn_2 {x1 : Int32} {x2 : Int32} {x3 : Int32} {x5 : Int32} {x6 : Int32} {x7 : Int32} {x8 : Int32} {r0 : Nat} {r4 : Nat} {t0 : Int32} {z : ow_MS} {Q : ow_MS → Prop} (H : Tt (fun K k => qm_X13_smoothIn_2 K (q_X13_smoothIn K k) x1 x2 x3 x5 x6 x7 x8 r0 r4 t0 z) Q) : Tt (fun K k => q_X13_smoothIn K k 2 x1 x2 x3 x5 x6 x7 x8 r0 r4 t0 z) Q := w_un (fun _ _ => rfl) H
theorem u_X13_smoothIn_12 {x1 : Int32} {x2 : Int32} {x3 : Int32} {x5 : Int32} {x6 : Int32} {x7 : Int32} {x8 : Int32} {r0 : Nat} {r4 : Nat} {t0 : Int32} {z : ow_MS} {Q : ow_MS → Prop} (H : Tt (fun K k => qm_X13_smoothIn_12 K (q_X13_smoothIn K k) x1 x2 x3 x5 x6 x7 x8 r0 r4 t0 z) Q) : Tt (fun K k => q_X13_smoothIn K k 12 x1 x2 x3 x5 x6 x7 x8 r0 r4 t0 z) Q := w_un (fun _ _ => rfl) H
theorem u_X13_smoothIn_4 {x1 : Int32} {x2 : Int32} {x3 : Int32} {x5 : Int32} {x6 : Int32} {x7 : Int32} {x8 : Int32} {r0 : Nat} {r4 : Nat} {t0 : Int32} {z : ow_MS} {Q : ow_MS → Prop} (H : Tt (fun K k => qm_X13_smoothIn_4 K (q_X13_smoothIn K k) x1 x2 x3 x5 x6 x7 x8 r0 r4 t0 z) Q) : Tt (fun K k => q_X13_smoothIn K k 4 x1 x2 x3 x5 x6 x7 x8 r0 r4 t0 z) Q := w_un (fun _ _ => rfl) H
theorem u_X13_smoothIn_3 {x1 : Int32} {x2 : Int32} {x3 : Int32} {x5 : Int32} {x6 : Int32} {x7 : Int32} {x8 : Int32} {r0 : Nat} {r4 : Nat} {t0 : Int32} {z : ow_MS} {Q : ow_MS → Prop} (H : Tt (fun K k => qm_X13_smoothIn_3 K (q_X13_smoothIn K k) x1 x2 x3 x5 x6 x7 x8 r0 r4 t0 z) Q) : Tt (fun K k => q_X13_smoothIn K k 3 x1 x2 x3 x5 x6 x7 x8 r0 r4 t0 z) Q := w_un (fun _ _ => rfl) H
theorem u_X13_smoothIn_9 {x1 : Int32} {x2 : Int32} {x3 : Int32} {x5 : Int32} {x6 : Int32} {x7 : Int32} {x8 : Int32} {r0 : Nat} {r4 : Nat} {t0 : Int32} {z : ow_MS} {Q : ow_MS → Prop} (H : Tt (fun K k => qm_X13_smoothIn_9 K (q_X13_smoothIn K k) x1 x2 x3 x5 x6 x7 x8 r0 r4 t0 z) Q) : Tt (fun K k => q_X13_smoothIn K k 9 x1 x2 x3 x5 x6 x7 x8 r0 r4 t0 z) Q := w_un (fun _ _ => rfl) H
theorem e_X13_smoothIn {r0 : Nat} {x1 : Int32} {x2 : Int32} {x3 : Int32} {r4 : Nat} {z : ow_MS} {Q : ow_MS → Prop} (H : Tt (fun K k => q_X13_smoothIn K k 0 x1 x2 x3 0 0 0 0 r0 r4 0 z) Q) : Te (fun K => qe_X13_smoothIn K r0 x1 x2 x3 r4 z) Q := w_te H
theorem u_X13_smoothIn_0 {x1 : Int32} {x2 : Int32} {x3 : Int32} {x5 : Int32} {x6 : Int32} {x7 : Int32} {x8 : Int32} {r0 : Nat} {r4 : Nat} {t0 : Int32} {z : ow_MS} {Q : ow_MS → Prop} (H : Tt (fun K k => qm_X13_smoothIn_0 K (q_X13_smoothIn K k) x1 x2 x3 x5 x6 x7 x8 r0 r4 t0 z) Q) : Tt (fun K k => q_X13_smoothIn K k 0 x1 x2 x3 x5 x6 x7 x8 r0 r4 t0 z) Q := w_un (fun _ _ => rfl) H
theorem u_X13_smoothIn_1 {x1 : Int32} {x2 : Int32} {x3 : Int32} {x5 : Int32} {x6 : Int32} {x7 : Int32} {x8 : Int32} {r0 : Nat} {r4 : Nat} {t0 : Int32} {z : ow_MS} {Q : ow_MS → Prop} (H : Tt (fun K k => qm_X13_smoothIn_1 K (q_X13_smoothIn K k) x1 x2 x3 x5 x6 x7 x8 r0 r4 t0 z) Q) : Tt (fun K k => q_X13_smoothIn K k 1 x1 x2 x3 x5 x6 x7 x8 r0 r4 t0 z) Q := w_un (fun _ _ => rfl) H
theorem u_X13_smoothIn_8 {x1 : Int32} {x2 : Int32} {x3 : Int32} {x5 : Int32} {x6 : Int32} {x7 : Int32} {x8 : Int32} {r0 : Nat} {r4 : Nat} {t0 : Int32} {z : ow_MS} {Q : ow_MS → Prop} (H : Tt (fun K k => qm_X13_smoothIn_8 K (q_X13_smoothIn K k) x1 x2 x3 x5 x6 x7 x8 r0 r4 t0 z) Q) : Tt (fun K k => q_X13_smoothIn K k 8 x1 x2 x3 x5 x6 x7 x8 r0 r4 t0 z) Q := w_un (fun _ _ => rfl) H
theorem u_X13_smoothIn_7 {x1 : Int32} {x2 : Int32} {x3 : Int32} {x5 : Int32} {x6 : Int32} {x7 : Int32} {x8 : Int32} {r0 : Nat} {r4 : Nat} {t0 : Int32} {z : ow_MS} {Q : ow_MS → Prop} (H : Tt (fun K k => qm_X13_smoothIn_7 K (q_X13_smoothIn K k) x1 x2 x3 x5 x6 x7 x8 r0 r4 t0 z) Q) : Tt (fun K k => q_X13_smoothIn K k 7 x1 x2 x3 x5 x6 x7 x8 r0 r4 t0 z) Q := w_un (fun _ _ => rfl) H
theorem u_X13_smoothIn_6 {x1 : Int32} {x2 : Int32} {x3 : Int32} {x5 : Int32} {x6 : Int32} {x7 : Int32} {x8 : Int32} {r0 : Nat} {r4 : Nat} {t0 : Int32} {z : ow_MS} {Q : ow_MS → Prop} (H : Tt (fun K k => qm_X13_smoothIn_6 K (q_X13_smoothIn K k) x1 x2 x3 x5 x6 x7 x8 r0 r4 t0 z) Q) : Tt (fun K k => q_X13_smoothIn K k 6 x1 x2 x3 x5 x6 x7 x8 r0 r4 t0 z) Q := w_un (fun _ _ => rfl) H
theorem u_X13_smoothIn_5 {x1 : Int32} {x2 : Int32} {x3 : Int32} {x5 : Int32} {x6 : Int32} {x7 : Int32} {x8 : Int32} {r0 : Nat} {r4 : Nat} {t0 : Int32} {z : ow_MS} {Q : ow_MS → Prop} (H : Tt (fun K k => qm_X13_smoothIn_5 K (q_X13_smoothIn K k) x1 x2 x3 x5 x6 x7 x8 r0 r4 t0 z) Q) : Tt (fun K k => q_X13_smoothIn K k 5 x1 x2 x3 x5 x6 x7 x8 r0 r4 t0 z) Q := w_un (fun _ _ => rfl) H
theorem tp_smoothIn {o n c v w : Nat} {z : ow_MS} {A : rn_L} (ho : mw_net o) (hn : mw_net n) (hon : n ≠ o) (hl : A.flatten.length ≤ 24) (hC : A.length ≤ 37) (hA : rn_At z o A []) (hc : c < A.length) (hv1 : rn_b A c ≤ v) (hv2 : v < rn_b A (c + 1)) (hvw : v < w) (hw : w < A.flatten.length) : Te (fun K => qe_X13_smoothIn K o (nI c) (nI v) (nI w) n z) (fun z1 => (∃ q, q ≤ A.length + 1 ∧ bmE z1 n A (fun j => j < A.flatten.length ∧ j ≠ v ∧ j ≠ w) q) ∧ (∀ x, x < 40 → z1.2.1 (n + 6) x = z.2.1 (o + 6) x) ∧ fr (fun g => n + 1 ≤ g ∧ g ≤ n + 6) z z1) := by
  have hmn := net_mod hn
  have hmo := net_mod ho
  let I : ow_MS → Prop := fun y => fr (fun g => n + 1 ≤ g ∧ g ≤ n + 6) z y ∧ ∀ x, x < 40 → y.2.1 (n + 6) x = z.2.1 (o + 6) x
  let Q : ow_MS → Prop := fun z1 => (∃ q, q ≤ A.length + 1 ∧ bmE z1 n A (fun j => j < A.flatten.length ∧ j ≠ v ∧ j ≠ w) q) ∧ (∀ x, x < 40 → z1.2.1 (n + 6) x = z.2.1 (o + 6) x) ∧ fr (fun g => n + 1 ≤ g ∧ g ≤ n + 6) z z1
  have atI : ∀ {y : ow_MS}, I y → rn_At y o A [] := fun hI => fr_At hI.1 (fun g hg => by omega) hA
  have cuI : ∀ {y : ow_MS} {i : Nat}, I y → i < A.flatten.length → y.2.1 (o + 4) i = nI (crs A i) ∧ y.2.1 (o + 5) i = nI (uns A i) := fun hI hi => at_cu (atI hI) hi
  have bI : ∀ {y : ow_MS} {k : Nat}, I y → k ≤ A.length → y.2.1 (o + 3) k = nI (rn_b A k) := fun hI hk => (atI hI).2.2.1 _ hk
  have addI : ∀ {y y2 : ow_MS}, I y → fr (fun g => g = n + 1 ∨ g = n + 4 ∨ g = n + 5) y y2 → I y2 := fun hI hf => ⟨fr_tr hI.1 (fr_mono (fun g hg => by omega) hf), fun x hx => by rw [(hf (n + 6) (by omega)).2.1]; exact hI.2 x hx⟩
  have endI : ∀ {y y2 : ow_MS}, I y → fr (fun g => g = n + 2 ∨ g = n + 3) y y2 → I y2 := fun hI hf => ⟨fr_tr hI.1 (fr_mono (fun g hg => by omega) hf), fun x hx => by rw [(hf (n + 6) (by omega)).2.1]; exact hI.2 x hx⟩
  have hbl := rn_b_le A (c + 1)
  have hbl2 := fun k => rn_b_le A k
  have hbl3 := hbl2 c
  obtain ⟨hJ1, hJ2, hJ3⟩ := rn_c_in A w hw
  obtain ⟨J, hJ⟩ : ∃ J, J = rn_c A w := ⟨_, rfl⟩
  rw [← hJ] at hJ1 hJ2 hJ3
  have hbJ := hbl2 (J + 1)
  have mono := fun {a b : Nat} (h9 : a ≤ b) => rn_b_mono2 (A := A) h9
  have l13 : ∀ (k i : Nat) (y : ow_MS), i + k = w → v + 1 ≤ i → I y → bm y n A (fun j => j < A.flatten.length ∧ ¬ (v ≤ j ∧ j ≤ w) ∨ v < j ∧ j < i) A.length → (∀ y2, I y2 → bm y2 n A (fun j => j < A.flatten.length ∧ ¬ (v ≤ j ∧ j ≤ w) ∨ v < j ∧ j < w) A.length → Tt (fun K i9 => cs0 (qe_X12_end K n y2) fun z35 => some z35) Q) → Tt (fun K i9 => q_X13_smoothIn K i9 13 (nI c) (nI v) (nI w) 1 (nI i) 0 0 o n 0 y) Q := by
    intro k
    induction k with
    | zero =>
      intro i y hi hlo hI hb hout
      have hie : i = w := by omega
      rw [hie] at hb ⊢
      refine u_X13_smoothIn_13 ?_; unfold qm_X13_smoothIn_13
      exact (w_leT (by omega) (Nat.le_refl _) (hout y hI hb))
    | succ k ih =>
      intro i y hi hlo hI hb hout
      have hil : i < A.flatten.length := by omega
      refine u_X13_smoothIn_13 ?_; unfold qm_X13_smoothIn_13
      refine (w_leF (by omega) (by omega) (w_rdI (pl4 ho) rfl (by omega) (cuI hI hil).1 (w_rdI (pl5 ho) rfl (by omega) (cuI hI hil).2 (w_cs0 (bm_add hn (by omega) (fun j hj => by omega) (by omega) rfl rfl hb) (fun y2 ⟨g1, g2⟩ => ?_)))))
      rw [nI_1]
      exact ih (i + 1) y2 (by omega) (by omega) (addI hI g2) (bm_eq g1 (fun j => by omega)) hout
  have fin1 : ∀ y, I y → bmE y n A (fun j => j < A.flatten.length ∧ ¬ (v ≤ j ∧ j ≤ w)) A.length → Tt (fun K i9 => q_X13_smoothIn K i9 13 (nI c) (nI v) (nI w) 1 (nI (v + 1)) 0 0 o n 0 y) Q := by
    intro y hI hb
    refine l13 (w - (v + 1)) (v + 1) y (by omega) (Nat.le_refl _) hI (bm_eq hb.b (fun j => by omega)) (fun y2 hI2 hb2 => w_cs0 (bm_end hn (by omega) hb2) (fun y3 ⟨g1, g2⟩ => w_some ⟨⟨A.length + 1, Nat.le_refl _, bmE_eq g1 (fun j => by omega)⟩, (endI hI2 g2).2, (endI hI2 g2).1⟩))
  -- a component as it is
  have l11 : ∀ (x5 : Int32) (m q : Nat) (D : Nat → Prop), m < A.length → q < 39 → (∀ j, D j → j < A.flatten.length ∧ ¬ (rn_b A m ≤ j ∧ j < rn_b A (m + 1))) → (∀ y2, I y2 → bmE y2 n A (fun j => D j ∨ rn_b A m ≤ j ∧ j < rn_b A (m + 1)) (q + 1) → Tt (fun K i9 => q_X13_smoothIn K i9 12 (nI c) (nI v) (nI w) x5 (nI m) 0 0 o n 0 y2) Q) → ∀ (k i : Nat) (y : ow_MS), i + k = rn_b A (m + 1) → rn_b A m ≤ i → I y → bm y n A (fun j => D j ∨ rn_b A m ≤ j ∧ j < i) q → Tt (fun K i9 => q_X13_smoothIn K i9 11 (nI c) (nI v) (nI w) x5 (nI m) (nI i) 0 o n 0 y) Q := by
    intro x5 m q D hm hq hD hout k
    have hbm := hbl2 (m + 1)
    induction k with
    | zero =>
      intro i y hi hlo hI hb
      have hie : i = rn_b A (m + 1) := by omega
      rw [hie] at hb ⊢
      refine u_X13_smoothIn_11 ?_; unfold qm_X13_smoothIn_11
      rw [nI_1]
      exact w_rdI (pl3 ho) rfl (by omega) (bI hI (by omega)) (w_leT (by omega) (Nat.le_refl _) (w_cs0 (bm_end hn hq hb) (fun y2 ⟨g1, g2⟩ => hout y2 (endI hI g2) g1)))
    | succ k ih =>
      intro i y hi hlo hI hb
      have hil : i < A.flatten.length := by omega
      refine u_X13_smoothIn_11 ?_; unfold qm_X13_smoothIn_11
      rw [nI_1]
      refine w_rdI (pl3 ho) rfl (by omega) (bI hI (by omega)) (w_leF (by omega) (by omega) (w_rdI (pl4 ho) rfl (by omega) (cuI hI hil).1 (w_rdI (pl5 ho) rfl (by omega) (cuI hI hil).2 (w_cs0 (bm_add hn (by omega) (fun j hj => ?_) (fun h9 => ?_) rfl rfl hb) (fun y2 ⟨g1, g2⟩ => ?_)))))
      · rcases hj with hj | hj
        · exact (hD j hj).1
        · omega
      · rcases h9 with h9 | h9
        · exact (hD i h9).2 ⟨by omega, by omega⟩
        · omega
      · rw [nI_1]
        refine ih (i + 1) y2 (by omega) (by omega) (addI hI g2) (bm_eq g1 (fun j => ?_))
        constructor
        · rintro ((h9 | h9) | h9)
          · exact Or.inl h9
          · exact Or.inr (by omega)
          · exact Or.inr (by omega)
        · rintro (h9 | h9)
          · exact Or.inl (Or.inl h9)
          · by_cases hji : j = i
            · exact Or.inr hji
            · exact Or.inl (Or.inr (by omega))
  have c10 : ∀ (x5 : Int32) (m q : Nat) (D : Nat → Prop) (y : ow_MS), m < A.length → q < 39 → (∀ j, D j → j < A.flatten.length ∧ ¬ (rn_b A m ≤ j ∧ j < rn_b A (m + 1))) → (∀ y2, I y2 → bmE y2 n A (fun j => D j ∨ rn_b A m ≤ j ∧ j < rn_b A (m + 1)) (q + 1) → Tt (fun K i9 => q_X13_smoothIn K i9 12 (nI c) (nI v) (nI w) x5 (nI m) 0 0 o n 0 y2) Q) → I y → bmE y n A D q → Tt (fun K i9 => q_X13_smoothIn K i9 10 (nI c) (nI v) (nI w) x5 (nI m) 0 0 o n 0 y) Q := by
    intro x5 m q D y hm hq hD hout hI hb
    have hmm := rn_b_mono A m
    refine u_X13_smoothIn_10 ?_; unfold qm_X13_smoothIn_10
    refine w_rdI (pl3 ho) rfl (by omega) (bI hI (by omega)) (l11 x5 m q D hm hq hD hout (rn_b A (m + 1) - rn_b A m) (rn_b A m) y (by omega) (Nat.le_refl _) hI (bm_eq hb.b (fun j => ?_)))
    constructor
    · exact Or.inl
    · rintro (h9 | h9)
      · exact h9
      · omega
  by_cases hone : w < rn_b A (c + 1)
  · -- both visits in one component
    have aft : ∀ (k m : Nat) (y : ow_MS), m + k = A.length → c < m → I y → bmE y n A (fun j => j < rn_b A m ∧ ¬ (v ≤ j ∧ j ≤ w)) m → Tt (fun K i9 => q_X13_smoothIn K i9 2 (nI c) (nI v) (nI w) 1 (nI m) 0 0 o n 0 y) Q := by
      intro k
      induction k with
      | zero =>
        intro m y hm hcm hI hb
        have hme : m = A.length := by omega
        rw [hme, rn_b_len] at hb
        refine u_X13_smoothIn_2 ?_; unfold qm_X13_smoothIn_2
        rw [nI_1 v]
        exact w_rdF (atI hI).2.1 (w_leT (by omega) (by omega) (w_ifF (by decide) (fin1 y hI hb)))
      | succ k ih =>
        intro m y hm hcm hI hb
        have m1 := mono (a := c + 1) (b := m) (by omega)
        have m2 := rn_b_mono A m
        have m3 := hbl2 (m + 1)
        refine u_X13_smoothIn_2 ?_; unfold qm_X13_smoothIn_2
        rw [nI_1 v]
        refine w_rdF (atI hI).2.1 (w_leF (by omega) (by omega) (w_ifF (fun e => by have := (nI_eq (by omega) (by omega)).mp e; omega) (w_ifF (by decide) (c10 1 m m _ y (by omega) (by omega) (fun j hj => by omega) (fun y2 hI2 hb2 => ?_) hI hb))))
        refine u_X13_smoothIn_12 ?_; unfold qm_X13_smoothIn_12
        rw [nI_1]
        exact ih (m + 1) y2 (by omega) (by omega) hI2 (bmE_eq hb2 (fun j => by omega))
    have l4 : ∀ (k i : Nat) (y : ow_MS), i + k = rn_b A (c + 1) → w + 1 ≤ i → I y → bm y n A (fun j => j < v ∨ w < j ∧ j < i) c → (∀ y2, I y2 → bm y2 n A (fun j => j < v ∨ w < j ∧ j < rn_b A (c + 1)) c → Tt (fun K i9 => q_X13_smoothIn K i9 9 (nI c) (nI v) (nI w) 1 (nI c) (nI (rn_b A (c + 1))) 0 o n 0 y2) Q) → Tt (fun K i9 => q_X13_smoothIn K i9 4 (nI c) (nI v) (nI w) 1 (nI c) (nI i) 0 o n 0 y) Q := by
      intro k
      induction k with
      | zero =>
        intro i y hi hlo hI hb hout
        have hie : i = rn_b A (c + 1) := by omega
        rw [hie] at hb ⊢
        refine u_X13_smoothIn_4 ?_; unfold qm_X13_smoothIn_4
        exact w_rdI (pl3 ho) (nI_1 _) (by omega) (bI hI (by omega)) (w_leT (by omega) (Nat.le_refl _) (hout y hI hb))
      | succ k ih =>
        intro i y hi hlo hI hb hout
        have hil : i < A.flatten.length := by omega
        refine u_X13_smoothIn_4 ?_; unfold qm_X13_smoothIn_4
        refine w_rdI (pl3 ho) (nI_1 _) (by omega) (bI hI (by omega)) (w_leF (by omega) (by omega) (w_rdI (pl4 ho) rfl (by omega) (cuI hI hil).1 (w_rdI (pl5 ho) rfl (by omega) (cuI hI hil).2 (w_cs0 (bm_add hn (by omega) (fun j hj => by omega) (by omega) rfl rfl hb) (fun y2 ⟨g1, g2⟩ => ?_)))))
        rw [nI_1]
        exact ih (i + 1) y2 (by omega) (by omega) (addI hI g2) (bm_eq g1 (fun j => by omega)) hout
    have l3 : ∀ (k i : Nat) (y : ow_MS), i + k = v → rn_b A c ≤ i → I y → bm y n A (fun j => j < i) c → (∀ y2, I y2 → bm y2 n A (fun j => j < v) c → Tt (fun K i9 => q_X13_smoothIn K i9 4 (nI c) (nI v) (nI w) 1 (nI c) (nI (w + 1)) 0 o n 0 y2) Q) → Tt (fun K i9 => q_X13_smoothIn K i9 3 (nI c) (nI v) (nI w) 1 (nI c) (nI i) 0 o n 0 y) Q := by
      intro k
      induction k with
      | zero =>
        intro i y hi hlo hI hb hout
        have hie : i = v := by omega
        rw [hie] at hb ⊢
        refine u_X13_smoothIn_3 ?_; unfold qm_X13_smoothIn_3
        rw [nI_1 w]
        exact w_leT (by omega) (Nat.le_refl _) (w_ifF (by decide) (hout y hI hb))
      | succ k ih =>
        intro i y hi hlo hI hb hout
        have hil : i < A.flatten.length := by omega
        refine u_X13_smoothIn_3 ?_; unfold qm_X13_smoothIn_3
        rw [nI_1 w]
        refine (w_leF (by omega) (by omega) (w_rdI (pl4 ho) rfl (by omega) (cuI hI hil).1 (w_rdI (pl5 ho) rfl (by omega) (cuI hI hil).2 (w_cs0 (bm_add hn (by omega) (fun j hj => by omega) (by omega) rfl rfl hb) (fun y2 ⟨g1, g2⟩ => ?_)))))
        rw [nI_1]
        exact ih (i + 1) y2 (by omega) (by omega) (addI hI g2) (bm_eq g1 (fun j => by omega)) hout
    have bef : ∀ (k m : Nat) (y : ow_MS), m + k = c → I y → bmE y n A (fun j => j < rn_b A m) m → Tt (fun K i9 => q_X13_smoothIn K i9 2 (nI c) (nI v) (nI w) 1 (nI m) 0 0 o n 0 y) Q := by
      intro k
      induction k with
      | zero =>
        intro m y hm hI hb
        have hme : m = c := by omega
        subst hme
        refine u_X13_smoothIn_2 ?_; unfold qm_X13_smoothIn_2
        refine w_rdF (atI hI).2.1 (w_leF (by omega) (by omega) (w_ifT rfl (w_rdI (pl3 ho) rfl (by omega) (bI hI (by omega)) (l3 (v - rn_b A m) (rn_b A m) y (by omega) (Nat.le_refl _) hI hb.b (fun y2 hI2 hb2 => l4 (rn_b A (m + 1) - (w + 1)) (w + 1) y2 (by omega) (Nat.le_refl _) hI2 (bm_eq hb2 (fun j => by omega)) (fun y3 hI3 hb3 => ?_))))))
        refine u_X13_smoothIn_9 ?_; unfold qm_X13_smoothIn_9
        refine w_cs0 (bm_end hn (by omega) hb3) (fun y4 ⟨g1, g2⟩ => ?_)
        refine u_X13_smoothIn_12 ?_; unfold qm_X13_smoothIn_12
        rw [nI_1]
        exact aft (A.length - (m + 1)) (m + 1) y4 (by omega) (by omega) (endI hI3 g2) (bmE_eq g1 (fun j => by omega))
      | succ k ih =>
        intro m y hm hI hb
        have m1 := mono (a := m + 1) (b := c) (by omega)
        have m2 := rn_b_mono A m
        refine u_X13_smoothIn_2 ?_; unfold qm_X13_smoothIn_2
        rw [nI_1 v]
        refine w_rdF (atI hI).2.1 (w_leF (by omega) (by omega) (w_ifF (fun e => by have := (nI_eq (by omega) (by omega)).mp e; omega) (w_ifF (by decide) (c10 1 m m _ y (by omega) (by omega) (fun j hj => by omega) (fun y2 hI2 hb2 => ?_) hI hb))))
        refine u_X13_smoothIn_12 ?_; unfold qm_X13_smoothIn_12
        rw [nI_1]
        exact ih (m + 1) y2 (by omega) hI2 (bmE_eq hb2 (fun j => by omega))
    refine e_X13_smoothIn ?_
    refine u_X13_smoothIn_0 ?_; unfold qm_X13_smoothIn_0
    refine w_cs0 (bm_clear (A := A) hn) (fun z3 ⟨b3, f3⟩ => w_cs0 (tn_signs hn ho hon) (fun z4 ⟨f4, s4⟩ => ?_))
    have hI4 : I z4 := ⟨fr_tr (fr_mono (fun g hg => by omega) f3) (fr_mono (fun g hg => by omega) f4), fun x hx => by rw [s4 x hx, (f3 (o + 6) (by omega)).2.1]⟩
    refine w_rdI (pl3 ho) (nI_1 _) (by omega) (bI hI4 (by omega)) (w_leF (by omega) hone ?_)
    refine u_X13_smoothIn_1 ?_; unfold qm_X13_smoothIn_1
    exact bef c 0 z4 (by omega) hI4 (bmE_eq (bmE_fr f4 (fun g hg => by omega) b3) (fun j => ⟨fun h9 => h9.elim, fun h9 => by rw [rn_b0] at h9; omega⟩))
  · -- two components become one
    have hcJ : c < J := by
      rcases Nat.lt_or_ge c J with h9 | h9
      · exact h9
      · have := mono (a := J + 1) (b := c + 1) (by omega)
        omega
    have mJ := mono (a := c + 1) (b := J) (by omega)
    have mJ2 := rn_b_mono A J
    have aft : ∀ (k m q : Nat) (y : ow_MS), m + k = A.length → c < m → q ≤ m → I y → bmE y n A (fun j => (j < rn_b A m ∨ rn_b A J ≤ j ∧ j < rn_b A (J + 1)) ∧ j ≠ v ∧ j ≠ w) q → Tt (fun K i9 => q_X13_smoothIn K i9 2 (nI c) (nI v) (nI w) 0 (nI m) 0 0 o n 0 y) Q := by
      intro k
      induction k with
      | zero =>
        intro m q y hm hcm hq hI hb
        have hme : m = A.length := by omega
        rw [hme, rn_b_len] at hb
        refine u_X13_smoothIn_2 ?_; unfold qm_X13_smoothIn_2
        exact w_rdF (atI hI).2.1 (w_leT (by omega) (by omega) (w_ifT rfl (w_some ⟨⟨q, by omega, bmE_eq hb (fun j => by omega)⟩, hI.2, hI.1⟩)))
      | succ k ih =>
        intro m q y hm hcm hq hI hb
        have m1 := mono (a := c + 1) (b := m) (by omega)
        have m2 := rn_b_mono A m
        have m3 := hbl2 (m + 1)
        have g10 : (m < J ∨ J < m) → Tt (fun K i9 => q_X13_smoothIn K i9 10 (nI c) (nI v) (nI w) 0 (nI m) 0 0 o n 0 y) Q := by
          intro hmJ
          have hdis : rn_b A (m + 1) ≤ rn_b A J ∨ rn_b A (J + 1) ≤ rn_b A m := by
            rcases hmJ with h9 | h9
            · exact Or.inl (mono (by omega))
            · exact Or.inr (mono (by omega))
          refine c10 0 m q _ y (by omega) (by omega) (fun j hj => by omega) (fun y2 hI2 hb2 => ?_) hI hb
          refine u_X13_smoothIn_12 ?_; unfold qm_X13_smoothIn_12
          rw [nI_1]
          exact ih (m + 1) (q + 1) y2 (by omega) (by omega) (by omega) hI2 (bmE_eq hb2 (fun j => by omega))
        refine u_X13_smoothIn_2 ?_; unfold qm_X13_smoothIn_2
        refine w_rdF (atI hI).2.1 (w_leF (by omega) (by omega) (w_ifF (fun e => by have := (nI_eq (by omega) (by omega)).mp e; omega) (w_ifT rfl (w_rdI (pl3 ho) rfl (by omega) (bI hI (by omega)) (w_lt (by omega) (by omega) (fun h9 => g10 ?_) (fun h9 => w_rdI (pl3 ho) (nI_1 _) (by omega) (bI hI (by omega)) (w_lt (by omega) (by omega) (fun h8 => ?_) (fun h8 => g10 ?_))))))))
        · rcases Nat.lt_or_ge J m with h8 | h8
          · exact Or.inr h8
          · have := mono (a := m) (b := J) h8
            omega
        · have hmJ : m = J := by
            have := rn_c_of A m w h9 h8
            rw [hJ]
            exact this.symm
          refine u_X13_smoothIn_12 ?_; unfold qm_X13_smoothIn_12
          rw [nI_1]
          rw [hmJ] at hb ⊢
          exact ih (J + 1) q y (by omega) (by omega) (by omega) hI (bmE_eq hb (fun j => by omega))
        · rcases Nat.lt_or_ge m J with h7 | h7
          · exact Or.inl h7
          · have := mono (a := J + 1) (b := m + 1) (by omega)
            omega
    have l8 : ∀ (k i : Nat) (y : ow_MS), i + k = rn_b A (c + 1) → v + 1 ≤ i → I y → bm y n A (fun j => j < v ∨ rn_b A J ≤ j ∧ j < rn_b A (J + 1) ∧ j ≠ w ∨ v < j ∧ j < i) c → (∀ y2, I y2 → bm y2 n A (fun j => j < v ∨ rn_b A J ≤ j ∧ j < rn_b A (J + 1) ∧ j ≠ w ∨ v < j ∧ j < rn_b A (c + 1)) c → Tt (fun K i9 => q_X13_smoothIn K i9 9 (nI c) (nI v) (nI w) 0 (nI c) (nI J) 0 o n 0 y2) Q) → Tt (fun K i9 => q_X13_smoothIn K i9 8 (nI c) (nI v) (nI w) 0 (nI c) (nI J) (nI i) o n 0 y) Q := by
      intro k
      induction k with
      | zero =>
        intro i y hi hlo hI hb hout
        have hie : i = rn_b A (c + 1) := by omega
        rw [hie] at hb ⊢
        refine u_X13_smoothIn_8 ?_; unfold qm_X13_smoothIn_8
        exact w_rdI (pl3 ho) (nI_1 _) (by omega) (bI hI (by omega)) (w_leT (by omega) (Nat.le_refl _) (hout y hI hb))
      | succ k ih =>
        intro i y hi hlo hI hb hout
        have hil : i < A.flatten.length := by omega
        refine u_X13_smoothIn_8 ?_; unfold qm_X13_smoothIn_8
        refine w_rdI (pl3 ho) (nI_1 _) (by omega) (bI hI (by omega)) (w_leF (by omega) (by omega) (w_rdI (pl4 ho) rfl (by omega) (cuI hI hil).1 (w_rdI (pl5 ho) rfl (by omega) (cuI hI hil).2 (w_cs0 (bm_add hn (by omega) (fun j hj => by omega) (by omega) rfl rfl hb) (fun y2 ⟨g1, g2⟩ => ?_)))))
        rw [nI_1]
        exact ih (i + 1) y2 (by omega) (by omega) (addI hI g2) (bm_eq g1 (fun j => by omega)) hout
    have l7 : ∀ (k i : Nat) (y : ow_MS), i + k = w → rn_b A J ≤ i → I y → bm y n A (fun j => j < v ∨ w < j ∧ j < rn_b A (J + 1) ∨ rn_b A J ≤ j ∧ j < i) c → (∀ y2, I y2 → bm y2 n A (fun j => j < v ∨ w < j ∧ j < rn_b A (J + 1) ∨ rn_b A J ≤ j ∧ j < w) c → Tt (fun K i9 => q_X13_smoothIn K i9 8 (nI c) (nI v) (nI w) 0 (nI c) (nI J) (nI (v + 1)) o n 0 y2) Q) → Tt (fun K i9 => q_X13_smoothIn K i9 7 (nI c) (nI v) (nI w) 0 (nI c) (nI J) (nI i) o n 0 y) Q := by
      intro k
      induction k with
      | zero =>
        intro i y hi hlo hI hb hout
        have hie : i = w := by omega
        rw [hie] at hb ⊢
        refine u_X13_smoothIn_7 ?_; unfold qm_X13_smoothIn_7
        rw [nI_1 v]
        exact (w_leT (by omega) (Nat.le_refl _) (hout y hI hb))
      | succ k ih =>
        intro i y hi hlo hI hb hout
        have hil : i < A.flatten.length := by omega
        refine u_X13_smoothIn_7 ?_; unfold qm_X13_smoothIn_7
        rw [nI_1 v]
        refine (w_leF (by omega) (by omega) (w_rdI (pl4 ho) rfl (by omega) (cuI hI hil).1 (w_rdI (pl5 ho) rfl (by omega) (cuI hI hil).2 (w_cs0 (bm_add hn (by omega) (fun j hj => by omega) (by omega) rfl rfl hb) (fun y2 ⟨g1, g2⟩ => ?_)))))
        rw [nI_1]
        exact ih (i + 1) y2 (by omega) (by omega) (addI hI g2) (bm_eq g1 (fun j => by omega)) hout
    have l6 : ∀ (k i : Nat) (y : ow_MS), i + k = rn_b A (J + 1) → w + 1 ≤ i → I y → bm y n A (fun j => j < v ∨ w < j ∧ j < i) c → (∀ y2, I y2 → bm y2 n A (fun j => j < v ∨ w < j ∧ j < rn_b A (J + 1)) c → Tt (fun K i9 => q_X13_smoothIn K i9 7 (nI c) (nI v) (nI w) 0 (nI c) (nI J) (nI (rn_b A J)) o n 0 y2) Q) → Tt (fun K i9 => q_X13_smoothIn K i9 6 (nI c) (nI v) (nI w) 0 (nI c) (nI J) (nI i) o n 0 y) Q := by
      intro k
      induction k with
      | zero =>
        intro i y hi hlo hI hb hout
        have hie : i = rn_b A (J + 1) := by omega
        rw [hie] at hb ⊢
        refine u_X13_smoothIn_6 ?_; unfold qm_X13_smoothIn_6
        exact w_rdI (pl3 ho) (nI_1 _) (by omega) (bI hI (by omega)) (w_leT (by omega) (Nat.le_refl _) (w_rdI (pl3 ho) rfl (by omega) (bI hI (by omega)) (hout y hI hb)))
      | succ k ih =>
        intro i y hi hlo hI hb hout
        have hil : i < A.flatten.length := by omega
        refine u_X13_smoothIn_6 ?_; unfold qm_X13_smoothIn_6
        refine w_rdI (pl3 ho) (nI_1 _) (by omega) (bI hI (by omega)) (w_leF (by omega) (by omega) (w_rdI (pl4 ho) rfl (by omega) (cuI hI hil).1 (w_rdI (pl5 ho) rfl (by omega) (cuI hI hil).2 (w_cs0 (bm_add hn (by omega) (fun j hj => by omega) (by omega) rfl rfl hb) (fun y2 ⟨g1, g2⟩ => ?_)))))
        rw [nI_1]
        exact ih (i + 1) y2 (by omega) (by omega) (addI hI g2) (bm_eq g1 (fun j => by omega)) hout
    have l3 : ∀ (k i : Nat) (y : ow_MS), i + k = v → rn_b A c ≤ i → I y → bm y n A (fun j => j < i) c → (∀ y2, I y2 → bm y2 n A (fun j => j < v) c → Tt (fun K i9 => q_X13_smoothIn K i9 5 (nI c) (nI v) (nI w) 0 (nI c) 0 0 o n 0 y2) Q) → Tt (fun K i9 => q_X13_smoothIn K i9 3 (nI c) (nI v) (nI w) 0 (nI c) (nI i) 0 o n 0 y) Q := by
      intro k
      induction k with
      | zero =>
        intro i y hi hlo hI hb hout
        have hie : i = v := by omega
        rw [hie] at hb ⊢
        refine u_X13_smoothIn_3 ?_; unfold qm_X13_smoothIn_3
        exact w_leT (by omega) (Nat.le_refl _) (w_ifT rfl (hout y hI hb))
      | succ k ih =>
        intro i y hi hlo hI hb hout
        have hil : i < A.flatten.length := by omega
        refine u_X13_smoothIn_3 ?_; unfold qm_X13_smoothIn_3
        refine (w_leF (by omega) (by omega) (w_rdI (pl4 ho) rfl (by omega) (cuI hI hil).1 (w_rdI (pl5 ho) rfl (by omega) (cuI hI hil).2 (w_cs0 (bm_add hn (by omega) (fun j hj => by omega) (by omega) rfl rfl hb) (fun y2 ⟨g1, g2⟩ => ?_)))))
        rw [nI_1]
        exact ih (i + 1) y2 (by omega) (by omega) (addI hI g2) (bm_eq g1 (fun j => by omega)) hout
    have mid : ∀ y, I y → bm y n A (fun j => j < v) c → Tt (fun K i9 => q_X13_smoothIn K i9 6 (nI c) (nI v) (nI w) 0 (nI c) (nI J) (nI (w + 1)) o n 0 y) Q := by
      intro y hI hb
      refine l6 (rn_b A (J + 1) - (w + 1)) (w + 1) y (by omega) (Nat.le_refl _) hI (bm_eq hb (fun j => by omega)) (fun y2 hI2 hb2 => l7 (w - rn_b A J) (rn_b A J) y2 (by omega) (Nat.le_refl _) hI2 (bm_eq hb2 (fun j => by omega)) (fun y3 hI3 hb3 => l8 (rn_b A (c + 1) - (v + 1)) (v + 1) y3 (by omega) (Nat.le_refl _) hI3 (bm_eq hb3 (fun j => by omega)) (fun y4 hI4 hb4 => ?_)))
      refine u_X13_smoothIn_9 ?_; unfold qm_X13_smoothIn_9
      refine w_cs0 (bm_end hn (by omega) hb4) (fun y5 ⟨g1, g2⟩ => ?_)
      refine u_X13_smoothIn_12 ?_; unfold qm_X13_smoothIn_12
      rw [nI_1]
      exact aft (A.length - (c + 1)) (c + 1) (c + 1) y5 (by omega) (by omega) (Nat.le_refl _) (endI hI4 g2) (bmE_eq g1 (fun j => by omega))
    have l5 : ∀ (k m : Nat) (y : ow_MS), m + k = J → I y → bm y n A (fun j => j < v) c → Tt (fun K i9 => q_X13_smoothIn K i9 5 (nI c) (nI v) (nI w) 0 (nI c) (nI m) 0 o n 0 y) Q := by
      intro k
      induction k with
      | zero =>
        intro m y hm hI hb
        have hme : m = J := by omega
        rw [hme]
        refine u_X13_smoothIn_5 ?_; unfold qm_X13_smoothIn_5
        rw [nI_1 w]
        exact w_rdI (pl3 ho) (nI_1 _) (by omega) (bI hI (by omega)) (w_ltT (by omega) hJ3 (mid y hI hb))
      | succ k ih =>
        intro m y hm hI hb
        have m1 := mono (a := m + 1) (b := J) (by omega)
        refine u_X13_smoothIn_5 ?_; unfold qm_X13_smoothIn_5
        refine w_rdI (pl3 ho) (nI_1 _) (by omega) (bI hI (by omega)) (w_ltF (by omega) (by omega) ?_)
        rw [nI_1]
        exact ih (m + 1) y (by omega) hI hb
    have bef : ∀ (k m : Nat) (y : ow_MS), m + k = c → I y → bmE y n A (fun j => j < rn_b A m) m → Tt (fun K i9 => q_X13_smoothIn K i9 2 (nI c) (nI v) (nI w) 0 (nI m) 0 0 o n 0 y) Q := by
      intro k
      induction k with
      | zero =>
        intro m y hm hI hb
        have hme : m = c := by omega
        subst hme
        refine u_X13_smoothIn_2 ?_; unfold qm_X13_smoothIn_2
        exact w_rdF (atI hI).2.1 (w_leF (by omega) (by omega) (w_ifT rfl (w_rdI (pl3 ho) rfl (by omega) (bI hI (by omega)) (l3 (v - rn_b A m) (rn_b A m) y (by omega) (Nat.le_refl _) hI hb.b (fun y2 hI2 hb2 => l5 J 0 y2 (by omega) hI2 hb2)))))
      | succ k ih =>
        intro m y hm hI hb
        have m1 := mono (a := m + 1) (b := c) (by omega)
        have m2 := rn_b_mono A m
        have m3 := mono (a := m + 1) (b := J) (by omega)
        refine u_X13_smoothIn_2 ?_; unfold qm_X13_smoothIn_2
        have g10 : Tt (fun K i9 => q_X13_smoothIn K i9 10 (nI c) (nI v) (nI w) 0 (nI m) 0 0 o n 0 y) Q := by
          refine c10 0 m m _ y (by omega) (by omega) (fun j hj => by omega) (fun y2 hI2 hb2 => ?_) hI hb
          refine u_X13_smoothIn_12 ?_; unfold qm_X13_smoothIn_12
          rw [nI_1]
          exact ih (m + 1) y2 (by omega) hI2 (bmE_eq hb2 (fun j => by omega))
        exact w_rdF (atI hI).2.1 (w_leF (by omega) (by omega) (w_ifF (fun e => by have := (nI_eq (by omega) (by omega)).mp e; omega) (w_ifT rfl (w_rdI (pl3 ho) rfl (by omega) (bI hI (by omega)) (w_lt (by omega) (by omega) (fun _ => g10) (fun _ => w_rdI (pl3 ho) (nI_1 _) (by omega) (bI hI (by omega)) (w_lt (by omega) (by omega) (fun h8 => by omega) (fun _ => g10))))))))
    refine e_X13_smoothIn ?_
    refine u_X13_smoothIn_0 ?_; unfold qm_X13_smoothIn_0
    refine w_cs0 (bm_clear (A := A) hn) (fun z3 ⟨b3, f3⟩ => w_cs0 (tn_signs hn ho hon) (fun z4 ⟨f4, s4⟩ => ?_))
    have hI4 : I z4 := ⟨fr_tr (fr_mono (fun g hg => by omega) f3) (fr_mono (fun g hg => by omega) f4), fun x hx => by rw [s4 x hx, (f3 (o + 6) (by omega)).2.1]⟩
    refine w_rdI (pl3 ho) (nI_1 _) (by omega) (bI hI4 (by omega)) (w_leT (by omega) (by omega) ?_)
    refine u_X13_smoothIn_1 ?_; unfold qm_X13_smoothIn_1
    exact bef c 0 z4 (by omega) hI4 (bmE_eq (bmE_fr f4 (fun g hg => by omega) b3) (fun j => ⟨fun h9 => h9.elim, fun h9 => by rw [rn_b0] at h9; omega⟩))
end
section
/-! 99zzp.pubC -/
/-! public methods of the reference: smooth, apart, join -/
section PUBC
variable {X : (Nat → Nat → Int32) → Prop} {z : ow_MS}
theorem ok_has {A : rn_L} {c x : Nat} (h : okF A.flatten c) (hx : x < c) : ∃ t, t < A.flatten.length ∧ crs A t = x := by
  have hm := (h.2 (x, 0)).mpr ⟨hx, by simp⟩
  obtain ⟨t, ht, e⟩ := List.getElem_of_mem hm
  refine ⟨t, ht, ?_⟩
  unfold crs
  rw [vAt_eq (List.getElem?_eq_getElem ht), e]
theorem crs_mtf {A : rn_L} {v : Nat} (hd : rn_ok A.flatten) (hv : v < A.flatten.length) : crs A (mtf A v) = crs A v := by
  obtain ⟨-, p, q, h1, h2, h3⟩ := mtf_mt hd hv
  unfold crs
  rw [vAt_eq h1, vAt_eq h2, h3]
theorem mtf_ne {A : rn_L} {v : Nat} (hd : rn_ok A.flatten) (hv : v < A.flatten.length) : mtf A v ≠ v := fun e => (mtf_mt hd hv).1 e.symm
/-- what smoothIn makes may be kept -/
theorem sm_net {z2 z3 : ow_MS} {A : rn_L} {sg : Nat → Bool} {v q : Nat} (o1 : oNet z2 1000 A sg) (hv : v < A.flatten.length) (hq : q ≤ 6) (s3 : ∀ x, x < 40 → z3.2.1 3006 x = z2.2.1 1006 x) (b3 : bmE z3 3000 A (fun j => j < A.flatten.length ∧ j ≠ v ∧ j ≠ mtf A v) q) : mNet z3 3000 := by
  have hd := wkF_ok o1.wk
  have hc : ∀ j, (j < A.flatten.length ∧ j ≠ v ∧ j ≠ mtf A v) → mtf A j < A.flatten.length ∧ mtf A j ≠ v ∧ mtf A j ≠ mtf A v := by
    intro j hj
    refine ⟨mtf_lt hd hj.1, fun e9 => ?_, fun e9 => ?_⟩
    · have := mtf_mtf hd hj.1
      rw [e9] at this
      exact hj.2.2 this.symm
    · have h5 := mtf_mtf hd hj.1
      rw [e9, mtf_mtf hd hv] at h5
      exact hj.2.1 h5.symm
  have hs : ∀ j, (j < A.flatten.length ∧ j ≠ v ∧ j ≠ mtf A v) → s1 (z3.2.1 (3000 + 6) (crs A j)) := by
    intro j hj
    obtain ⟨x1, x2, x3⟩ := o1.cx hj.1
    show s1 (z3.2.1 3006 (crs A j))
    rw [s3 _ (by omega)]
    exact s1_if x3
  exact bmE_net o1.wk o1.len hq (fun j hj => hj.1) hc hs b3
theorem e_X13_smooth {x1 : Int32} {x2 : Int32} {z : ow_MS} {Q : (Int32 × ow_MS) → Prop} (H : Tt (fun K k => q_X13_smooth K k 0 x1 x2 0 z) Q) : Te (fun K => qe_X13_smooth K x1 x2 z) Q := w_te H
theorem u_X13_smooth_0 {x1 : Int32} {x2 : Int32} {x3 : Int32} {z : ow_MS} {Q : (Int32 × ow_MS) → Prop} (H : Tt (fun K k => qm_X13_smooth_0 K (q_X13_smooth K k) x1 x2 x3 z) Q) : Tt (fun K k => q_X13_smooth K k 0 x1 x2 x3 z) Q := w_un (fun _ _ => rfl) H
theorem u_X13_smooth_1 {x1 : Int32} {x2 : Int32} {x3 : Int32} {z : ow_MS} {Q : (Int32 × ow_MS) → Prop} (H : Tt (fun K k => qm_X13_smooth_1 K (q_X13_smooth K k) x1 x2 x3 z) Q) : Tt (fun K k => q_X13_smooth K k 1 x1 x2 x3 z) Q := w_un (fun _ _ => rfl) H
theorem u_X13_smooth_2 {x1 : Int32} {x2 : Int32} {x3 : Int32} {z : ow_MS} {Q : (Int32 × ow_MS) → Prop} (H : Tt (fun K k => qm_X13_smooth_2 K (q_X13_smooth K k) x1 x2 x3 z) Q) : Tt (fun K k => q_X13_smooth K k 2 x1 x2 x3 z) Q := w_un (fun _ _ => rfl) H
theorem tp_smooth {d x : Int32} (h : gI X z) : Te (fun K => qe_X13_smooth K d x z) (fun r => gI X r.2) := by
  have h1 := gI_1 (c := 0) h
  refine e_X13_smooth ?_
  refine u_X13_smooth_0 ?_; unfold qm_X13_smooth_0
  refine w_wrF (w_has h1.2.1 (w_ifT rfl (w_fail h1)) (fun e A sg he hx hv hne => w_ifF (by decide) ?_))
  subst hx
  refine w_cs0 (to_open pn1 he hv) (fun z2 ⟨o1, f1⟩ => ?_)
  have h2 : gI X z2 := gI_net pn1 f1 (fun g hg => by omega) h1
  have hl := o1.len
  have hC := o1.2.2.2
  have hd := wkF_ok o1.wk
  have c1 : Tt (fun K k => q_X13_smooth K k 1 (nI e) x 0 z2) (fun r => gI X r.2) := by
    refine u_X13_smooth_1 ?_; unfold qm_X13_smooth_1
    exact w_fail h2
  refine w_if (fun _ => c1) (fun h0 => w_rdF o1.1.V (w_nzI (by decide) ?_))
  rw [show nI A.flatten.length / 2 = nI (A.flatten.length / 2) from pk_div (d := 2) (by omega) (by omega) (by omega)]
  refine w_if (fun h9 => ?_) (fun _ => c1)
  obtain ⟨y, hy31, rfl⟩ := nI_of h0
  have hy : y < A.flatten.length / 2 := (nI_ltI hy31 (by omega)).mp h9
  obtain ⟨c, hok, hc12⟩ := o1.2.2.1
  have hVc := okF_len hok
  obtain ⟨t, ht1, ht2⟩ := ok_has hok (x := y) (by omega)
  have find : ∀ (k v : Nat), v + k = t → (∀ j, j < v → crs A j ≠ y) → Tt (fun K i => q_X13_smooth K i 2 (nI e) (nI y) (nI v) z2) (fun r => gI X r.2) := by
    intro k
    induction k with
    | zero =>
      intro v hv9 hall
      have hvt : v = t := by omega
      subst hvt
      obtain ⟨g1, g2, g3⟩ := rn_c_in A v ht1
      have hml := mtf_lt hd ht1
      have hmc := crs_mtf hd ht1
      have hmn := mtf_ne hd ht1
      have hvm : v < mtf A v := by
        rcases Nat.lt_or_ge (mtf A v) v with h8 | h8
        · exact absurd (hmc.trans ht2) (hall _ h8)
        · omega
      refine u_X13_smooth_2 ?_; unfold qm_X13_smooth_2
      refine w_rdI (pl4 pn1) rfl (by omega) (lk_cu o1.1 ht1).1 (w_ifT (by rw [ht2]) (w_rdI (pl8 pn1) rfl (by omega) (lk_c o1.1 ht1) (w_rdI (pl7 pn1) rfl (by omega) (lk_m hd o1.1 ht1) (w_cs0 (tp_smoothIn pn1 pn3 (by omega) hl (by omega) o1.1.1 g1 g2 g3 hvm hml) (fun z3 ⟨⟨q, hq, b3⟩, s3, f3⟩ => ?_)))))
      have h3 : gI X z3 := gI_net pn3 f3 (fun g hg => by omega) h2
      have hq3 : z3.1 3002 = nI q := by
        obtain ⟨C, k1, k2, -⟩ := b3
        rw [k2.2.1, List.length_map, k1]
      refine w_rdF hq3 (w_le (b := 6) (by omega) (by omega) (fun h8 => w_free (w_ifT rfl (w_fail h3)) (fun f hf hfr => w_ifF (rn_neg1 (by omega)) (w_keep h3 hfr (sm_net o1 ht1 h8 s3 b3)))) (fun h8 => w_fail h3))
    | succ k ih =>
      intro v hv9 hall
      have hvl : v < A.flatten.length := by omega
      by_cases hcv : crs A v = y
      · have hvt : v < t := by omega
        -- the first visit is found before t
        obtain ⟨g1, g2, g3⟩ := rn_c_in A v hvl
        have hml := mtf_lt hd hvl
        have hmc := crs_mtf hd hvl
        have hmn := mtf_ne hd hvl
        have hvm : v < mtf A v := by
          rcases Nat.lt_or_ge (mtf A v) v with h8 | h8
          · exact absurd (hmc.trans hcv) (hall _ h8)
          · omega
        refine u_X13_smooth_2 ?_; unfold qm_X13_smooth_2
        refine w_rdI (pl4 pn1) rfl (by omega) (lk_cu o1.1 hvl).1 (w_ifT (by rw [hcv]) (w_rdI (pl8 pn1) rfl (by omega) (lk_c o1.1 hvl) (w_rdI (pl7 pn1) rfl (by omega) (lk_m hd o1.1 hvl) (w_cs0 (tp_smoothIn pn1 pn3 (by omega) hl (by omega) o1.1.1 g1 g2 g3 hvm hml) (fun z3 ⟨⟨q, hq, b3⟩, s3, f3⟩ => ?_)))))
        have h3 : gI X z3 := gI_net pn3 f3 (fun g hg => by omega) h2
        have hq3 : z3.1 3002 = nI q := by
          obtain ⟨C, k1, k2, -⟩ := b3
          rw [k2.2.1, List.length_map, k1]
        refine w_rdF hq3 (w_le (b := 6) (by omega) (by omega) (fun h8 => w_free (w_ifT rfl (w_fail h3)) (fun f hf hfr => w_ifF (rn_neg1 (by omega)) (w_keep h3 hfr (sm_net o1 hvl h8 s3 b3)))) (fun h8 => w_fail h3))
      · have hx12 := (o1.cx hvl).1
        refine u_X13_smooth_2 ?_; unfold qm_X13_smooth_2
        refine w_rdI (pl4 pn1) rfl (by omega) (lk_cu o1.1 hvl).1 (w_ifF (fun e9 => hcv ((nI_eq (by omega) (by omega)).mp e9)) ?_)
        rw [nI_1]
        refine ih (v + 1) (by omega) (fun j hj => ?_)
        by_cases hjv : j = v
        · rw [hjv]; exact hcv
        · exact hall j (by omega)
  exact find t 0 (by omega) (fun j hj => by omega)
/-! two nets side by side -/
def A12 (A B : rn_L) (s : Nat) : rn_L := A ++ shN s B
theorem A12_len {A B : rn_L} {s : Nat} : (A12 A B s).flatten.length = A.flatten.length + B.flatten.length := by
  unfold A12
  rw [List.flatten_append, List.length_append, shN_fl, List.length_map]
theorem A12_l {A B : rn_L} {s i : Nat} (hi : i < A.flatten.length) : vAt (A12 A B s) i = vAt A i := by
  refine vAt_eq ?_
  unfold A12
  rw [List.flatten_append, List.getElem?_append_left hi]
  exact vAt_of hi
theorem A12_r {A B : rn_L} {s i : Nat} (hi : i < B.flatten.length) : vAt (A12 A B s) (A.flatten.length + i) = ((vAt B i).1 + s, (vAt B i).2) := by
  refine vAt_eq ?_
  unfold A12
  rw [List.flatten_append, List.getElem?_append_right (by omega), Nat.add_sub_cancel_left, shN_fl, List.getElem?_map, vAt_of hi]
  rfl
theorem A12_ok {A B : rn_L} {a b : Nat} (hA : okF A.flatten a) (hB : okF B.flatten b) : okF (A12 A B a).flatten (a + b) := by
  have h1 : okB A.flatten 0 a := ⟨hA.1, fun p => by rw [hA.2]; omega⟩
  have h2 : okB (shN a B).flatten (0 + a) b := by rw [Nat.zero_add]; exact okF_sh hB
  have h3 := okB_app h1 h2
  unfold A12
  rw [List.flatten_append]
  exact ⟨h3.1, fun p => by rw [h3.2]; omega⟩
theorem u_X13_addNet_3 {x2 : Int32} {x3 : Int32} {x4 : Int32} {r1 : Nat} {z : ow_MS} {Q : ow_MS → Prop} (H : Tt (fun K k => qm_X13_addNet_3 K (q_X13_addNet K k) x2 x3 x4 r1 z) Q) : Tt (fun K k => q_X13_addNet K k 3 x2 x3 x4 r1 z) Q := w_un (fun _ _ => rfl) H
theorem u_X13_addNet_1 {x2 : Int32} {x3 : Int32} {x4 : Int32} {r1 : Nat} {z : ow_MS} {Q : ow_MS → Prop} (H : Tt (fun K k => qm_X13_addNet_1 K (q_X13_addNet K k) x2 x3 x4 r1 z) Q) : Tt (fun K k => q_X13_addNet K k 1 x2 x3 x4 r1 z) Q := w_un (fun _ _ => rfl) H
theorem u_X13_addNet_2 {x2 : Int32} {x3 : Int32} {x4 : Int32} {r1 : Nat} {z : ow_MS} {Q : ow_MS → Prop} (H : Tt (fun K k => qm_X13_addNet_2 K (q_X13_addNet K k) x2 x3 x4 r1 z) Q) : Tt (fun K k => q_X13_addNet K k 2 x2 x3 x4 r1 z) Q := w_un (fun _ _ => rfl) H
theorem e_X13_addNet {r1 : Nat} {x2 : Int32} {z : ow_MS} {Q : ow_MS → Prop} (H : Tt (fun K k => q_X13_addNet K k 0 x2 0 0 r1 z) Q) : Te (fun K => qe_X13_addNet K r1 x2 z) Q := w_te H
theorem u_X13_addNet_0 {x2 : Int32} {x3 : Int32} {x4 : Int32} {r1 : Nat} {z : ow_MS} {Q : ow_MS → Prop} (H : Tt (fun K k => qm_X13_addNet_0 K (q_X13_addNet K k) x2 x3 x4 r1 z) Q) : Tt (fun K k => q_X13_addNet K k 0 x2 x3 x4 r1 z) Q := w_un (fun _ _ => rfl) H
theorem tp_addNet {o s q V0 c : Nat} {z : ow_MS} {A B : rn_L} {sg : Nat → Bool} (ho : mw_net o) (hon : o ≠ 3000) (hO : oNet z o B sg) (hok : okF B.flatten c) (hl : (A12 A B s).flatten.length ≤ 24) (hq : q + B.length ≤ 12) (hs : s + c ≤ 24) (hV : V0 = A.flatten.length) (hb : bmE z 3000 (A12 A B s) (fun j => j < V0) q) : Te (fun K => qe_X13_addNet K o (nI s) z) (fun z1 => bmE z1 3000 (A12 A B s) (fun j => j < (A12 A B s).flatten.length) (q + B.length) ∧ fr (fun g => 3001 ≤ g ∧ g ≤ 3006) z z1 ∧ (∀ x, x < c → z1.2.1 3006 (x + s) = z.2.1 (o + 6) x) ∧ ∀ x, x < s → z1.2.1 3006 x = z.2.1 3006 x) := by
  have hmo := net_mod ho
  have hlen := A12_len (A := A) (B := B) (s := s)
  have hBc := okF_len hok
  have oY : ∀ {y : ow_MS}, fr (fun g => 3001 ≤ g ∧ g ≤ 3006) z y → oNet y o B sg := fun hf => oNet_fr hf (fun g hg => by omega) hO
  let Q : ow_MS → Prop := fun z1 => bmE z1 3000 (A12 A B s) (fun j => j < (A12 A B s).flatten.length) (q + B.length) ∧ fr (fun g => 3001 ≤ g ∧ g ≤ 3006) z z1 ∧ (∀ x, x < c → z1.2.1 3006 (x + s) = z.2.1 (o + 6) x) ∧ ∀ x, x < s → z1.2.1 3006 x = z.2.1 3006 x
  have l3 : ∀ (k x : Nat) (y : ow_MS), x + k = c → fr (fun g => 3001 ≤ g ∧ g ≤ 3006) z y → bmE y 3000 (A12 A B s) (fun j => j < (A12 A B s).flatten.length) (q + B.length) → (∀ x', x' < x → y.2.1 3006 (x' + s) = z.2.1 (o + 6) x') → (∀ x, x < s → y.2.1 3006 x = z.2.1 3006 x) → Tt (fun K i => q_X13_addNet K i 3 (nI s) (nI x) 0 o y) Q := by
    intro k
    induction k with
    | zero =>
      intro x y hx hf hb h1 h2
      refine u_X13_addNet_3 ?_; unfold qm_X13_addNet_3
      refine w_rdF (oY hf).1.V (w_nzI (by decide) ?_)
      rw [show nI B.flatten.length / 2 = nI (B.flatten.length / 2) from pk_div (d := 2) (by omega) (by omega) (by omega)]
      exact w_leT (by omega) (by omega) (w_some ⟨hb, hf, fun x' hx' => h1 x' (by omega), h2⟩)
    | succ k ih =>
      intro x y hx hf hb h1 h2
      refine u_X13_addNet_3 ?_; unfold qm_X13_addNet_3
      refine w_rdF (oY hf).1.V (w_nzI (by decide) ?_)
      rw [show nI B.flatten.length / 2 = nI (B.flatten.length / 2) from pk_div (d := 2) (by omega) (by omega) (by omega), nI_add, nI_1]
      refine w_leF (by omega) (by omega) (w_rdI (pl6 ho) rfl (by omega) rfl (w_wrI (pl6 pn3) rfl (by omega) ?_))
      refine ih (x + 1) _ (by omega) (fr_I2 hf (by omega)) (bmE_fr (F := fun g => g = 3006) (fr_I rfl) (fun g hg => by omega) hb) (fun x' hx' => ?_) (fun x' hx' => rd_ne (by omega) (h2 x' hx'))
      by_cases he : x' = x
      · rw [he]
        show (usI y 3006 (x + s) (y.2.1 (o + 6) x)).2.1 3006 (x + s) = _
        rw [po_usI_at, (hf (o + 6) (by omega)).2.1]
      · exact rd_ne (by omega) (h1 x' (by omega))
  have out : ∀ (k m : Nat) (y : ow_MS), m + k = B.length → fr (fun g => 3001 ≤ g ∧ g ≤ 3006) z y → y.2.1 3006 = z.2.1 3006 → bmE y 3000 (A12 A B s) (fun j => j < V0 + rn_b B m) (q + m) → Tt (fun K i => q_X13_addNet K i 1 (nI s) (nI m) 0 o y) Q := by
    intro k
    induction k with
    | zero =>
      intro m y hm hf h6 hb
      have hme : m = B.length := by omega
      rw [hme, rn_b_len] at hb
      refine u_X13_addNet_1 ?_; unfold qm_X13_addNet_1
      exact w_rdF (lk_C (oY hf).1) (w_leT (by omega) (by omega) (l3 c 0 y (by omega) hf (bmE_eq hb (fun j => by omega)) (fun x hx => by omega) (fun x _ => by rw [h6])))
    | succ k ih =>
      intro m y hm hf h6 hb
      have hmono := rn_b_mono B m
      have hble := rn_b_le B (m + 1)
      have inn : ∀ (k i : Nat) (y : ow_MS), i + k = rn_b B (m + 1) → rn_b B m ≤ i → fr (fun g => 3001 ≤ g ∧ g ≤ 3006) z y → y.2.1 3006 = z.2.1 3006 → bm y 3000 (A12 A B s) (fun j => j < V0 + i) (q + m) → Tt (fun K i9 => q_X13_addNet K i9 2 (nI s) (nI m) (nI i) o y) Q := by
        intro k
        induction k with
        | zero =>
          intro i y hi hlo hf h6 hb
          have hie : i = rn_b B (m + 1) := by omega
          rw [hie] at hb ⊢
          refine u_X13_addNet_2 ?_; unfold qm_X13_addNet_2
          rw [nI_1]
          exact w_rdI (pl3 ho) rfl (by omega) (lk_b (oY hf).1 (by omega)) (w_leT (by omega) (Nat.le_refl _) (w_cs0 (bm_end pn3 (by omega) hb) (fun y2 ⟨g1, g2⟩ => ih (m + 1) y2 (by omega) (fr_tr hf (fr_mono (fun g hg => by omega) g2)) (by rw [(g2 3006 (by omega)).2.1]; exact h6) g1)))
        | succ k ihk =>
          intro i y hi hlo hf h6 hb
          have hil : i < B.flatten.length := by omega
          have ev := A12_r (A := A) (s := s) hil
          refine u_X13_addNet_2 ?_; unfold qm_X13_addNet_2
          rw [nI_1]
          refine w_rdI (pl3 ho) rfl (by omega) (lk_b (oY hf).1 (by omega)) (w_leF (by omega) (by omega) (w_rdI (pl4 ho) rfl (by omega) (lk_cu (oY hf).1 hil).1 (w_rdI (pl5 ho) rfl (by omega) (lk_cu (oY hf).1 hil).2 (w_cs0 (bm_add (i := V0 + i) pn3 (by omega) (fun j hj => by omega) (by omega) ?_ ?_ hb) (fun y2 ⟨g1, g2⟩ => ?_)))))
          · rw [nI_add]
            show _ = nI (vAt (A12 A B s) (V0 + i)).1
            rw [hV, ev]
            rfl
          · show _ = nI (vAt (A12 A B s) (V0 + i)).2
            rw [hV, ev]
            rfl
          · rw [nI_1]
            exact ihk (i + 1) y2 (by omega) (by omega) (fr_tr hf (fr_mono (fun g hg => by omega) g2)) (by rw [(g2 3006 (by omega)).2.1]; exact h6) (bm_eq g1 (fun j => by omega))
      refine u_X13_addNet_1 ?_; unfold qm_X13_addNet_1
      exact w_rdF (lk_C (oY hf).1) (w_leF (by omega) (by omega) (w_rdI (pl3 ho) rfl (by omega) (lk_b (oY hf).1 (by omega)) (inn _ (rn_b B m) y (by omega : rn_b B m + (rn_b B (m + 1) - rn_b B m) = _) (Nat.le_refl _) hf h6 hb.b)))
  refine e_X13_addNet ?_
  refine u_X13_addNet_0 ?_; unfold qm_X13_addNet_0
  exact out B.length 0 z (by omega) fr_rf rfl (bmE_eq hb (fun j => by rw [rn_b0]; omega))
theorem u_X13_apart_1 {x1 : Int32} {x2 : Int32} {z : ow_MS} {Q : (Int32 × ow_MS) → Prop} (H : Tt (fun K k => qm_X13_apart_1 K (q_X13_apart K k) x1 x2 z) Q) : Tt (fun K k => q_X13_apart K k 1 x1 x2 z) Q := w_un (fun _ _ => rfl) H
theorem u_X13_apart_2 {x1 : Int32} {x2 : Int32} {z : ow_MS} {Q : (Int32 × ow_MS) → Prop} (H : Tt (fun K k => qm_X13_apart_2 K (q_X13_apart K k) x1 x2 z) Q) : Tt (fun K k => q_X13_apart K k 2 x1 x2 z) Q := w_un (fun _ _ => rfl) H
theorem e_X13_apart {x1 : Int32} {x2 : Int32} {z : ow_MS} {Q : (Int32 × ow_MS) → Prop} (H : Tt (fun K k => q_X13_apart K k 0 x1 x2 z) Q) : Te (fun K => qe_X13_apart K x1 x2 z) Q := w_te H
theorem u_X13_apart_0 {x1 : Int32} {x2 : Int32} {z : ow_MS} {Q : (Int32 × ow_MS) → Prop} (H : Tt (fun K k => qm_X13_apart_0 K (q_X13_apart K k) x1 x2 z) Q) : Tt (fun K k => q_X13_apart K k 0 x1 x2 z) Q := w_un (fun _ _ => rfl) H
theorem tp_apart {d e : Int32} (h : gI X z) : Te (fun K => qe_X13_apart K d e z) (fun r => gI X r.2) := by
  have h1 := gI_1 (c := 0) h
  have c1 : ∀ y, gI X y → Tt (fun K k => q_X13_apart K k 1 d e y) (fun r => gI X r.2) := by
    intro y hy
    refine u_X13_apart_1 ?_; unfold qm_X13_apart_1
    exact w_fail hy
  have c2 : ∀ y, gI X y → Tt (fun K k => q_X13_apart K k 2 d e y) (fun r => gI X r.2) := by
    intro y hy
    refine u_X13_apart_2 ?_; unfold qm_X13_apart_2
    exact w_fail hy
  refine e_X13_apart ?_
  refine u_X13_apart_0 ?_; unfold qm_X13_apart_0
  refine w_wrF (w_has h1.2.1 (w_ifT rfl (c1 _ h1)) (fun d9 A sg hd9 hx hv hne => w_ifF (by decide) (w_has h1.2.1 (w_ifT rfl (c1 _ h1)) (fun e9 B sg2 he9 hy hw hne2 => w_ifF (by decide) ?_))))
  subst hx
  subst hy
  refine w_cs0 (to_open pn1 hd9 hv) (fun z2 ⟨o1, f1⟩ => ?_)
  have h2 : gI X z2 := gI_net pn1 f1 (fun g hg => by omega) h1
  have hw2 : vRow z2 12 (32 * e9) B sg2 := ⟨rc_fr f1 (by omega) hw.1, hw.2⟩
  refine w_cs0 (to_open pn2 he9 hw2) (fun z3 ⟨o2, f2⟩ => ?_)
  have h3 : gI X z3 := gI_net pn2 f2 (fun g hg => by omega) h2
  have o1' := oNet_fr f2 (fun g hg => by omega) o1
  have l1 := o1.len
  have l2 := o2.len
  have k1 := o1.2.2.2
  have k2 := o2.2.2.2
  obtain ⟨a, ha, ha12⟩ := o1.2.2.1
  obtain ⟨b, hb, hb12⟩ := o2.2.2.1
  have hVa := okF_len ha
  have hVb := okF_len hb
  refine w_rdF o1'.1.V (w_rdF o2.1.V ?_)
  rw [nI_add]
  refine w_lt (a := 24) (by omega) (by omega) (fun _ => c2 _ h3) (fun h24 => w_rdF (lk_C o1'.1) (w_rdF (lk_C o2.1) ?_))
  rw [nI_add]
  refine w_le (b := 6) (by omega) (by omega) (fun h6 => w_free (w_ifT rfl (w_fail h3)) (fun f hf hfr => w_ifF (rn_neg1 (by omega)) (w_cs0 (bm_clear (A := A12 [] A 0) pn3) (fun z4 ⟨b4, f4⟩ => ?_)))) (fun _ => c2 _ h3)
  have o4 := oNet_fr f4 (fun g hg => by omega) o1'
  have o4b := oNet_fr f4 (fun g hg => by omega) o2
  refine w_cs0 (tp_addNet (A := []) (s := 0) (q := 0) (V0 := 0) pn1 (by omega) o4 ha (by rw [A12_len]; show 0 + _ ≤ _; omega) (by omega) (by omega) rfl (bmE_eq b4 (fun j => ⟨fun h9 => h9.elim, fun h9 => by omega⟩))) (fun z5 ⟨b5, f5, s5, _⟩ => ?_)
  have o5 := oNet_fr f5 (fun g hg => by omega) o4
  have o5b := oNet_fr f5 (fun g hg => by omega) o4b
  have hb5 : bmE z5 3000 (A12 A B a) (fun j => j < A.flatten.length) A.length := by
    obtain ⟨C, q1, q2, q3, q4⟩ := b5
    have hmem : ∀ j, j ∈ C.flatten → j < A.flatten.length := fun j hj => by
      have := (q4 j).mp hj
      rw [A12_len] at this
      have h0 : ([] : rn_L).flatten.length = 0 := rfl
      omega
    have ev : ∀ j, j < A.flatten.length → vAt (A12 [] A 0) j = vAt (A12 A B a) j := fun j hj => by
      have e1 := A12_r (A := []) (B := A) (s := 0) hj
      have h0 : ([] : rn_L).flatten.length + j = j := Nat.zero_add j
      rw [h0] at e1
      rw [e1, A12_l hj]
      rfl
    have em : C.map (List.map (vAt (A12 [] A 0))) = C.map (List.map (vAt (A12 A B a))) := List.map_congr_left (fun l hl => List.map_congr_left (fun j hj => ev j (hmem j (List.mem_flatten.mpr ⟨l, hl, hj⟩))))
    rw [em] at q2
    refine ⟨C, by omega, q2, q3, fun j => ?_⟩
    rw [q4 j, A12_len]
    have h0 : ([] : rn_L).flatten.length = 0 := rfl
    omega
  refine w_rdF o5.1.V (w_nzI (by decide) ?_)
  rw [show nI A.flatten.length / 2 = nI a from by rw [show nI A.flatten.length / 2 = nI (A.flatten.length / 2) from pk_div (d := 2) (by omega) (by omega) (by omega)]; congr 1; omega]
  refine w_cs0 (tp_addNet (A := A) (s := a) (q := A.length) (V0 := A.flatten.length) pn2 (by omega) o5b hb (by rw [A12_len]; omega) (by omega) (by omega) rfl hb5) (fun z6 ⟨b6, f6, s6, t6⟩ => ?_)
  have F36 : fr (fun g => 3001 ≤ g ∧ g ≤ 3006) z3 z6 := fr_tr (fr_mono (fun g hg => by omega) f4) (fr_tr f5 f6)
  have ok12 := A12_ok ha hb
  have wk12 := okF_wk (by omega) ok12
  refine w_keep (gI_net pn3 F36 (fun g hg => by omega) h3) (frD_eq (F36 12 (by omega)).2.1 hfr) (bmE_net wk12 (by rw [A12_len]; omega) h6 (fun j hj => hj) (fun j hj => mtf_lt (wkF_ok wk12) hj) (fun j hj => ?_) b6)
  rw [A12_len] at hj
  by_cases hja : j < A.flatten.length
  · have e1 : crs (A12 A B a) j = crs A j := by unfold crs; rw [A12_l hja]
    obtain ⟨x1, x2, x3⟩ := o4.cx hja
    have hca : crs A j < a := ((ha.2 _).mp (List.mem_of_getElem? (vAt_of hja))).1
    rw [e1]
    show s1 (z6.2.1 3006 (crs A j))
    rw [t6 _ hca]
    have := s5 _ hca
    rw [Nat.add_zero] at this
    rw [this]
    exact s1_if x3
  · obtain ⟨i, rfl⟩ : ∃ i, j = A.flatten.length + i := ⟨j - A.flatten.length, by omega⟩
    have hib : i < B.flatten.length := by omega
    have e1 : crs (A12 A B a) (A.flatten.length + i) = crs B i + a := by unfold crs; rw [A12_r hib]
    obtain ⟨x1, x2, x3⟩ := o5b.cx hib
    have hcb : crs B i < b := ((hb.2 _).mp (List.mem_of_getElem? (vAt_of hib))).1
    rw [e1]
    show s1 (z6.2.1 3006 (crs B i + a))
    rw [s6 _ hcb]
    exact s1_if x3
end PUBC
end
section
/-! 99zzq.join -/
/-! join -/
theorem rv_len {A : rn_L} {s : Nat} (hs : s < A.flatten.length) : rv A s (rlen A (rn_c A s)) = s := by
  obtain ⟨h1, h2, h3⟩ := rn_c_in A s hs
  unfold rv
  unfold rlen
  rw [if_neg (by omega)]
  omega
theorem rv_inj {A : rn_L} {s i j : Nat} (hs : s < A.flatten.length) (h1 : i < j) (h0 : 1 ≤ i) (h2 : j ≤ rlen A (rn_c A s)) : rv A s i ≠ rv A s j := by
  obtain ⟨a1, a2, a3⟩ := rn_c_in A s hs
  unfold rv
  unfold rlen at h2 ⊢
  by_cases c1 : s + i < rn_b A (rn_c A s + 1)
  · by_cases c2 : s + j < rn_b A (rn_c A s + 1)
    · rw [if_pos c1, if_pos c2]; omega
    · rw [if_pos c1, if_neg c2]; omega
  · by_cases c2 : s + j < rn_b A (rn_c A s + 1)
    · rw [if_neg c1, if_pos c2]; omega
    · rw [if_neg c1, if_neg c2]; omega
theorem rv_in2 {A : rn_L} {s j : Nat} (hs : s < A.flatten.length) (hj : j ≤ rlen A (rn_c A s)) : rn_b A (rn_c A s) ≤ rv A s j ∧ rv A s j < rn_b A (rn_c A s + 1) := by
  rcases Nat.lt_or_ge j (rlen A (rn_c A s)) with h | h
  · exact rv_in hs h
  · have : j = rlen A (rn_c A s) := by omega
    rw [this, rv_len hs]
    exact (rn_c_in A s hs).2
theorem rv_sur {A : rn_L} {s v : Nat} (hs : s < A.flatten.length) (h1 : rn_b A (rn_c A s) ≤ v) (h2 : v < rn_b A (rn_c A s + 1)) : ∃ j, 1 ≤ j ∧ j ≤ rlen A (rn_c A s) ∧ v = rv A s j := by
  obtain ⟨a1, a2, a3⟩ := rn_c_in A s hs
  have hv : v < A.flatten.length := by have := rn_b_le A (rn_c A s + 1); omega
  obtain ⟨j, hj, e⟩ := rgl_mem (rgl_all hs hv (rn_c_of A _ v h1 h2))
  by_cases h0 : j = 0
  · refine ⟨rlen A (rn_c A s), rlen_pos hs, Nat.le_refl _, ?_⟩
    rw [rv_len hs, e, h0, rv_0 hs]
  · exact ⟨j, by omega, by omega, e⟩
section PUBJ
variable {X : (Nat → Nat → Int32) → Prop} {z : ow_MS}
theorem u_X13_join_1 {x1 : Int32} {x2 : Int32} {x3 : Int32} {x4 : Int32} {x5 : Int32} {x6 : Int32} {x7 : Int32} {x8 : Int32} {t0 : Int32} {t1 : Int32} {z : ow_MS} {Q : (Int32 × ow_MS) → Prop} (H : Tt (fun K k => qm_X13_join_1 K (q_X13_join K k) x1 x2 x3 x4 x5 x6 x7 x8 t0 t1 z) Q) : Tt (fun K k => q_X13_join K k 1 x1 x2 x3 x4 x5 x6 x7 x8 t0 t1 z) Q := w_un (fun _ _ => rfl) H
theorem u_X13_join_2 {x1 : Int32} {x2 : Int32} {x3 : Int32} {x4 : Int32} {x5 : Int32} {x6 : Int32} {x7 : Int32} {x8 : Int32} {t0 : Int32} {t1 : Int32} {z : ow_MS} {Q : (Int32 × ow_MS) → Prop} (H : Tt (fun K k => qm_X13_join_2 K (q_X13_join K k) x1 x2 x3 x4 x5 x6 x7 x8 t0 t1 z) Q) : Tt (fun K k => q_X13_join K k 2 x1 x2 x3 x4 x5 x6 x7 x8 t0 t1 z) Q := w_un (fun _ _ => rfl) H
theorem u_X13_join_3 {x1 : Int32} {x2 : Int32} {x3 : Int32} {x4 : Int32} {x5 : Int32} {x6 : Int32} {x7 : Int32} {x8 : Int32} {t0 : Int32} {t1 : Int32} {z : ow_MS} {Q : (Int32 × ow_MS) → Prop} (H : Tt (fun K k => qm_X13_join_3 K (q_X13_join K k) x1 x2 x3 x4 x5 x6 x7 x8 t0 t1 z) Q) : Tt (fun K k => q_X13_join K k 3 x1 x2 x3 x4 x5 x6 x7 x8 t0 t1 z) Q := w_un (fun _ _ => rfl) H
theorem e_X13_join {x1 : Int32} {x2 : Int32} {x3 : Int32} {x4 : Int32} {z : ow_MS} {Q : (Int32 × ow_MS) → Prop} (H : Tt (fun K k => q_X13_join K k 0 x1 x2 x3 x4 0 0 0 0 0 0 z) Q) : Te (fun K => qe_X13_join K x1 x2 x3 x4 z) Q := w_te H
theorem u_X13_join_0 {x1 : Int32} {x2 : Int32} {x3 : Int32} {x4 : Int32} {x5 : Int32} {x6 : Int32} {x7 : Int32} {x8 : Int32} {t0 : Int32} {t1 : Int32} {z : ow_MS} {Q : (Int32 × ow_MS) → Prop} (H : Tt (fun K k => qm_X13_join_0 K (q_X13_join K k) x1 x2 x3 x4 x5 x6 x7 x8 t0 t1 z) Q) : Tt (fun K k => q_X13_join K k 0 x1 x2 x3 x4 x5 x6 x7 x8 t0 t1 z) Q := w_un (fun _ _ => rfl) H
theorem u_X13_join_11 {x1 : Int32} {x2 : Int32} {x3 : Int32} {x4 : Int32} {x5 : Int32} {x6 : Int32} {x7 : Int32} {x8 : Int32} {t0 : Int32} {t1 : Int32} {z : ow_MS} {Q : (Int32 × ow_MS) → Prop} (H : Tt (fun K k => qm_X13_join_11 K (q_X13_join K k) x1 x2 x3 x4 x5 x6 x7 x8 t0 t1 z) Q) : Tt (fun K k => q_X13_join K k 11 x1 x2 x3 x4 x5 x6 x7 x8 t0 t1 z) Q := w_un (fun _ _ => rfl) H
theorem u_X13_join_12 {x1 : Int32} {x2 : Int32} {x3 : Int32} {x4 : Int32} {x5 : Int32} {x6 : Int32} {x7 : Int32} {x8 : Int32} {t0 : Int32} {t1 : Int32} {z : ow_MS} {Q : (Int32 × ow_MS) → Prop} (H : Tt (fun K k => qm_X13_join_12 K (q_X13_join K k) x1 x2 x3 x4 x5 x6 x7 x8 t0 t1 z) Q) : Tt (fun K k => q_X13_join K k 12 x1 x2 x3 x4 x5 x6 x7 x8 t0 t1 z) Q := w_un (fun _ _ => rfl) H
theorem u_X13_join_8 {x1 : Int32} {x2 : Int32} {x3 : Int32} {x4 : Int32} {x5 : Int32} {x6 : Int32} {x7 : Int32} {x8 : Int32} {t0 : Int32} {t1 : Int32} {z : ow_MS} {Q : (Int32 × ow_MS) → Prop} (H : Tt (fun K k => qm_X13_join_8 K (q_X13_join K k) x1 x2 x3 x4 x5 x6 x7 x8 t0 t1 z) Q) : Tt (fun K k => q_X13_join K k 8 x1 x2 x3 x4 x5 x6 x7 x8 t0 t1 z) Q := w_un (fun _ _ => rfl) H
theorem u_X13_join_10 {x1 : Int32} {x2 : Int32} {x3 : Int32} {x4 : Int32} {x5 : Int32} {x6 : Int32} {x7 : Int32} {x8 : Int32} {t0 : Int32} {t1 : Int32} {z : ow_MS} {Q : (Int32 × ow_MS) → Prop} (H : Tt (fun K k => qm_X13_join_10 K (q_X13_join K k) x1 x2 x3 x4 x5 x6 x7 x8 t0 t1 z) Q) : Tt (fun K k => q_X13_join K k 10 x1 x2 x3 x4 x5 x6 x7 x8 t0 t1 z) Q := w_un (fun _ _ => rfl) H
theorem u_X13_join_9 {x1 : Int32} {x2 : Int32} {x3 : Int32} {x4 : Int32} {x5 : Int32} {x6 : Int32} {x7 : Int32} {x8 : Int32} {t0 : Int32} {t1 : Int32} {z : ow_MS} {Q : (Int32 × ow_MS) → Prop} (H : Tt (fun K k => qm_X13_join_9 K (q_X13_join K k) x1 x2 x3 x4 x5 x6 x7 x8 t0 t1 z) Q) : Tt (fun K k => q_X13_join K k 9 x1 x2 x3 x4 x5 x6 x7 x8 t0 t1 z) Q := w_un (fun _ _ => rfl) H
theorem u_X13_join_4 {x1 : Int32} {x2 : Int32} {x3 : Int32} {x4 : Int32} {x5 : Int32} {x6 : Int32} {x7 : Int32} {x8 : Int32} {t0 : Int32} {t1 : Int32} {z : ow_MS} {Q : (Int32 × ow_MS) → Prop} (H : Tt (fun K k => qm_X13_join_4 K (q_X13_join K k) x1 x2 x3 x4 x5 x6 x7 x8 t0 t1 z) Q) : Tt (fun K k => q_X13_join K k 4 x1 x2 x3 x4 x5 x6 x7 x8 t0 t1 z) Q := w_un (fun _ _ => rfl) H
theorem u_X13_join_5 {x1 : Int32} {x2 : Int32} {x3 : Int32} {x4 : Int32} {x5 : Int32} {x6 : Int32} {x7 : Int32} {x8 : Int32} {t0 : Int32} {t1 : Int32} {z : ow_MS} {Q : (Int32 × ow_MS) → Prop} (H : Tt (fun K k => qm_X13_join_5 K (q_X13_join K k) x1 x2 x3 x4 x5 x6 x7 x8 t0 t1 z) Q) : Tt (fun K k => q_X13_join K k 5 x1 x2 x3 x4 x5 x6 x7 x8 t0 t1 z) Q := w_un (fun _ _ => rfl) H
theorem u_X13_join_6 {x1 : Int32} {x2 : Int32} {x3 : Int32} {x4 : Int32} {x5 : Int32} {x6 : Int32} {x7 : Int32} {x8 : Int32} {t0 : Int32} {t1 : Int32} {z : ow_MS} {Q : (Int32 × ow_MS) → Prop} (H : Tt (fun K k => qm_X13_join_6 K (q_X13_join K k) x1 x2 x3 x4 x5 x6 x7 x8 t0 t1 z) Q) : Tt (fun K k => q_X13_join K k 6 x1 x2 x3 x4 x5 x6 x7 x8 t0 t1 z) Q := w_un (fun _ _ => rfl) H
theorem u_X13_join_7 {x1 : Int32} {x2 : Int32} {x3 : Int32} {x4 : Int32} {x5 : Int32} {x6 : Int32} {x7 : Int32} {x8 : Int32} {t0 : Int32} {t1 : Int32} {z : ow_MS} {Q : (Int32 × ow_MS) → Prop} (H : Tt (fun K k => qm_X13_join_7 K (q_X13_join K k) x1 x2 x3 x4 x5 x6 x7 x8 t0 t1 z) Q) : Tt (fun K k => q_X13_join K k 7 x1 x2 x3 x4 x5 x6 x7 x8 t0 t1 z) Q := w_un (fun _ _ => rfl) H
theorem tp_join {d v0 e w0 : Int32} (h : gI X z) : Te (fun K => qe_X13_join K d v0 e w0 z) (fun r => gI X r.2) := by
  have h1 := gI_1 (c := 0) h
  have c1 : ∀ y, gI X y → Tt (fun K k => q_X13_join K k 1 d v0 e w0 0 0 0 0 0 0 y) (fun r => gI X r.2) := by
    intro y hy
    refine u_X13_join_1 ?_; unfold qm_X13_join_1
    exact w_fail hy
  have c2 : ∀ y, gI X y → Tt (fun K k => q_X13_join K k 2 d v0 e w0 0 0 0 0 0 0 y) (fun r => gI X r.2) := by
    intro y hy
    refine u_X13_join_2 ?_; unfold qm_X13_join_2
    exact w_fail hy
  have c3 : ∀ y, gI X y → Tt (fun K k => q_X13_join K k 3 d v0 e w0 0 0 0 0 0 0 y) (fun r => gI X r.2) := by
    intro y hy
    refine u_X13_join_3 ?_; unfold qm_X13_join_3
    exact w_fail hy
  refine e_X13_join ?_
  refine u_X13_join_0 ?_; unfold qm_X13_join_0
  refine w_wrF (w_has h1.2.1 (w_ifT rfl (c1 _ h1)) (fun d9 A sg hd9 hx hv hne => w_ifF (by decide) (w_has h1.2.1 (w_ifT rfl (c1 _ h1)) (fun e9 B sg2 he9 hy hw hne2 => w_ifF (by decide) ?_))))
  subst hx
  subst hy
  refine w_cs0 (to_open pn1 hd9 hv) (fun z2 ⟨o1, f1⟩ => ?_)
  have h2 : gI X z2 := gI_net pn1 f1 (fun g hg => by omega) h1
  have hw2 : vRow z2 12 (32 * e9) B sg2 := ⟨rc_fr f1 (by omega) hw.1, hw.2⟩
  refine w_cs0 (to_open pn2 he9 hw2) (fun z3 ⟨o2, f2⟩ => ?_)
  have h3 : gI X z3 := gI_net pn2 f2 (fun g hg => by omega) h2
  have o1' := oNet_fr f2 (fun g hg => by omega) o1
  have l1 := o1.len
  have l2 := o2.len
  have k1 := o1.2.2.2
  have k2 := o2.2.2.2
  have hdB := wkF_ok o2.wk
  obtain ⟨a, ha, ha12⟩ := o1.2.2.1
  obtain ⟨b, hb, hb12⟩ := o2.2.2.1
  have hVa := okF_len ha
  have hVb := okF_len hb
  refine w_if (fun _ => c2 _ h3) (fun hv0 => w_rdF o1'.1.V (w_if (fun _ => c2 _ h3) (fun hv1 => w_if (fun _ => c2 _ h3) (fun hw0 => w_rdF o2.1.V (w_if (fun hw1 => w_rdF o1'.1.V (w_rdF o2.1.V ?_)) (fun _ => c2 _ h3))))))
  obtain ⟨v, hv31, rfl⟩ := nI_of hv0
  obtain ⟨w, hw31, rfl⟩ := nI_of hw0
  have hvl : v < A.flatten.length := by
    rcases Nat.lt_or_ge v A.flatten.length with h9 | h9
    · exact h9
    · exact absurd (nI_le h9 hv31) hv1
  have hwl : w < B.flatten.length := (nI_ltI hw31 (by omega)).mp hw1
  rw [nI_add]
  refine w_lt (a := 24) (by omega) (by omega) (fun _ => c3 _ h3) (fun h24 => w_rdF (lk_C o1'.1) (w_rdF (lk_C o2.1) ?_))
  have hne1 : 1 ≤ A.length + B.length := by
    have := (rn_c_in A v hvl).1
    omega
  rw [nI_add, show nI (A.length + B.length) - 1 = nI (A.length + B.length - 1) from pk_sub (b := 1) hne1]
  refine w_le (b := 6) (by omega) (by omega) (fun h6 => w_free (w_ifT rfl (w_fail h3)) (fun f hf hfr => w_ifF (rn_neg1 (by omega)) (w_rdF o1'.1.V (w_nzI (by decide) (w_cs0 (bm_clear (A := A12 A B a) pn3) (fun z4 ⟨b4, f4⟩ => ?_)))))) (fun _ => c3 _ h3)
  rw [show nI A.flatten.length / 2 = nI a from by rw [show nI A.flatten.length / 2 = nI (A.flatten.length / 2) from pk_div (d := 2) (by omega) (by omega) (by omega)]; congr 1; omega]
  have hlen := A12_len (A := A) (B := B) (s := a)
  let I : ow_MS → Prop := fun y => fr (fun g => 3001 ≤ g ∧ g ≤ 3006) z3 y
  have oA : ∀ {y : ow_MS}, I y → oNet y 1000 A sg := fun hf => oNet_fr hf (fun g hg => by omega) o1'
  have oB : ∀ {y : ow_MS}, I y → oNet y 2000 B sg2 := fun hf => oNet_fr hf (fun g hg => by omega) o2
  have addI : ∀ {y y2 : ow_MS}, I y → fr (fun g => g = 3000 + 1 ∨ g = 3000 + 4 ∨ g = 3000 + 5) y y2 → I y2 := fun hI hf => fr_tr hI (fr_mono (fun g hg => by omega) hf)
  have endI : ∀ {y y2 : ow_MS}, I y → fr (fun g => g = 3000 + 2 ∨ g = 3000 + 3) y y2 → I y2 := fun hI hf => fr_tr hI (fr_mono (fun g hg => by omega) hf)
  obtain ⟨hcw, p0, p1⟩ := rn_c_in B w hwl
  have hpB := rn_b_le B (rn_c B w + 1)
  have evA : ∀ i, i < A.flatten.length → crs (A12 A B a) i = crs A i ∧ uns (A12 A B a) i = uns A i := fun i hi => by
    unfold crs uns
    rw [A12_l hi]
    exact ⟨rfl, rfl⟩
  have evB : ∀ i, i < B.flatten.length → crs (A12 A B a) (A.flatten.length + i) = crs B i + a ∧ uns (A12 A B a) (A.flatten.length + i) = uns B i := fun i hi => by
    unfold crs uns
    rw [A12_r hi]
    exact ⟨rfl, rfl⟩
  -- the signs, and the end
  have l11 : ∀ (k x : Nat) (y : ow_MS), x + k = 20 → I y → bmE y 3000 (A12 A B a) (fun j => j < A.flatten.length + B.flatten.length) (A.length + B.length - 1) → (∀ x', x' < x → y.2.1 3006 x' = if x' < a then z3.2.1 1006 x' else z3.2.1 2006 (x' - a)) → Tt (fun K i => q_X13_join K i 11 (nI d9) (nI v) (nI e9) (nI w) (nI a) (nI x) 0 0 0 0 y) (fun r => gI X r.2) := by
    intro k
    induction k with
    | zero =>
      intro x y hx hI hb9 hs
      have ok12 := A12_ok ha hb
      have wk12 := okF_wk (by omega) ok12
      refine u_X13_join_11 ?_; unfold qm_X13_join_11
      refine w_leT (a := 20) (by omega) (by omega) (w_keep (gI_net pn3 hI (fun g hg => by omega) h3) (frD_eq (hI 12 (by omega)).2.1 hfr) ?_)
      have hP : ∀ j, j < A.flatten.length + B.flatten.length → j < (A12 A B a).flatten.length := fun j hj => by omega
      have hm : ∀ j, j < A.flatten.length + B.flatten.length → mtf (A12 A B a) j < A.flatten.length + B.flatten.length := fun j hj => by
        have := mtf_lt (wkF_ok wk12) (hP j hj)
        omega
      have hsg : ∀ j, j < A.flatten.length + B.flatten.length → s1 (y.2.1 (3000 + 6) (crs (A12 A B a) j)) := by
        intro j hj
        show s1 (y.2.1 3006 (crs (A12 A B a) j))
        by_cases hja : j < A.flatten.length
        · obtain ⟨x1, x2, x3⟩ := o1'.cx hja
          have hca : crs A j < a := ((ha.2 _).mp (List.mem_of_getElem? (vAt_of hja))).1
          rw [(evA j hja).1, hs _ (by omega), if_pos hca]
          exact s1_if x3
        · obtain ⟨i, rfl⟩ : ∃ i, j = A.flatten.length + i := ⟨j - A.flatten.length, by omega⟩
          have hib : i < B.flatten.length := by omega
          obtain ⟨x1, x2, x3⟩ := o2.cx hib
          have hcb : crs B i < b := ((hb.2 _).mp (List.mem_of_getElem? (vAt_of hib))).1
          rw [(evB i hib).1, hs _ (by omega), if_neg (by omega), Nat.add_sub_cancel]
          exact s1_if x3
      exact bmE_net wk12 (by omega) (by omega) hP hm hsg hb9
    | succ k ih =>
      intro x y hx hI hb9 hs
      have c12 : ∀ t0 : Int32, t0 = (if x < a then z3.2.1 1006 x else z3.2.1 2006 (x - a)) → Tt (fun K i => q_X13_join K i 12 (nI d9) (nI v) (nI e9) (nI w) (nI a) (nI x) 0 0 t0 (nI x) y) (fun r => gI X r.2) := by
        intro t0 ht0
        refine u_X13_join_12 ?_; unfold qm_X13_join_12
        refine w_wrI (pl6 pn3) rfl (by omega) ?_
        rw [nI_1]
        refine ih (x + 1) _ (by omega) (fr_I2 hI (by omega)) (bmE_fr (F := fun g => g = 3006) (fr_I rfl) (fun g hg => by omega) hb9) (fun x' hx' => ?_)
        by_cases he : x' = x
        · rw [he, ← ht0]
          exact po_usI_at
        · exact rd_ne he (hs x' (by omega))
      refine u_X13_join_11 ?_; unfold qm_X13_join_11
      refine w_leF (a := 20) (by omega) (by omega) (w_le (by omega) (by omega) (fun h9 => ?_) (fun h9 => ?_))
      · rw [pk_sub h9]
        refine w_rdI (pl6 pn2) rfl (by omega) rfl (c12 _ ?_)
        rw [if_neg (by omega)]
        exact congrFun (hI 2006 (by omega)).2.1 _
      · refine w_rdI (pl6 pn1) rfl (by omega) rfl (c12 _ ?_)
        rw [if_pos h9]
        exact congrFun (hI 1006 (by omega)).2.1 _
  -- the other components of the second net
  have l8 : ∀ (k m q : Nat) (y : ow_MS), m + k = B.length → q + (if rn_c B w < m then 1 else 0) = A.length + m → I y → bmE y 3000 (A12 A B a) (fun j => j < A.flatten.length + rn_b B m ∨ A.flatten.length + rn_b B (rn_c B w) ≤ j ∧ j < A.flatten.length + rn_b B (rn_c B w + 1)) q → Tt (fun K i => q_X13_join K i 8 (nI d9) (nI v) (nI e9) (nI w) (nI a) (nI m) 0 0 0 0 y) (fun r => gI X r.2) := by
    intro k
    induction k with
    | zero =>
      intro m q y hm hq hI hb9
      have hme : m = B.length := by omega
      rw [hme, rn_b_len] at hb9
      rw [if_pos (by omega)] at hq
      refine u_X13_join_8 ?_; unfold qm_X13_join_8
      refine w_rdF (lk_C (oB hI).1) (w_leT (by omega) (by omega) (l11 20 0 y (by omega) hI ?_ (fun x hx => by omega)))
      have hqe : A.length + B.length - 1 = q := by omega
      rw [hqe]
      exact bmE_eq hb9 (fun j => by omega)
    | succ k ih =>
      intro m q y hm hq hI hb9
      have hmB : m < B.length := by omega
      have m1 := rn_b_mono B m
      have m2 := rn_b_le B (m + 1)
      have hqb : q ≤ A.length + m := by omega
      refine u_X13_join_8 ?_; unfold qm_X13_join_8
      refine w_rdF (lk_C (oB hI).1) (w_leF (by omega) (by omega) (w_rdI (pl8 pn2) rfl (by omega) (lk_c (oB hI).1 hwl) (w_eqN (by omega) (by omega) (fun h9 => ?_) (fun h9 => w_rdI (pl3 pn2) rfl (by omega) (lk_b (oB hI).1 (by omega)) ?_))))
      · refine u_X13_join_10 ?_; unfold qm_X13_join_10
        rw [nI_1]
        refine ih (m + 1) q y (by omega) ?_ hI (bmE_eq hb9 (fun j => ?_))
        · rw [if_neg (by omega)] at hq
          rw [if_pos (by omega)]
          omega
        · rw [← h9]
          omega
      · have hdis : rn_b B (m + 1) ≤ rn_b B (rn_c B w) ∨ rn_b B (rn_c B w + 1) ≤ rn_b B m := by
          rcases Nat.lt_or_ge m (rn_c B w) with h8 | h8
          · exact Or.inl (rn_b_mono2 (by omega))
          · exact Or.inr (rn_b_mono2 (by omega))
        have l9 : ∀ (k i : Nat) (y : ow_MS), i + k = rn_b B (m + 1) → rn_b B m ≤ i → I y → bm y 3000 (A12 A B a) (fun j => j < A.flatten.length + i ∨ A.flatten.length + rn_b B (rn_c B w) ≤ j ∧ j < A.flatten.length + rn_b B (rn_c B w + 1)) q → Tt (fun K i9 => q_X13_join K i9 9 (nI d9) (nI v) (nI e9) (nI w) (nI a) (nI m) (nI i) 0 0 0 y) (fun r => gI X r.2) := by
          intro k
          induction k with
          | zero =>
            intro i y hi hlo hI hb9
            have hie : i = rn_b B (m + 1) := by omega
            rw [hie] at hb9 ⊢
            refine u_X13_join_9 ?_; unfold qm_X13_join_9
            rw [nI_1]
            refine w_rdI (pl3 pn2) rfl (by omega) (lk_b (oB hI).1 (by omega)) (w_leT (by omega) (Nat.le_refl _) (w_cs0 (bm_end pn3 (by omega) hb9) (fun y2 ⟨g1, g2⟩ => ?_)))
            refine u_X13_join_10 ?_; unfold qm_X13_join_10
            rw [nI_1]
            refine ih (m + 1) (q + 1) y2 (by omega) ?_ (endI hI g2) g1
            by_cases hlt : rn_c B w < m
            · rw [if_pos hlt] at hq
              rw [if_pos (by omega)]
              omega
            · rw [if_neg hlt] at hq
              rw [if_neg (by omega)]
              omega
          | succ k ihk =>
            intro i y hi hlo hI hb9
            have hil : i < B.flatten.length := by omega
            refine u_X13_join_9 ?_; unfold qm_X13_join_9
            rw [nI_1]
            refine w_rdI (pl3 pn2) rfl (by omega) (lk_b (oB hI).1 (by omega)) (w_leF (by omega) (by omega) (w_rdI (pl4 pn2) rfl (by omega) (lk_cu (oB hI).1 hil).1 (w_rdI (pl5 pn2) rfl (by omega) (lk_cu (oB hI).1 hil).2 (w_cs0 (bm_add (i := A.flatten.length + i) pn3 (by omega) (fun j hj => by omega) (by omega) (by rw [nI_add, (evB i hil).1]) (by rw [(evB i hil).2]) hb9) (fun y2 ⟨g1, g2⟩ => ?_)))))
            rw [nI_1]
            exact ihk (i + 1) y2 (by omega) (by omega) (addI hI g2) (bm_eq g1 (fun j => by omega))
        exact l9 (rn_b B (m + 1) - rn_b B m) (rn_b B m) y (by omega) (Nat.le_refl _) hI hb9.b
  -- the first net, with the ring of w behind v
  have l4 : ∀ (k m : Nat) (y : ow_MS), m + k = A.length → I y → bmE y 3000 (A12 A B a) (fun j => j < rn_b A m ∨ v < rn_b A m ∧ A.flatten.length + rn_b B (rn_c B w) ≤ j ∧ j < A.flatten.length + rn_b B (rn_c B w + 1)) m → Tt (fun K i => q_X13_join K i 4 (nI d9) (nI v) (nI e9) (nI w) (nI a) (nI m) 0 0 0 0 y) (fun r => gI X r.2) := by
    intro k
    induction k with
    | zero =>
      intro m y hm hI hb9
      have hme : m = A.length := by omega
      rw [hme, rn_b_len] at hb9
      refine u_X13_join_4 ?_; unfold qm_X13_join_4
      exact w_rdF (lk_C (oA hI).1) (w_leT (by omega) (by omega) (l8 B.length 0 A.length y (by omega) (by rw [if_neg (by omega)]) hI (bmE_eq hb9 (fun j => by rw [rn_b0]; omega))))
    | succ k ih =>
      intro m y hm hI hb9
      have m1 := rn_b_mono A m
      have m2 := rn_b_le A (m + 1)
      have l5 : ∀ (k i : Nat) (y : ow_MS), i + k = rn_b A (m + 1) → rn_b A m ≤ i → I y → bm y 3000 (A12 A B a) (fun j => j < i ∨ v < i ∧ A.flatten.length + rn_b B (rn_c B w) ≤ j ∧ j < A.flatten.length + rn_b B (rn_c B w + 1)) m → Tt (fun K i9 => q_X13_join K i9 5 (nI d9) (nI v) (nI e9) (nI w) (nI a) (nI m) (nI i) 0 0 0 y) (fun r => gI X r.2) := by
        intro k
        induction k with
        | zero =>
          intro i y hi hlo hI hb9
          have hie : i = rn_b A (m + 1) := by omega
          rw [hie] at hb9 ⊢
          refine u_X13_join_5 ?_; unfold qm_X13_join_5
          rw [nI_1]
          exact w_rdI (pl3 pn1) rfl (by omega) (lk_b (oA hI).1 (by omega)) (w_leT (by omega) (Nat.le_refl _) (w_cs0 (bm_end pn3 (by omega) hb9) (fun y2 ⟨g1, g2⟩ => ih (m + 1) y2 (by omega) (endI hI g2) g1)))
        | succ k ihk =>
          intro i y hi hlo hI hb9
          have hil : i < A.flatten.length := by omega
          refine u_X13_join_5 ?_; unfold qm_X13_join_5
          rw [nI_1]
          refine w_rdI (pl3 pn1) rfl (by omega) (lk_b (oA hI).1 (by omega)) (w_leF (by omega) (by omega) (w_rdI (pl4 pn1) rfl (by omega) (lk_cu (oA hI).1 hil).1 (w_rdI (pl5 pn1) rfl (by omega) (lk_cu (oA hI).1 hil).2 (w_cs0 (bm_add (i := i) pn3 (by omega) (fun j hj => by omega) (by omega) (by rw [(evA i hil).1]) (by rw [(evA i hil).2]) hb9) (fun y2 ⟨g1, g2⟩ => w_eqN (by omega) (by omega) (fun h9 => ?_) (fun h9 => ?_))))))
          · -- the ring
            have hrl := rlen_pos hwl
            have l6 : ∀ (k t : Nat) (y : ow_MS), t + 1 + k = rlen B (rn_c B w) → I y → bm y 3000 (A12 A B a) (fun j => j < i + 1 ∨ ∃ s, 1 ≤ s ∧ s ≤ t ∧ j = A.flatten.length + rv B w s) m → Tt (fun K i9 => q_X13_join K i9 6 (nI d9) (nI v) (nI e9) (nI w) (nI a) (nI m) (nI i) (nI (rv B w t)) 0 0 y) (fun r => gI X r.2) := by
              intro k
              induction k with
              | zero =>
                intro t y ht hI hb8
                have htl : t < rlen B (rn_c B w) := by omega
                have hnx := rv_nx hwl htl
                rw [if_pos (by omega)] at hnx
                have hrt := rv_lt hwl htl
                refine u_X13_join_6 ?_; unfold qm_X13_join_6
                refine w_rdI (pl9 pn2) rfl (by omega) (lk_n (oB hI).1 hrt) ?_
                rw [hnx]
                refine w_rdI (pl4 pn2) rfl (by omega) (lk_cu (oB hI).1 hwl).1 (w_rdI (pl5 pn2) rfl (by omega) (lk_cu (oB hI).1 hwl).2 (w_cs0 (bm_add (i := A.flatten.length + w) pn3 (by omega) (fun j hj => ?_) (fun hj => ?_) (by rw [nI_add, (evB w hwl).1]) (by rw [(evB w hwl).2]) hb8) (fun y2 ⟨g1, g2⟩ => w_ifT rfl ?_)))
                · rcases hj with hj | ⟨s, s1, s2, s3⟩
                  · omega
                  · have := rv_lt hwl (show s < rlen B (rn_c B w) by omega)
                    omega
                · rcases hj with hj | ⟨s, s1, s2, s3⟩
                  · omega
                  · exact rv_ne hwl (by omega) (by omega) (show rv B w s = w by omega)
                · refine u_X13_join_7 ?_; unfold qm_X13_join_7
                  rw [nI_1]
                  refine ihk (i + 1) y2 (by omega) (by omega) (addI hI g2) (bm_eq g1 (fun j => ?_))
                  constructor
                  · rintro ((h8 | ⟨s, s1, s2, s3⟩) | h8)
                    · exact Or.inl h8
                    · have := rv_in hwl (show s < rlen B (rn_c B w) by omega)
                      exact Or.inr (by omega)
                    · exact Or.inr (by omega)
                  · rintro (h8 | ⟨h7, h8, h9⟩)
                    · exact Or.inl (Or.inl h8)
                    · obtain ⟨s, s1, s2, s3⟩ := rv_sur hwl (v := j - A.flatten.length) (by omega) (by omega)
                      by_cases hsl : s = rlen B (rn_c B w)
                      · rw [hsl, rv_len hwl] at s3
                        exact Or.inr (by omega)
                      · exact Or.inl (Or.inr ⟨s, s1, by omega, by omega⟩)
              | succ k ihr =>
                intro t y ht hI hb8
                have htl : t < rlen B (rn_c B w) := by omega
                have hnx := rv_nx hwl htl
                rw [if_neg (by omega)] at hnx
                have hrt := rv_lt hwl htl
                have hr1 := rv_lt hwl (show t + 1 < rlen B (rn_c B w) by omega)
                have hrn := rv_ne hwl (show t + 1 < rlen B (rn_c B w) by omega) (by omega)
                refine u_X13_join_6 ?_; unfold qm_X13_join_6
                refine w_rdI (pl9 pn2) rfl (by omega) (lk_n (oB hI).1 hrt) ?_
                rw [hnx]
                refine w_rdI (pl4 pn2) rfl (by omega) (lk_cu (oB hI).1 hr1).1 (w_rdI (pl5 pn2) rfl (by omega) (lk_cu (oB hI).1 hr1).2 (w_cs0 (bm_add (i := A.flatten.length + rv B w (t + 1)) pn3 (by omega) (fun j hj => ?_) (fun hj => ?_) (by rw [nI_add, (evB _ hr1).1]) (by rw [(evB _ hr1).2]) hb8) (fun y2 ⟨g1, g2⟩ => w_ifF (fun e9 => hrn ((nI_eq (by omega) (by omega)).mp e9)) (ihr (t + 1) y2 (by omega) (addI hI g2) (bm_eq g1 (fun j => ?_))))))
                · rcases hj with hj | ⟨s, s1, s2, s3⟩
                  · omega
                  · have := rv_lt hwl (show s < rlen B (rn_c B w) by omega)
                    omega
                · rcases hj with hj | ⟨s, s1, s2, s3⟩
                  · omega
                  · exact rv_inj hwl (show s < t + 1 by omega) s1 (by omega) (by omega)
                · constructor
                  · rintro ((h8 | ⟨s, s1, s2, s3⟩) | h8)
                    · exact Or.inl h8
                    · exact Or.inr ⟨s, s1, by omega, s3⟩
                    · exact Or.inr ⟨t + 1, by omega, Nat.le_refl _, h8⟩
                  · rintro (h8 | ⟨s, s1, s2, s3⟩)
                    · exact Or.inl (Or.inl h8)
                    · by_cases hst : s = t + 1
                      · rw [hst] at s3
                        exact Or.inr s3
                      · exact Or.inl (Or.inr ⟨s, s1, by omega, s3⟩)
            have := l6 (rlen B (rn_c B w) - 1) 0 y2 (by omega) (addI hI g2) (bm_eq g1 (fun j => by
              constructor
              · rintro ((h8 | h8) | h8)
                · exact Or.inl (by omega)
                · omega
                · exact Or.inl (by omega)
              · rintro (h8 | ⟨s, s1, s2, s3⟩)
                · by_cases hji : j = i
                  · exact Or.inr hji
                  · exact Or.inl (Or.inl (by omega))
                · omega))
            rw [rv_0 hwl] at this
            exact this
          · refine u_X13_join_7 ?_; unfold qm_X13_join_7
            rw [nI_1]
            exact ihk (i + 1) y2 (by omega) (by omega) (addI hI g2) (bm_eq g1 (fun j => by omega))
      refine u_X13_join_4 ?_; unfold qm_X13_join_4
      exact w_rdF (lk_C (oA hI).1) (w_leF (by omega) (by omega) (w_rdI (pl3 pn1) rfl (by omega) (lk_b (oA hI).1 (by omega)) (l5 (rn_b A (m + 1) - rn_b A m) (rn_b A m) y (by omega) (Nat.le_refl _) hI hb9.b)))
  exact l4 A.length 0 z4 (by omega) (fr_mono (fun g hg => by omega) f4) (bmE_eq b4 (fun j => ⟨fun h9 => h9.elim, fun h9 => by rw [rn_b0] at h9; omega⟩))
end PUBJ
end
section
/-! 99zzr.offer -/
/-! offers: a made net goes into a list -/
def gNear (b : Nat) (z : ow_MS) : Prop := ∃ N, (b ≤ N ∧ N ≤ 1000) ∧ z.1 24 = nI N ∧ ∀ j, j < N → dRow z 23 (32 * j)
def gSeen (b : Nat) (z : ow_MS) : Prop := ∃ N, (b ≤ N ∧ N ≤ 310) ∧ z.1 26 = nI N ∧ ∀ j, j < N → dRow z 25 (32 * j)
def gTarg (z : ow_MS) : Prop := (∃ T, rc_At z 28 0 T) ∧ (z.1 29 = 0 ∨ z.1 29 = 1)
/-- what an offer of kind m (asks) needs; L bounds the list -/
def oF (X : (Nat → Nat → Int32) → Prop) (b m L : Nat) (z : ow_MS) : Prop := gI X z ∧ z.1 30 = nI m ∧ m ≤ 3 ∧ (m = 0 → ∃ l, l ≤ L ∧ z.1 22 = nI l) ∧ (m = 1 → gTarg z ∧ gNear b z) ∧ (m = 2 → gNear b z) ∧ (m = 3 → gSeen b z)
theorem gNear_fr {b : Nat} {P : Nat → Prop} {z z1 : ow_MS} (hf : fr P z z1) (h3 : ¬ P 23) (h4 : ¬ P 24) (h : gNear b z) : gNear b z1 := by
  obtain ⟨N, h1, h2, h5⟩ := h
  exact ⟨N, h1, by rw [(hf 24 h4).1]; exact h2, fun j hj => dRow_fr hf h3 (h5 j hj)⟩
theorem gSeen_fr {b : Nat} {P : Nat → Prop} {z z1 : ow_MS} (hf : fr P z z1) (h3 : ¬ P 25) (h4 : ¬ P 26) (h : gSeen b z) : gSeen b z1 := by
  obtain ⟨N, h1, h2, h5⟩ := h
  exact ⟨N, h1, by rw [(hf 26 h4).1]; exact h2, fun j hj => dRow_fr hf h3 (h5 j hj)⟩
theorem gTarg_fr {P : Nat → Prop} {z z1 : ow_MS} (hf : fr P z z1) (h3 : ¬ P 28) (h4 : ¬ P 29) (h : gTarg z) : gTarg z1 := by
  obtain ⟨⟨T, h1⟩, h2⟩ := h
  exact ⟨⟨T, rc_fr hf h3 h1⟩, by rw [(hf 29 h4).1]; exact h2⟩
theorem oF_fr {X : (Nat → Nat → Int32) → Prop} {b m L : Nat} {P : Nat → Prop} {z z1 : ow_MS} (hf : fr P z z1) (hP : ∀ g, P g → ¬ per g ∧ ¬ (22 ≤ g ∧ g ≤ 26) ∧ ¬ (28 ≤ g ∧ g ≤ 30)) (h : oF X b m L z) : oF X b m L z1 := by
  obtain ⟨h1, h2, h3, h4, h5, h6, h7⟩ := h
  have no : ∀ g, (22 ≤ g ∧ g ≤ 26 ∨ 28 ≤ g ∧ g ≤ 30) → ¬ P g := fun g hg h9 => by have := hP g h9; omega
  exact ⟨gI_fr hf (fun g hg => (hP g hg).1) h1, by rw [(hf 30 (no 30 (by omega))).1]; exact h2, h3, fun e => by rw [(hf 22 (no 22 (by omega))).1]; exact h4 e, fun e => ⟨gTarg_fr hf (no 28 (by omega)) (no 29 (by omega)) (h5 e).1, gNear_fr hf (no 23 (by omega)) (no 24 (by omega)) (h5 e).2⟩, fun e => gNear_fr hf (no 23 (by omega)) (no 24 (by omega)) (h6 e), fun e => gSeen_fr hf (no 25 (by omega)) (no 26 (by omega)) (h7 e)⟩
/-- a row is copied out of fresh -/
theorem dRow_cp {z z1 : ow_MS} {h o : Nat} {A : rn_L} {sg : Nat → Bool} (hv : vRow z 27 0 A sg) (hc : ∀ i, i < (tk sg A).length + 1 → z1.2.1 h (o + i) = z.2.1 27 i) : dRow z1 h o := by
  refine ⟨A, sg, ⟨hv.1.1, hv.1.2.1, ?_, fun i t hi => ?_⟩, hv.2⟩
  · have := hc 0 (by omega)
    rw [Nat.add_zero] at this
    rw [this]
    exact hv.1.2.2.1
  · have := (List.getElem?_eq_some_iff.mp hi).1
    rw [hc (i + 1) (by omega)]
    have := hv.1.2.2.2 i t hi
    rw [Nat.zero_add] at this
    exact this
theorem u_X13_offerRow_2 {x2 : Int32} {x3 : Int32} {x4 : Int32} {r1 : Nat} {z : ow_MS} {Q : (Int32 × ow_MS) → Prop} (H : Tt (fun K k => qm_X13_offerRow_2 K (q_X13_offerRow K k) x2 x3 x4 r1 z) Q) : Tt (fun K k => q_X13_offerRow K k 2 x2 x3 x4 r1 z) Q := w_un (fun _ _ => rfl) H
theorem u_X13_offerRow_1 {x2 : Int32} {x3 : Int32} {x4 : Int32} {r1 : Nat} {z : ow_MS} {Q : (Int32 × ow_MS) → Prop} (H : Tt (fun K k => qm_X13_offerRow_1 K (q_X13_offerRow K k) x2 x3 x4 r1 z) Q) : Tt (fun K k => q_X13_offerRow K k 1 x2 x3 x4 r1 z) Q := w_un (fun _ _ => rfl) H
theorem e_X13_offerRow {r1 : Nat} {x2 : Int32} {x3 : Int32} {z : ow_MS} {Q : (Int32 × ow_MS) → Prop} (H : Tt (fun K k => q_X13_offerRow K k 0 x2 x3 0 r1 z) Q) : Te (fun K => qe_X13_offerRow K r1 x2 x3 z) Q := w_te H
theorem u_X13_offerRow_0 {x2 : Int32} {x3 : Int32} {x4 : Int32} {r1 : Nat} {z : ow_MS} {Q : (Int32 × ow_MS) → Prop} (H : Tt (fun K k => qm_X13_offerRow_0 K (q_X13_offerRow K k) x2 x3 x4 r1 z) Q) : Tt (fun K k => q_X13_offerRow K k 0 x2 x3 x4 r1 z) Q := w_un (fun _ _ => rfl) H
theorem tm_offerRow {z : ow_MS} {h N M la : Nat} (hla : (mX.2 h).2.1 = la) (ha : la < 2 ^ 30) (hh : h ≠ 27) (hM : N ≤ M) (hMl : 32 * M ≤ la) (hF : dRow z 27 0) (hR : ∀ j, j < N → dRow z h (32 * j)) : Te (fun K => qe_X13_offerRow K h (nI N) (nI M) z) (fun r => ∃ N2, (N ≤ N2 ∧ N2 ≤ M) ∧ r.1 = nI N2 ∧ fr (fun g => g = h) z r.2 ∧ ∀ j, j < N2 → dRow r.2 h (32 * j)) := by
  obtain ⟨A, sg, hv⟩ := hF
  have hl := hv.1.1
  have cp : N < M → ∀ (d k : Nat) (z1 : ow_MS), k + d = (tk sg A).length + 1 → fr (fun g => g = h) z z1 → (∀ i, i < k → z1.2.1 h (32 * N + i) = z.2.1 27 i) → (∀ i, i < 32 * N → z1.2.1 h i = z.2.1 h i) → Tt (fun K i => q_X13_offerRow K i 2 (nI N) (nI M) (nI k) h z1) (fun r => ∃ N2, (N ≤ N2 ∧ N2 ≤ M) ∧ r.1 = nI N2 ∧ fr (fun g => g = h) z r.2 ∧ ∀ j, j < N2 → dRow r.2 h (32 * j)) := by
    intro hNM d
    induction d with
    | zero =>
      intro k z1 hk hf hc hi
      refine u_X13_offerRow_2 ?_; unfold qm_X13_offerRow_2
      refine w_rdI ml27 nI_0.symm (by omega) (x := nI (tk sg A).length) (by rw [(hf 27 (fun e => hh e.symm)).2.1]; exact hv.1.2.2.1) (w_ltT (by omega) (by omega) (w_some ⟨N + 1, ⟨by omega, by omega⟩, nI_1 N, hf, fun j hj => ?_⟩))
      by_cases hjN : j = N
      · rw [hjN]
        exact dRow_cp hv (fun i hi9 => hc i (by omega))
      · exact dRow_eq (fun i h1 h2 => hi i (by omega)) (hR j (by omega))
    | succ d ih =>
      intro k z1 hk hf hc hi
      refine u_X13_offerRow_2 ?_; unfold qm_X13_offerRow_2
      rw [show (32 : Int32) * nI N = nI (32 * N) from pk_mul 32 N, nI_add, nI_1 k]
      refine w_rdI ml27 nI_0.symm (by omega) (x := nI (tk sg A).length) (by rw [(hf 27 (fun e => hh e.symm)).2.1]; exact hv.1.2.2.1) (w_ltF (by omega) (by omega) (w_rdI ml27 rfl (by omega) (by rw [(hf 27 (fun e => hh e.symm)).2.1]) (w_wrI hla rfl (by omega) ?_)))
      refine ih (k + 1) _ (by omega) (fr_I2 hf rfl) (fun i hi9 => ?_) (fun i hi9 => rd_ne (by omega) (hi i hi9))
      by_cases hik : i = k
      · rw [hik, po_usI_at]
      · exact rd_ne (by omega) (hc i (by omega))
  have look : ∀ (d k : Nat), k + d = N → Tt (fun K i => q_X13_offerRow K i 1 (nI N) (nI M) (nI k) h z) (fun r => ∃ N2, (N ≤ N2 ∧ N2 ≤ M) ∧ r.1 = nI N2 ∧ fr (fun g => g = h) z r.2 ∧ ∀ j, j < N2 → dRow r.2 h (32 * j)) := by
    intro d
    induction d with
    | zero =>
      intro k hk
      refine u_X13_offerRow_1 ?_; unfold qm_X13_offerRow_1
      exact w_leT (by omega) (by omega) (w_eqN (by omega) (by omega) (fun _ => w_some ⟨N, ⟨Nat.le_refl _, hM⟩, rfl, fr_rf, hR⟩) (fun h9 => cp (by omega) _ 0 z (Nat.zero_add _) fr_rf (fun i hi => by omega) (fun i _ => rfl)))
    | succ d ih =>
      intro k hk
      obtain ⟨B, sg2, hw⟩ := hR k (by omega)
      refine u_X13_offerRow_1 ?_; unfold qm_X13_offerRow_1
      rw [show (32 : Int32) * nI k = nI (32 * k) from pk_mul 32 k, nI_1]
      refine w_leF (by omega) (by omega) (w_cs1 (tr_same (o := 0) ml27 hla (by omega) ha (by omega) (by omega) hv.1 hw.1) (fun a z1 e => ?_))
      cases e
      exact w_if (fun _ => ih (k + 1) (by omega)) (fun _ => w_some ⟨N, ⟨Nat.le_refl _, hM⟩, rfl, fr_rf, hR⟩)
  refine e_X13_offerRow ?_
  refine u_X13_offerRow_0 ?_; unfold qm_X13_offerRow_0
  exact look N 0 (by omega)
theorem u_X13_offerList_5 {x1 : Int32} {x2 : Int32} {x3 : Int32} {z : ow_MS} {Q : ow_MS → Prop} (H : Tt (fun K k => qm_X13_offerList_5 K (q_X13_offerList K k) x1 x2 x3 z) Q) : Tt (fun K k => q_X13_offerList K k 5 x1 x2 x3 z) Q := w_un (fun _ _ => rfl) H
theorem u_X13_offerList_4 {x1 : Int32} {x2 : Int32} {x3 : Int32} {z : ow_MS} {Q : ow_MS → Prop} (H : Tt (fun K k => qm_X13_offerList_4 K (q_X13_offerList K k) x1 x2 x3 z) Q) : Tt (fun K k => q_X13_offerList K k 4 x1 x2 x3 z) Q := w_un (fun _ _ => rfl) H
theorem u_X13_offerList_3 {x1 : Int32} {x2 : Int32} {x3 : Int32} {z : ow_MS} {Q : ow_MS → Prop} (H : Tt (fun K k => qm_X13_offerList_3 K (q_X13_offerList K k) x1 x2 x3 z) Q) : Tt (fun K k => q_X13_offerList K k 3 x1 x2 x3 z) Q := w_un (fun _ _ => rfl) H
theorem u_X13_offerList_1 {x1 : Int32} {x2 : Int32} {x3 : Int32} {z : ow_MS} {Q : ow_MS → Prop} (H : Tt (fun K k => qm_X13_offerList_1 K (q_X13_offerList K k) x1 x2 x3 z) Q) : Tt (fun K k => q_X13_offerList K k 1 x1 x2 x3 z) Q := w_un (fun _ _ => rfl) H
theorem u_X13_offerList_2 {x1 : Int32} {x2 : Int32} {x3 : Int32} {z : ow_MS} {Q : ow_MS → Prop} (H : Tt (fun K k => qm_X13_offerList_2 K (q_X13_offerList K k) x1 x2 x3 z) Q) : Tt (fun K k => q_X13_offerList K k 2 x1 x2 x3 z) Q := w_un (fun _ _ => rfl) H
theorem e_X13_offerList {z : ow_MS} {Q : ow_MS → Prop} (H : Tt (fun K k => q_X13_offerList K k 0 0 0 0 z) Q) : Te (fun K => qe_X13_offerList K z) Q := w_te H
theorem u_X13_offerList_0 {x1 : Int32} {x2 : Int32} {x3 : Int32} {z : ow_MS} {Q : ow_MS → Prop} (H : Tt (fun K k => qm_X13_offerList_0 K (q_X13_offerList K k) x1 x2 x3 z) Q) : Tt (fun K k => q_X13_offerList K k 0 x1 x2 x3 z) Q := w_un (fun _ _ => rfl) H
theorem tm_offerList {z : ow_MS} {L : Nat} (hL : L < 2700) (h22 : z.1 22 = nI L) (ho : ∀ k, k < L → ∃ j, j < L ∧ z.2.1 21 k = nI j) (hF : dRow z 27 0) (hR : ∀ j, j < L → dRow z 20 (32 * j)) : Te (fun K => qe_X13_offerList K z) (fun z1 => gList z1 ∧ (∃ l, l ≤ L + 1 ∧ z1.1 22 = nI l) ∧ fr (fun g => 20 ≤ g ∧ g ≤ 22) z z1) := by
  obtain ⟨A, sg, hv⟩ := hF
  have hl := hv.1.1
  let Q : ow_MS → Prop := fun z1 => gList z1 ∧ (∃ l, l ≤ L + 1 ∧ z1.1 22 = nI l) ∧ fr (fun g => 20 ≤ g ∧ g ≤ 22) z z1
  have c5 : ∀ (x1 x2 : Int32) (d k : Nat) (z1 : ow_MS), k + d = (tk sg A).length + 1 → fr (fun g => 20 ≤ g ∧ g ≤ 21) z z1 → (∀ k, k < L + 1 → ∃ j, j < L + 1 ∧ z1.2.1 21 k = nI j) → (∀ i, i < k → z1.2.1 20 (32 * L + i) = z.2.1 27 i) → (∀ i, i < 32 * L → z1.2.1 20 i = z.2.1 20 i) → Tt (fun K i => q_X13_offerList K i 5 x1 x2 (nI k) z1) Q := by
    intro x1 x2 d
    induction d with
    | zero =>
      intro k z1 hk hf hor hc hi
      have e22 : z1.1 22 = nI L := by rw [(hf 22 (by omega)).1]; exact h22
      refine u_X13_offerList_5 ?_; unfold qm_X13_offerList_5
      refine w_rdI ml27 nI_0.symm (by omega) (x := nI (tk sg A).length) (by rw [(hf 27 (by omega)).2.1]; exact hv.1.2.2.1) (w_ltT (by omega) (by omega) (w_rdF e22 (w_wrF ?_)))
      rw [nI_1]
      refine w_some ⟨⟨L + 1, by omega, po_usF_at, hor, fun j hj => ?_⟩, ⟨L + 1, Nat.le_refl _, po_usF_at⟩, fr_F2 (fr_mono (fun g hg => by omega) hf) (by omega)⟩
      by_cases hjL : j = L
      · rw [hjL]
        exact dRow_cp hv (fun i hi9 => hc i (by omega))
      · exact dRow_eq (fun i h1 h2 => hi i (by omega)) (hR j (by omega))
    | succ d ih =>
      intro k z1 hk hf hor hc hi
      have e22 : z1.1 22 = nI L := by rw [(hf 22 (by omega)).1]; exact h22
      refine u_X13_offerList_5 ?_; unfold qm_X13_offerList_5
      refine w_rdI ml27 nI_0.symm (by omega) (x := nI (tk sg A).length) (by rw [(hf 27 (by omega)).2.1]; exact hv.1.2.2.1) (w_ltF (by omega) (by omega) (w_rdF e22 (w_rdI ml27 rfl (by omega) (by rw [(hf 27 (by omega)).2.1]) ?_)))
      rw [show (32 : Int32) * nI L = nI (32 * L) from pk_mul 32 L, nI_add, nI_1]
      refine w_wrI ml20 rfl (by omega) (ih (k + 1) _ (by omega) (fr_I2 hf (by omega)) (fun k9 hk9 => ?_) (fun i hi9 => ?_) (fun i hi9 => rd_ne (by omega) (hi i hi9)))
      · rw [po_usI_ot (by omega)]
        exact hor k9 hk9
      · by_cases hik : i = k
        · rw [hik, po_usI_at]
        · exact rd_ne (by omega) (hc i (by omega))
  have c4 : ∀ (lo : Nat) (x2 : Int32), lo ≤ L → ∀ (d k : Nat) (z1 : ow_MS), lo + d = k → k ≤ L → fr (fun g => g = 21) z z1 → (∀ i, i ≤ L → i ≠ k → ∃ j, j < L + 1 ∧ z1.2.1 21 i = nI j) → Tt (fun K i => q_X13_offerList K i 4 (nI lo) x2 (nI k) z1) Q := by
    intro lo x2 hlo d
    induction d with
    | zero =>
      intro k z1 hk hkL hf hor
      have e22 : z1.1 22 = nI L := by rw [(hf 22 (by omega)).1]; exact h22
      refine u_X13_offerList_4 ?_; unfold qm_X13_offerList_4
      refine w_leT (by omega) (by omega) (w_rdF e22 (w_wrI ml21 rfl (by omega) (c5 _ _ ((tk sg A).length + 1) 0 _ (by omega) (fr_I2 (fr_mono (fun g hg => by omega) hf) (by omega)) (fun i hi => ?_) (fun i hi => by omega) (fun i hi => ?_))))
      · by_cases hil : i = lo
        · exact ⟨L, by omega, by rw [hil, po_usI_at]⟩
        · obtain ⟨j, hj, e⟩ := hor i (by omega) (by omega)
          exact ⟨j, hj, rd_ne hil e⟩
      · rw [po_usI_ot (by omega), (hf 20 (by omega)).2.1]
    | succ d ih =>
      intro k z1 hk hkL hf hor
      obtain ⟨j, hj, e⟩ := hor (k - 1) (by omega) (by omega)
      refine u_X13_offerList_4 ?_; unfold qm_X13_offerList_4
      rw [show nI k - 1 = nI (k - 1) from pk_sub (b := 1) (by omega), show nI k + -1 = nI (k - 1) from by
        obtain ⟨k9, rfl⟩ : ∃ k9, k = k9 + 1 := ⟨k - 1, by omega⟩
        rw [pk_m1]
        rfl]
      refine w_leF (by omega) (by omega) (w_rdI ml21 rfl (by omega) e (w_wrI ml21 rfl (by omega) (ih (k - 1) _ (by omega) (by omega) (fr_I2 hf rfl) (fun i hi hne => ?_))))
      by_cases hik : i = k
      · exact ⟨j, hj, by rw [hik, po_usI_at]⟩
      · obtain ⟨j9, hj9, e9⟩ := hor i hi hik
        exact ⟨j9, hj9, rd_ne hik e9⟩
  have c3 : ∀ (lo : Nat) (x2 : Int32), lo ≤ L → Tt (fun K i => q_X13_offerList K i 3 (nI lo) x2 0 z) Q := by
    intro lo x2 hlo
    refine u_X13_offerList_3 ?_; unfold qm_X13_offerList_3
    refine w_rdF h22 (c4 lo x2 hlo (L - lo) L z (by omega) (Nat.le_refl _) fr_rf (fun i hi hne => ?_))
    obtain ⟨j, hj, e⟩ := ho i (by omega)
    exact ⟨j, by omega, e⟩
  have srch : ∀ (u lo hi : Nat), hi - lo ≤ u → lo ≤ hi → hi ≤ L → Tt (fun K i => q_X13_offerList K i 1 (nI lo) (nI hi) 0 z) Q := by
    intro u
    induction u with
    | zero =>
      intro lo hi hu hlh hhL
      refine u_X13_offerList_1 ?_; unfold qm_X13_offerList_1
      refine w_leT (by omega) (by omega) (w_rdF h22 (w_le (by omega) (by omega) (fun _ => c3 _ _ (by omega)) (fun h9 => ?_)))
      obtain ⟨j, hj, e⟩ := ho lo h9
      obtain ⟨B, sg2, hw⟩ := hR j hj
      refine w_rdI ml21 rfl (by omega) e ?_
      rw [show (32 : Int32) * nI j = nI (32 * j) from pk_mul 32 j]
      refine w_cs1 (tr_same (o := 0) ml27 ml20 (by omega) (by omega) (by omega) (by omega) hv.1 hw.1) (fun a z1 e => ?_)
      cases e
      exact w_if (fun _ => c3 _ _ (by omega)) (fun _ => w_some ⟨⟨L, by omega, h22, ho, hR⟩, ⟨L, by omega, h22⟩, fr_rf⟩)
    | succ u ih =>
      intro lo hi hu hlh hhL
      refine u_X13_offerList_1 ?_; unfold qm_X13_offerList_1
      refine w_le (by omega) (by omega) (fun hle => w_rdF h22 (w_le (by omega) (by omega) (fun _ => c3 _ _ (by omega)) (fun h9 => ?_))) (fun hlt => w_nzI (by decide) ?_)
      · obtain ⟨j, hj, e⟩ := ho lo h9
        obtain ⟨B, sg2, hw⟩ := hR j hj
        refine w_rdI ml21 rfl (by omega) e ?_
        rw [show (32 : Int32) * nI j = nI (32 * j) from pk_mul 32 j]
        refine w_cs1 (tr_same (o := 0) ml27 ml20 (by omega) (by omega) (by omega) (by omega) hv.1 hw.1) (fun a z1 e => ?_)
        cases e
        exact w_if (fun _ => c3 _ _ (by omega)) (fun _ => w_some ⟨⟨L, by omega, h22, ho, hR⟩, ⟨L, by omega, h22⟩, fr_rf⟩)
      · rw [nI_add, show nI (lo + hi) / 2 = nI ((lo + hi) / 2) from pk_div (d := 2) (by omega) (by omega) (by omega)]
        obtain ⟨j, hj, e⟩ := ho ((lo + hi) / 2) (by omega)
        obtain ⟨B, sg2, hw⟩ := hR j hj
        have hwl := hw.1.1
        refine w_rdI ml21 rfl (by omega) e ?_
        rw [show (32 : Int32) * nI j = nI (32 * j) from pk_mul 32 j]
        refine w_cs1 (tr_lesser (p := 0) ml20 ml27 (by omega) (by omega) (by omega) (by omega) hw.1 hv.1) (fun a z1 e => ?_)
        cases e
        refine w_if (fun _ => ?_) (fun _ => ?_)
        · refine u_X13_offerList_2 ?_; unfold qm_X13_offerList_2
          exact ih lo ((lo + hi) / 2) (by omega) (by omega) (by omega)
        · refine u_X13_offerList_2 ?_; unfold qm_X13_offerList_2
          rw [nI_1]
          exact ih ((lo + hi) / 2 + 1) hi (by omega) (by omega) (by omega)
  refine e_X13_offerList ?_
  refine u_X13_offerList_0 ?_; unfold qm_X13_offerList_0
  exact w_rdF h22 (srch L 0 L (by omega) (by omega) (Nat.le_refl _))
abbrev frO (g : Nat) : Prop := g < 1000 ∧ g ≠ 12 ∧ g ≠ 28 ∨ 3007 ≤ g ∧ g ≤ 3013
theorem bor01 {x y : Int32} (hx : x = 0 ∨ x = 1) (hy : y = 0 ∨ y = 1) : x ||| y = 0 ∨ x ||| y = 1 := by
  rcases hx with hx | hx <;> rcases hy with hy | hy <;> rw [hx, hy] <;> decide
theorem e_X13_offer {z : ow_MS} {Q : ow_MS → Prop} (H : Tt (fun K _ => qm_X13_offer_0 K z) Q) : Te (fun K => qe_X13_offer K z) Q := w_te0 H
theorem tm_offer {X : (Nat → Nat → Int32) → Prop} {b m L : Nat} {z : ow_MS} (hL : L < 2700) (h : oF X b m L z) (hM : mNet z 3000) : Te (fun K => qe_X13_offer K z) (fun z1 => oF X b m (L + 1) z1 ∧ fr frO z z1) := by
  refine e_X13_offer ?_; unfold qm_X13_offer_0
  refine w_cs0 (tm_pack (o := 0) pn3 (by omega) ml27 (by omega) (by omega) hM) (fun z1 ⟨d1, f1, _⟩ => ?_)
  have h1 : oF X b m L z1 := oF_fr f1 (fun g hg => by unfold frQ at hg; unfold per; omega) h
  have f1' : fr frO z z1 := fr_mono (fun g hg => by unfold frQ at hg; unfold frO; omega) f1
  obtain ⟨i1, i2, i3, i4, i5, i6, i7⟩ := h1
  have mono : (m = 0 → ∃ l, l ≤ L + 1 ∧ z1.1 22 = nI l) := fun e => by
    obtain ⟨l, h8, h9⟩ := i4 e
    exact ⟨l, by omega, h9⟩
  refine w_rdF i2 ?_
  have hmt : (nI m).toInt = (m : Int) := nI_toInt (by omega)
  have hm4 : m = 0 ∨ m = 1 ∨ m = 2 ∨ m = 3 := by omega
  rcases hm4 with e | e | e | e
  · subst e
    obtain ⟨l, h8, h9⟩ := i4 rfl
    obtain ⟨L9, a1, a2, a3, a4⟩ := i1.2.2.1
    have hlL : L9 = l := by
      rw [h9] at a2
      exact ((nI_eq (by omega) (by omega)).mp a2).symm
    subst hlL
    refine w_ifF (by rw [hmt]; omega) (w_ifT rfl (w_cs0 (tm_offerList (by omega) h9 a3 d1 a4) (fun z2 ⟨g1, ⟨l2, g2, g3⟩, g4⟩ => w_some ⟨⟨?_, by rw [(g4 30 (by omega)).1]; exact i2, by omega, fun _ => ⟨l2, by omega, g3⟩, fun e => by omega, fun e => by omega, fun e => by omega⟩, fr_tr f1' (fr_mono (fun g hg => Or.inl (by omega)) g4)⟩)))
    obtain ⟨j1, j2, j3, j4, j5, j6, j7⟩ := i1
    exact ⟨gTape_fr g4 (by omega) j1, gRows_fr g4 (by omega) j2, g1, gSum_fr g4 (by omega) (by omega) (by omega) j4, gCash_fr g4 (by omega) (by omega) (by omega) (by omega) (by omega) j5, gBrs_fr g4 (by omega) (by omega) (by omega) j6, gX_fr g4 (fun g hg => by omega) j7⟩
  · subst e
    obtain ⟨⟨⟨T, hT⟩, hfd⟩, hne⟩ := i5 rfl
    obtain ⟨A, sg, hv⟩ := d1
    have hvl := hv.1.1
    refine w_ifF (by rw [hmt]; omega) (w_ifF (by decide) (w_ifT rfl (w_rdF rfl (w_cs1 (tr_same (o := 0) (p := 0) ml27 ml28 (by omega) (by omega) (by omega) (by omega) hv.1 hT) (fun a z2 e => ?_)))))
    cases e
    have hor := bor01 hfd (bZ_01 (decide (tk sg A = T)))
    refine w_okZ hor (w_wrF (w_some ⟨⟨?_, rf_ot (by omega) i2, by omega, fun e => by omega, fun _ => ⟨⟨⟨T, hT⟩, ?_⟩, gNear_fr (P := fun g => g = 29) (fr_F rfl) (by omega) (by omega) hne⟩, fun e => by omega, fun e => by omega⟩, fr_F2 f1' (Or.inl (by omega))⟩))
    · exact gI_fr (P := fun g => g = 29) (fr_F rfl) (fun g hg => by rw [hg]; decide) i1
    · rw [po_usF_at]
      exact hor
  · subst e
    obtain ⟨N, n1, n2, n3⟩ := i6 rfl
    refine w_ifF (by rw [hmt]; omega) (w_ifF (by decide) (w_ifF (by decide) (w_ifT rfl (w_rdF n2 (w_cs1 (tm_offerRow (M := 1000) ml23 (by omega) (by omega) n1.2 (by omega) d1 n3) (fun a z2 hz => ?_)))))) 
    obtain ⟨N2, q1, q2, q3, q4⟩ := hz
    have q2 : a = nI N2 := q2
    have q3 : fr (fun g => g = 23) z1 z2 := q3
    refine w_wrF (w_some ⟨⟨?_, ?_, by omega, fun e => by omega, fun e => by omega, fun _ => ⟨N2, ⟨by omega, q1.2⟩, by rw [po_usF_at]; exact q2, q4⟩, fun e => by omega⟩, fr_F2 (fr_tr f1' (fr_mono (fun g hg => Or.inl (by omega)) q3)) (Or.inl (by omega))⟩)
    · exact gI_fr (P := fun g => g = 23 ∨ g = 24) (fr_F2 (fr_mono (fun g hg => Or.inl hg) q3) (Or.inr rfl)) (fun g hg => by rcases hg with hg | hg <;> rw [hg] <;> decide) i1
    · refine rf_ot (by omega) ?_
      rw [(q3 30 (by omega)).1]
      exact i2
  · subst e
    obtain ⟨N, n1, n2, n3⟩ := i7 rfl
    refine w_ifT (by rw [hmt]; omega) (w_rdF n2 (w_cs1 (tm_offerRow (M := 310) ml25 (by omega) (by omega) n1.2 (by omega) d1 n3) (fun a z2 hz => ?_)))
    obtain ⟨N2, q1, q2, q3, q4⟩ := hz
    have q2 : a = nI N2 := q2
    have q3 : fr (fun g => g = 25) z1 z2 := q3
    refine w_wrF (w_some ⟨⟨?_, ?_, by omega, fun e => by omega, fun e => by omega, fun e => by omega, fun _ => ⟨N2, ⟨by omega, q1.2⟩, by rw [po_usF_at]; exact q2, q4⟩⟩, fr_F2 (fr_tr f1' (fr_mono (fun g hg => Or.inl (by omega)) q3)) (Or.inl (by omega))⟩)
    · exact gI_fr (P := fun g => g = 25 ∨ g = 26) (fr_F2 (fr_mono (fun g hg => Or.inl hg) q3) (Or.inr rfl)) (fun g hg => by rcases hg with hg | hg <;> rw [hg] <;> decide) i1
    · refine rf_ot (by omega) ?_
      rw [(q3 30 (by omega)).1]
      exact i2
end
section
/-! 99zzs.moves -/
/-! the moves: without, build -/
abbrev frB (g : Nat) : Prop := g < 1000 ∧ g ≠ 12 ∧ g ≠ 28 ∨ 3001 ≤ g ∧ g ≤ 3013
theorem oNet_B {z z1 : ow_MS} {n : Nat} {A : rn_L} {sg : Nat → Bool} (hn : mw_net n) (hn3 : n ≠ 3000) (hf : fr frB z z1) (h : oNet z n A sg) : oNet z1 n A sg := oNet_fr hf (fun g hg => by
  have := net_mod hn
  unfold frB at hg
  omega) h
theorem oF_3 {X : (Nat → Nat → Int32) → Prop} {bb m L : Nat} {P : Nat → Prop} {z z1 : ow_MS} (hf : fr P z z1) (hP : ∀ g, P g → 1000 ≤ g) (h : oF X bb m L z) : oF X bb m L z1 := oF_fr hf (fun g hg => by
  have := hP g hg
  unfold per
  omega) h
section MV
variable {X : (Nat → Nat → Int32) → Prop} {bb m L n : Nat} {z : ow_MS} {A : rn_L} {sg : Nat → Bool}
theorem e_X13_without {r1 : Nat} {x2 : Int32} {x3 : Int32} {z : ow_MS} {Q : ow_MS → Prop} (H : Tt (fun K k => q_X13_without K k 0 x2 x3 0 0 r1 z) Q) : Te (fun K => qe_X13_without K r1 x2 x3 z) Q := w_te H
theorem u_X13_without_0 {x2 : Int32} {x3 : Int32} {x4 : Int32} {x5 : Int32} {r1 : Nat} {z : ow_MS} {Q : ow_MS → Prop} (H : Tt (fun K k => qm_X13_without_0 K (q_X13_without K k) x2 x3 x4 x5 r1 z) Q) : Tt (fun K k => q_X13_without K k 0 x2 x3 x4 x5 r1 z) Q := w_un (fun _ _ => rfl) H
theorem u_X13_without_1 {x2 : Int32} {x3 : Int32} {x4 : Int32} {x5 : Int32} {r1 : Nat} {z : ow_MS} {Q : ow_MS → Prop} (H : Tt (fun K k => qm_X13_without_1 K (q_X13_without K k) x2 x3 x4 x5 r1 z) Q) : Tt (fun K k => q_X13_without K k 1 x2 x3 x4 x5 r1 z) Q := w_un (fun _ _ => rfl) H
theorem u_X13_without_2 {x2 : Int32} {x3 : Int32} {x4 : Int32} {x5 : Int32} {r1 : Nat} {z : ow_MS} {Q : ow_MS → Prop} (H : Tt (fun K k => qm_X13_without_2 K (q_X13_without K k) x2 x3 x4 x5 r1 z) Q) : Tt (fun K k => q_X13_without K k 2 x2 x3 x4 x5 r1 z) Q := w_un (fun _ _ => rfl) H
theorem u_X13_without_3 {x2 : Int32} {x3 : Int32} {x4 : Int32} {x5 : Int32} {r1 : Nat} {z : ow_MS} {Q : ow_MS → Prop} (H : Tt (fun K k => qm_X13_without_3 K (q_X13_without K k) x2 x3 x4 x5 r1 z) Q) : Tt (fun K k => q_X13_without K k 3 x2 x3 x4 x5 r1 z) Q := w_un (fun _ _ => rfl) H
theorem tp_without {x y : Nat} (hn : mw_net n) (hn3 : n ≠ 3000) (hx : x < 40) (hy : y < 40) (hL : L < 2700) (hO : oNet z n A sg) (h : oF X bb m L z) : Te (fun K => qe_X13_without K n (nI x) (nI y) z) (fun z1 => oF X bb m (L + 1) z1 ∧ fr frB z z1) := by
  have hmn := net_mod hn
  have hl := hO.len
  have hC := hO.2.2.2
  have hd := wkF_ok hO.wk
  refine e_X13_without ?_
  refine u_X13_without_0 ?_; unfold qm_X13_without_0
  refine w_cs0 (bm_clear (A := A) pn3) (fun z3 ⟨b3, f3⟩ => w_cs0 (tn_signs pn3 hn (fun e => hn3 e.symm)) (fun z4 ⟨f4, s4⟩ => ?_))
  let I : ow_MS → Prop := fun y => fr (fun g => 3001 ≤ g ∧ g ≤ 3006) z y ∧ ∀ x, x < 40 → y.2.1 3006 x = z.2.1 (n + 6) x
  have oI : ∀ {y : ow_MS}, I y → oNet y n A sg := fun hI => oNet_fr hI.1 (fun g hg => by omega) hO
  have stI : ∀ {P : Nat → Prop} {y y2 : ow_MS}, I y → fr P y y2 → (∀ g, P g → 3001 ≤ g ∧ g ≤ 3005) → I y2 := fun hI hf hP => ⟨fr_tr hI.1 (fr_mono (fun g hg => by have := hP g hg; omega) hf), fun x hx => by rw [(hf 3006 (fun h9 => by have := hP _ h9; omega)).2.1]; exact hI.2 x hx⟩
  have out : ∀ (k c : Nat) (y1 : ow_MS), c + k = A.length → I y1 → bmE y1 3000 A (fun j => j < rn_b A c ∧ crs A j ≠ x ∧ crs A j ≠ y) c → Tt (fun K i => q_X13_without K i 1 (nI x) (nI y) (nI c) 0 n y1) (fun z1 => oF X bb m (L + 1) z1 ∧ fr frB z z1) := by
    intro k
    induction k with
    | zero =>
      intro c y1 hc hI hb
      have hce : c = A.length := by omega
      rw [hce, rn_b_len] at hb
      have hP : ∀ j, (j < A.flatten.length ∧ crs A j ≠ x ∧ crs A j ≠ y) → mtf A j < A.flatten.length ∧ crs A (mtf A j) ≠ x ∧ crs A (mtf A j) ≠ y := fun j hj => by
        rw [crs_mtf hd hj.1]
        exact ⟨mtf_lt hd hj.1, hj.2⟩
      have hs : ∀ j, (j < A.flatten.length ∧ crs A j ≠ x ∧ crs A j ≠ y) → s1 (y1.2.1 (3000 + 6) (crs A j)) := fun j hj => by
        obtain ⟨x1, x2, x3⟩ := hO.cx hj.1
        show s1 (y1.2.1 3006 (crs A j))
        rw [hI.2 _ (by omega)]
        exact s1_if x3
      have hN : mNet y1 3000 := bmE_net hO.wk hl (by omega) (fun j hj => hj.1) hP hs hb
      refine u_X13_without_1 ?_; unfold qm_X13_without_1
      exact w_rdF (lk_C (oI hI).1) (w_leT (by omega) (by omega) (w_cs0 (tm_offer hL (oF_3 hI.1 (fun g hg => by omega) h) hN) (fun y2 ⟨g1, g2⟩ => w_some ⟨g1, fr_tr (fr_mono (fun g hg => Or.inr (by omega)) hI.1) (fr_mono (fun g hg => by unfold frO at hg; unfold frB; omega) g2)⟩)))
    | succ k ih =>
      intro c y1 hc hI hb
      have m1 := rn_b_mono A c
      have m2 := rn_b_le A (c + 1)
      have inn : ∀ (k i : Nat) (y1 : ow_MS), i + k = rn_b A (c + 1) → rn_b A c ≤ i → I y1 → bm y1 3000 A (fun j => j < i ∧ crs A j ≠ x ∧ crs A j ≠ y) c → Tt (fun K i9 => q_X13_without K i9 2 (nI x) (nI y) (nI c) (nI i) n y1) (fun z1 => oF X bb m (L + 1) z1 ∧ fr frB z z1) := by
        intro k
        induction k with
        | zero =>
          intro i y1 hi hlo hI hb
          have hie : i = rn_b A (c + 1) := by omega
          rw [hie] at hb ⊢
          refine u_X13_without_2 ?_; unfold qm_X13_without_2
          rw [nI_1]
          exact w_rdI (pl3 hn) rfl (by omega) (lk_b (oI hI).1 (by omega)) (w_leT (by omega) (Nat.le_refl _) (w_cs0 (bm_end pn3 (by omega) hb) (fun y2 ⟨g1, g2⟩ => ih (c + 1) y2 (by omega) (stI hI g2 (fun g hg => by omega)) g1)))
        | succ k ihk =>
          intro i y1 hi hlo hI hb
          have hil : i < A.flatten.length := by omega
          have hc12 := (hO.cx hil).1
          have e4 := (lk_cu (oI hI).1 hil).1
          have skip : (crs A i = x ∨ crs A i = y) → Tt (fun K i9 => q_X13_without K i9 3 (nI x) (nI y) (nI c) (nI i) n y1) (fun z1 => oF X bb m (L + 1) z1 ∧ fr frB z z1) := by
            intro hxy
            refine u_X13_without_3 ?_; unfold qm_X13_without_3
            rw [nI_1]
            refine ihk (i + 1) y1 (by omega) (by omega) hI (bm_eq hb (fun j => ⟨fun h9 => ⟨by omega, h9.2⟩, fun h9 => ⟨?_, h9.2⟩⟩))
            by_cases hji : j = i
            · rw [hji] at h9
              exact absurd hxy (fun h8 => h8.elim h9.2.1 h9.2.2)
            · omega
          refine u_X13_without_2 ?_; unfold qm_X13_without_2
          rw [nI_1]
          refine w_rdI (pl3 hn) rfl (by omega) (lk_b (oI hI).1 (by omega)) (w_leF (by omega) (by omega) (w_rdI (pl4 hn) rfl (by omega) e4 (w_eqN (by omega) (by omega) (fun h9 => skip (Or.inl h9)) (fun h9 => w_rdI (pl4 hn) rfl (by omega) e4 (w_eqN (by omega) (by omega) (fun h8 => skip (Or.inr h8)) (fun h8 => w_rdI (pl4 hn) rfl (by omega) e4 (w_rdI (pl5 hn) rfl (by omega) (lk_cu (oI hI).1 hil).2 (w_cs0 (bm_add (i := i) pn3 (by omega) (fun j hj => by omega) (fun h7 => by omega) rfl rfl hb) (fun y2 ⟨g1, g2⟩ => ?_)))))))))
          refine u_X13_without_3 ?_; unfold qm_X13_without_3
          rw [nI_1]
          refine ihk (i + 1) y2 (by omega) (by omega) (stI hI g2 (fun g hg => by omega)) (bm_eq g1 (fun j => ⟨fun h7 => ?_, fun h7 => ?_⟩))
          · rcases h7 with h7 | h7
            · exact ⟨by omega, h7.2⟩
            · rw [h7]
              exact ⟨by omega, h9, h8⟩
          · by_cases hji : j = i
            · exact Or.inr hji
            · exact Or.inl ⟨by omega, h7.2⟩
      refine u_X13_without_1 ?_; unfold qm_X13_without_1
      exact w_rdF (lk_C (oI hI).1) (w_leF (by omega) (by omega) (w_rdI (pl3 hn) rfl (by omega) (lk_b (oI hI).1 (by omega)) (inn (rn_b A (c + 1) - rn_b A c) (rn_b A c) y1 (by omega) (Nat.le_refl _) hI hb.b)))
  refine out A.length 0 z4 (by omega) ⟨fr_tr (fr_mono (fun g hg => by omega) f3) (fr_mono (fun g hg => by omega) f4), fun x hx => ?_⟩ (bmE_eq (bmE_fr f4 (fun g hg => by omega) b3) (fun j => ⟨fun h9 => h9.elim, fun h9 => by rw [rn_b0] at h9; omega⟩))
  rw [show z4.2.1 3006 x = z3.2.1 (n + 6) x from s4 x hx, (f3 (n + 6) (by omega)).2.1]
theorem e_X13_put {x1 : Int32} {x2 : Int32} {x3 : Int32} {z : ow_MS} {Q : ow_MS → Prop} (H : Tt (fun K _ => qm_X13_put_0 K x1 x2 x3 z) Q) : Te (fun K => qe_X13_put K x1 x2 x3 z) Q := w_te0 H
theorem tp_put {i : Nat} {x u : Int32} (hi : i < 4) : Te (fun K => qe_X13_put K (nI i) x u z) (fun z1 => z1 = usI (usI z 31 i x) 32 i u) := by
  refine e_X13_put ?_; unfold qm_X13_put_0
  exact w_wrI ml31 rfl hi (w_wrI ml32 rfl hi (w_some rfl))
/-- the gap that a move names, and the two (four) visits that come -/
def pasG (V c i g : Nat) : Prop := g < i ∨ V ≤ g ∧ g - V < c
theorem u_X13_putAt_1 {x1 : Int32} {x2 : Int32} {x3 : Int32} {z : ow_MS} {Q : ow_MS → Prop} (H : Tt (fun K k => qm_X13_putAt_1 K (q_X13_putAt K k) x1 x2 x3 z) Q) : Tt (fun K k => q_X13_putAt K k 1 x1 x2 x3 z) Q := w_un (fun _ _ => rfl) H
theorem e_X13_putAt {x1 : Int32} {x2 : Int32} {x3 : Int32} {z : ow_MS} {Q : ow_MS → Prop} (H : Tt (fun K k => q_X13_putAt K k 0 x1 x2 x3 z) Q) : Te (fun K => qe_X13_putAt K x1 x2 x3 z) Q := w_te H
theorem u_X13_putAt_0 {x1 : Int32} {x2 : Int32} {x3 : Int32} {z : ow_MS} {Q : ow_MS → Prop} (H : Tt (fun K k => qm_X13_putAt_0 K (q_X13_putAt K k) x1 x2 x3 z) Q) : Tt (fun K k => q_X13_putAt K k 0 x1 x2 x3 z) Q := w_un (fun _ _ => rfl) H
theorem tp_putAt {g h gp V q : Nat} {x3 : Int32} {AA : rn_L} {P : Nat → Prop} (hV : V + 2 ≤ AA.flatten.length) (hV2 : h < 100 → V + 4 ≤ AA.flatten.length) (hlen : AA.flatten.length < 40) (hgp : gp < 100) (hg : g < 100) (hx3 : ∀ k, k < 100 → (nI k = x3 ↔ k = h)) (hP : ∀ j, P j → j < AA.flatten.length) (h0 : gp = g → ¬ P V ∧ ¬ P (V + 1)) (h1 : gp = h → ¬ P (V + 2) ∧ ¬ P (V + 3)) (c0 : z.2.1 31 0 = nI (crs AA V) ∧ z.2.1 32 0 = nI (uns AA V) ∧ z.2.1 31 1 = nI (crs AA (V + 1)) ∧ z.2.1 32 1 = nI (uns AA (V + 1))) (c1 : h < 100 → z.2.1 31 2 = nI (crs AA (V + 2)) ∧ z.2.1 32 2 = nI (uns AA (V + 2)) ∧ z.2.1 31 3 = nI (crs AA (V + 3)) ∧ z.2.1 32 3 = nI (uns AA (V + 3))) (hb : bm z 3000 AA P q) : Te (fun K => qe_X13_putAt K (nI gp) (nI g) x3 z) (fun z1 => bm z1 3000 AA (fun j => P j ∨ gp = g ∧ (j = V ∨ j = V + 1) ∨ gp = h ∧ (j = V + 2 ∨ j = V + 3)) q ∧ fr (fun g => g = 3001 ∨ g = 3004 ∨ g = 3005) z z1) := by
  have fin : ∀ (z1 : ow_MS), fr (fun g => g = 3001 ∨ g = 3004 ∨ g = 3005) z z1 → bm z1 3000 AA (fun j => P j ∨ gp = g ∧ (j = V ∨ j = V + 1)) q → Tt (fun K k => q_X13_putAt K k 1 (nI gp) (nI g) x3 z1) (fun z1 => bm z1 3000 AA (fun j => P j ∨ gp = g ∧ (j = V ∨ j = V + 1) ∨ gp = h ∧ (j = V + 2 ∨ j = V + 3)) q ∧ fr (fun g => g = 3001 ∨ g = 3004 ∨ g = 3005) z z1) := by
    intro z1 hf hb1
    refine u_X13_putAt_1 ?_; unfold qm_X13_putAt_1
    refine w_if (fun h9 => ?_) (fun h9 => w_some ⟨bm_eq hb1 (fun j => ⟨fun h8 => h8.imp id Or.inl, fun h8 => ?_⟩), hf⟩)
    · have hgh := (hx3 gp hgp).mp h9
      obtain ⟨n1, n2⟩ := h1 hgh
      have hV4 := hV2 (by omega)
      obtain ⟨d1, d2, d3, d4⟩ := c1 (by omega)
      have e31 := (hf 31 (by omega)).2.1
      have e32 := (hf 32 (by omega)).2.1
      refine w_rdI ml31 (show (2 : Int32) = nI 2 from rfl) (by omega) (by rw [e31]; exact d1) (w_rdI ml32 (show (2 : Int32) = nI 2 from rfl) (by omega) (by rw [e32]; exact d2) (w_cs0 (bm_add (i := V + 2) pn3 hlen (fun j hj => ?_) (fun hj => ?_) rfl rfl hb1) (fun z2 ⟨g1, g2⟩ => ?_)))
      · rcases hj with hj | hj
        · exact hP j hj
        · omega
      · rcases hj with hj | hj
        · exact n1 hj
        · omega
      · have e31' := (g2 31 (by omega)).2.1
        have e32' := (g2 32 (by omega)).2.1
        refine w_rdI ml31 (show (3 : Int32) = nI 3 from rfl) (by omega) (by rw [e31', e31]; exact d3) (w_rdI ml32 (show (3 : Int32) = nI 3 from rfl) (by omega) (by rw [e32', e32]; exact d4) (w_cs0 (bm_add (i := V + 3) pn3 hlen (fun j hj => ?_) (fun hj => ?_) rfl rfl g1) (fun z3 ⟨k1, k2⟩ => w_some ⟨bm_eq k1 (fun j => ⟨fun h8 => ?_, fun h8 => ?_⟩), fr_tr hf (fr_tr (fr_mono (fun g hg => by omega) g2) (fr_mono (fun g hg => by omega) k2))⟩)))
        · rcases hj with (hj | hj) | hj
          · exact hP j hj
          · omega
          · omega
        · rcases hj with (hj | hj) | hj
          · exact n2 hj
          · omega
          · omega
        · rcases h8 with ((h8 | h8) | h8) | h8
          · exact Or.inl h8
          · exact Or.inr (Or.inl h8)
          · exact Or.inr (Or.inr ⟨hgh, Or.inl h8⟩)
          · exact Or.inr (Or.inr ⟨hgh, Or.inr h8⟩)
        · rcases h8 with h8 | h8 | ⟨-, h8 | h8⟩
          · exact Or.inl (Or.inl (Or.inl h8))
          · exact Or.inl (Or.inl (Or.inr h8))
          · exact Or.inl (Or.inr h8)
          · exact Or.inr h8
    · rcases h8 with h8 | h8 | h8
      · exact Or.inl h8
      · exact Or.inr h8
      · exact absurd ((hx3 gp hgp).mpr h8.1) h9
  obtain ⟨d1, d2, d3, d4⟩ := c0
  refine e_X13_putAt ?_
  refine u_X13_putAt_0 ?_; unfold qm_X13_putAt_0
  refine w_eqN (by omega) (by omega) (fun h9 => ?_) (fun h9 => fin z fr_rf (bm_eq hb (fun j => ⟨Or.inl, fun h8 => h8.elim id (fun h7 => absurd h7.1 h9)⟩)))
  obtain ⟨n1, n2⟩ := h0 h9
  refine w_rdI ml31 nI_0.symm (by omega) d1 (w_rdI ml32 nI_0.symm (by omega) d2 (w_cs0 (bm_add (i := V) pn3 hlen hP n1 rfl rfl hb) (fun z2 ⟨g1, g2⟩ => ?_)))
  have e31 := (g2 31 (by omega)).2.1
  have e32 := (g2 32 (by omega)).2.1
  refine w_rdI ml31 (show (1 : Int32) = nI 1 from rfl) (by omega) (by rw [e31]; exact d3) (w_rdI ml32 (show (1 : Int32) = nI 1 from rfl) (by omega) (by rw [e32]; exact d4) (w_cs0 (bm_add (i := V + 1) pn3 hlen (fun j hj => ?_) (fun hj => ?_) rfl rfl g1) (fun z3 ⟨k1, k2⟩ => fin z3 (fr_tr (fr_mono (fun g hg => by omega) g2) (fr_mono (fun g hg => by omega) k2)) (bm_eq k1 (fun j => ⟨fun h8 => ?_, fun h8 => ?_⟩)))))
  · rcases hj with hj | hj
    · exact hP j hj
    · omega
  · rcases hj with hj | hj
    · exact n2 hj
    · omega
  · rcases h8 with (h8 | h8) | h8
    · exact Or.inl h8
    · exact Or.inr ⟨h9, Or.inl h8⟩
    · exact Or.inr ⟨h9, Or.inr h8⟩
  · rcases h8 with h8 | ⟨-, h8 | h8⟩
    · exact Or.inl (Or.inl h8)
    · exact Or.inl (Or.inr h8)
    · exact Or.inr h8
/-- a gap: behind a visit, or on a circle -/
def isG (A : rn_L) (g : Nat) : Prop := g < A.flatten.length ∨ A.flatten.length ≤ g ∧ g - A.flatten.length < A.length ∧ rn_b A (g - A.flatten.length) = rn_b A (g - A.flatten.length + 1)
theorem u_X13_isGap_1 {x1 : Int32} {r0 : Nat} {z : ow_MS} {Q : (Int32 × ow_MS) → Prop} (H : Tt (fun K k => qm_X13_isGap_1 K (q_X13_isGap K k) x1 r0 z) Q) : Tt (fun K k => q_X13_isGap K k 1 x1 r0 z) Q := w_un (fun _ _ => rfl) H
theorem e_X13_isGap {r0 : Nat} {x1 : Int32} {z : ow_MS} {Q : (Int32 × ow_MS) → Prop} (H : Tt (fun K k => q_X13_isGap K k 0 x1 r0 z) Q) : Te (fun K => qe_X13_isGap K r0 x1 z) Q := w_te H
theorem u_X13_isGap_0 {x1 : Int32} {r0 : Nat} {z : ow_MS} {Q : (Int32 × ow_MS) → Prop} (H : Tt (fun K k => qm_X13_isGap_0 K (q_X13_isGap K k) x1 r0 z) Q) : Tt (fun K k => q_X13_isGap K k 0 x1 r0 z) Q := w_un (fun _ _ => rfl) H
theorem tp_isGap {g : Nat} (hn : mw_net n) (hO : oNet z n A sg) (hg : g < A.flatten.length + A.length) : Te (fun K => qe_X13_isGap K n (nI g) z) (fun r => r.2 = z ∧ (r.1 = 0 ∧ ¬ isG A g ∨ r.1 = 1 ∧ isG A g)) := by
  have hl := hO.len
  have hC := hO.2.2.2
  have c1 : isG A g → Tt (fun K k => q_X13_isGap K k 1 (nI g) n z) (fun r => r.2 = z ∧ (r.1 = 0 ∧ ¬ isG A g ∨ r.1 = 1 ∧ isG A g)) := by
    intro hi
    refine u_X13_isGap_1 ?_; unfold qm_X13_isGap_1
    exact w_okZ (Or.inr rfl) (w_some ⟨rfl, Or.inr ⟨rfl, hi⟩⟩)
  refine e_X13_isGap ?_
  refine u_X13_isGap_0 ?_; unfold qm_X13_isGap_0
  refine w_rdF hO.1.V (w_lt (by omega) (by omega) (fun h9 => c1 (Or.inl h9)) (fun h9 => w_rdF hO.1.V ?_))
  rw [pk_sub h9]
  refine w_cs1 (tn_circle hn (by omega) (by omega) (by omega) hO.1.1) (fun a z1 e => ?_)
  cases e
  by_cases hb : rn_b A (g - A.flatten.length) = rn_b A (g - A.flatten.length + 1)
  · rw [if_pos hb]
    exact w_ifF (by decide) (c1 (Or.inr ⟨h9, by omega, hb⟩))
  · rw [if_neg hb]
    refine w_ifT rfl (w_okZ (Or.inl rfl) (w_some ⟨rfl, Or.inl ⟨rfl, fun h8 => ?_⟩⟩))
    rcases h8 with h8 | ⟨h6, h7, h8⟩
    · omega
    · exact hb h8
theorem u_X13_build_4 {x2 : Int32} {x3 : Int32} {x4 : Int32} {x5 : Int32} {r1 : Nat} {z : ow_MS} {Q : ow_MS → Prop} (H : Tt (fun K k => qm_X13_build_4 K (q_X13_build K k) x2 x3 x4 x5 r1 z) Q) : Tt (fun K k => q_X13_build K k 4 x2 x3 x4 x5 r1 z) Q := w_un (fun _ _ => rfl) H
theorem u_X13_build_1 {x2 : Int32} {x3 : Int32} {x4 : Int32} {x5 : Int32} {r1 : Nat} {z : ow_MS} {Q : ow_MS → Prop} (H : Tt (fun K k => qm_X13_build_1 K (q_X13_build K k) x2 x3 x4 x5 r1 z) Q) : Tt (fun K k => q_X13_build K k 1 x2 x3 x4 x5 r1 z) Q := w_un (fun _ _ => rfl) H
theorem u_X13_build_3 {x2 : Int32} {x3 : Int32} {x4 : Int32} {x5 : Int32} {r1 : Nat} {z : ow_MS} {Q : ow_MS → Prop} (H : Tt (fun K k => qm_X13_build_3 K (q_X13_build K k) x2 x3 x4 x5 r1 z) Q) : Tt (fun K k => q_X13_build K k 3 x2 x3 x4 x5 r1 z) Q := w_un (fun _ _ => rfl) H
theorem u_X13_build_2 {x2 : Int32} {x3 : Int32} {x4 : Int32} {x5 : Int32} {r1 : Nat} {z : ow_MS} {Q : ow_MS → Prop} (H : Tt (fun K k => qm_X13_build_2 K (q_X13_build K k) x2 x3 x4 x5 r1 z) Q) : Tt (fun K k => q_X13_build K k 2 x2 x3 x4 x5 r1 z) Q := w_un (fun _ _ => rfl) H
theorem e_X13_build {r1 : Nat} {x2 : Int32} {x3 : Int32} {z : ow_MS} {Q : ow_MS → Prop} (H : Tt (fun K k => q_X13_build K k 0 x2 x3 0 0 r1 z) Q) : Te (fun K => qe_X13_build K r1 x2 x3 z) Q := w_te H
theorem u_X13_build_0 {x2 : Int32} {x3 : Int32} {x4 : Int32} {x5 : Int32} {r1 : Nat} {z : ow_MS} {Q : ow_MS → Prop} (H : Tt (fun K k => qm_X13_build_0 K (q_X13_build K k) x2 x3 x4 x5 r1 z) Q) : Tt (fun K k => q_X13_build K k 0 x2 x3 x4 x5 r1 z) Q := w_un (fun _ _ => rfl) H
theorem tp_build {g h V : Nat} {x3 : Int32} {AA : rn_L} (hn : mw_net n) (hn3 : n ≠ 3000) (hO : oNet z n A sg) (hVe : V = A.flatten.length) (hpre : ∀ i, i < V → vAt AA i = vAt A i) (hV : V + 2 ≤ AA.flatten.length) (hV2 : h < 100 → V + 4 ≤ AA.flatten.length) (hlen : AA.flatten.length < 40) (hg : isG A g) (hh : h < 100 → isG A h) (hhb : h < 100 ∨ h = 1000) (hx3 : ∀ k, k < 100 → (nI k = x3 ↔ k = h)) (c0 : z.2.1 31 0 = nI (crs AA V) ∧ z.2.1 32 0 = nI (uns AA V) ∧ z.2.1 31 1 = nI (crs AA (V + 1)) ∧ z.2.1 32 1 = nI (uns AA (V + 1))) (c1 : h < 100 → z.2.1 31 2 = nI (crs AA (V + 2)) ∧ z.2.1 32 2 = nI (uns AA (V + 2)) ∧ z.2.1 31 3 = nI (crs AA (V + 3)) ∧ z.2.1 32 3 = nI (uns AA (V + 3))) : Te (fun K => qe_X13_build K n (nI g) x3 z) (fun z1 => bmE z1 3000 AA (fun j => j < V + 2 ∨ h < 100 ∧ j < V + 4) A.length ∧ fr (fun g => 3001 ≤ g ∧ g ≤ 3006) z z1 ∧ (∀ x, x < V / 2 → z1.2.1 3006 x = z.2.1 (n + 6) x)) := by
  have hmn := net_mod hn
  have hl := hO.len
  have hC := hO.2.2.2
  have hgb : g < V + A.length := by
    rcases hg with hg | ⟨h1, h2, -⟩ <;> omega
  let I : ow_MS → Prop := fun y => fr (fun g => 3001 ≤ g ∧ g ≤ 3005) z y
  have oI : ∀ {y : ow_MS}, I y → oNet y n A sg := fun hI => oNet_fr hI (fun g hg => by omega) hO
  have stI : ∀ {P : Nat → Prop} {y y2 : ow_MS}, I y → fr P y y2 → (∀ g, P g → 3001 ≤ g ∧ g ≤ 3005) → I y2 := fun hI hf hP => fr_tr hI (fr_mono hP hf)
  have cI0 : ∀ {y : ow_MS}, I y → y.2.1 31 0 = nI (crs AA V) ∧ y.2.1 32 0 = nI (uns AA V) ∧ y.2.1 31 1 = nI (crs AA (V + 1)) ∧ y.2.1 32 1 = nI (uns AA (V + 1)) := fun hI => by rw [(hI 31 (by omega)).2.1, (hI 32 (by omega)).2.1]; exact c0
  have cI1 : ∀ {y : ow_MS}, I y → h < 100 → y.2.1 31 2 = nI (crs AA (V + 2)) ∧ y.2.1 32 2 = nI (uns AA (V + 2)) ∧ y.2.1 31 3 = nI (crs AA (V + 3)) ∧ y.2.1 32 3 = nI (uns AA (V + 3)) := fun hI hh => by rw [(hI 31 (by omega)).2.1, (hI 32 (by omega)).2.1]; exact c1 hh
  let PP : Nat → Nat → Nat → Prop := fun c i j => j < i ∨ pasG V c i g ∧ (j = V ∨ j = V + 1) ∨ h < 100 ∧ pasG V c i h ∧ (j = V + 2 ∨ j = V + 3)
  have PPlt : ∀ c i, i ≤ V → ∀ j, PP c i j → j < AA.flatten.length := by
    intro c i hi j hj
    rcases hj with hj | hj | hj
    · omega
    · omega
    · have := hV2 hj.1
      omega
  have puts : ∀ {y : ow_MS} {q : Nat} (gp c i c2 i2 : Nat), gp < 100 → i ≤ V → i2 ≤ V → I y → (∀ k, k < 100 ∨ k = 1000 → (pasG V c2 i2 k ↔ pasG V c i k ∨ k = gp)) → (∀ k, k = gp → ¬ pasG V c i k) → bm y 3000 AA (fun j => j < i2 ∨ pasG V c i g ∧ (j = V ∨ j = V + 1) ∨ h < 100 ∧ pasG V c i h ∧ (j = V + 2 ∨ j = V + 3)) q → Te (fun K => qe_X13_putAt K (nI gp) (nI g) x3 y) (fun z1 => bm z1 3000 AA (PP c2 i2) q ∧ fr (fun g => g = 3001 ∨ g = 3004 ∨ g = 3005) y z1) := by
    intro y q gp c i c2 i2 hgp hi hi2 hI hpas hno hb
    refine w_monoE (tp_putAt (h := h) (V := V) hV hV2 hlen hgp (by omega) hx3 (fun j hj => ?_) (fun e => ?_) (fun e => ?_) (cI0 hI) (cI1 hI) hb) (fun z1 ⟨g1, g2⟩ => ⟨bm_eq g1 (fun j => ?_), g2⟩)
    · rcases hj with hj | hj | hj
      · omega
      · omega
      · have := hV2 hj.1
        omega
    · have := hno g e.symm
      constructor
      · rintro (h9 | h9 | h9)
        · omega
        · exact this h9.1
        · omega
      · rintro (h9 | h9 | h9)
        · omega
        · exact this h9.1
        · omega
    · have := hno h e.symm
      constructor
      · rintro (h9 | h9 | h9)
        · omega
        · omega
        · exact this h9.2.1
      · rintro (h9 | h9 | h9)
        · omega
        · omega
        · exact this h9.2.1
    · have eg := hpas g (by omega)
      have eh := hpas h hhb
      show _ ↔ (j < i2 ∨ pasG V c2 i2 g ∧ (j = V ∨ j = V + 1) ∨ h < 100 ∧ pasG V c2 i2 h ∧ (j = V + 2 ∨ j = V + 3))
      constructor
      · rintro ((h9 | h9 | h9) | h9 | h9)
        · exact Or.inl h9
        · exact Or.inr (Or.inl ⟨eg.mpr (Or.inl h9.1), h9.2⟩)
        · exact Or.inr (Or.inr ⟨h9.1, eh.mpr (Or.inl h9.2.1), h9.2.2⟩)
        · exact Or.inr (Or.inl ⟨eg.mpr (Or.inr h9.1.symm), h9.2⟩)
        · exact Or.inr (Or.inr ⟨by omega, eh.mpr (Or.inr h9.1.symm), h9.2⟩)
      · rintro (h9 | h9 | h9)
        · exact Or.inl (Or.inl h9)
        · rcases eg.mp h9.1 with h8 | h8
          · exact Or.inl (Or.inr (Or.inl ⟨h8, h9.2⟩))
          · exact Or.inr (Or.inl ⟨h8.symm, h9.2⟩)
        · rcases eh.mp h9.2.1 with h8 | h8
          · exact Or.inl (Or.inr (Or.inr ⟨h9.1, h8, h9.2.2⟩))
          · exact Or.inr (Or.inr ⟨h8.symm, h9.2.2⟩)
  let Q : ow_MS → Prop := fun z1 => bmE z1 3000 AA (fun j => j < V + 2 ∨ h < 100 ∧ j < V + 4) A.length ∧ fr (fun g => 3001 ≤ g ∧ g ≤ 3006) z z1 ∧ (∀ x, x < V / 2 → z1.2.1 3006 x = z.2.1 (n + 6) x)
  have l4 : ∀ (k x : Nat) (y : ow_MS), x + k = V / 2 → fr (fun g => 3001 ≤ g ∧ g ≤ 3006) z y → bmE y 3000 AA (fun j => j < V + 2 ∨ h < 100 ∧ j < V + 4) A.length → (∀ x', x' < x → y.2.1 3006 x' = z.2.1 (n + 6) x') → Tt (fun K i => q_X13_build K i 4 (nI g) x3 (nI x) 0 n y) Q := by
    intro k
    induction k with
    | zero =>
      intro x y hx hf hb hs
      have o2 : oNet y n A sg := oNet_fr hf (fun g hg => by omega) hO
      refine u_X13_build_4 ?_; unfold qm_X13_build_4
      refine w_rdF o2.1.V (w_nzI (by decide) ?_)
      rw [show nI A.flatten.length / 2 = nI (A.flatten.length / 2) from pk_div (d := 2) (by omega) (by omega) (by omega)]
      exact w_leT (by omega) (by omega) (w_some ⟨hb, hf, fun x' hx' => hs x' (by omega)⟩)
    | succ k ih =>
      intro x y hx hf hb hs
      have o2 : oNet y n A sg := oNet_fr hf (fun g hg => by omega) hO
      refine u_X13_build_4 ?_; unfold qm_X13_build_4
      refine w_rdF o2.1.V (w_nzI (by decide) ?_)
      rw [show nI A.flatten.length / 2 = nI (A.flatten.length / 2) from pk_div (d := 2) (by omega) (by omega) (by omega), nI_1]
      refine w_leF (by omega) (by omega) (w_rdI (pl6 hn) rfl (by omega) rfl (w_wrI (pl6 pn3) rfl (by omega) (ih (x + 1) _ (by omega) (fr_I2 hf (by omega)) (bmE_fr (F := fun g => g = 3006) (fr_I rfl) (fun g hg => by omega) hb) (fun x' hx' => ?_))))
      by_cases he : x' = x
      · rw [he]
        show (usI y 3006 x (y.2.1 (n + 6) x)).2.1 3006 x = _
        rw [po_usI_at, (hf (n + 6) (by omega)).2.1]
      · exact rd_ne he (hs x' (by omega))
  have out : ∀ (k c : Nat) (y : ow_MS), c + k = A.length → I y → bmE y 3000 AA (PP c (rn_b A c)) c → Tt (fun K i => q_X13_build K i 1 (nI g) x3 (nI c) 0 n y) Q := by
    intro k
    induction k with
    | zero =>
      intro c y hc hI hb
      have hce : c = A.length := by omega
      rw [hce, rn_b_len, ← hVe] at hb
      have pg : ∀ k, isG A k → pasG V A.length V k := by
        intro k hk
        rcases hk with hk | ⟨h1, h2, -⟩
        · exact Or.inl (by omega)
        · exact Or.inr ⟨by omega, by omega⟩
      refine u_X13_build_1 ?_; unfold qm_X13_build_1
      refine w_rdF (lk_C (oI hI).1) (w_leT (by omega) (by omega) (l4 (V / 2) 0 y (by omega) (fr_mono (fun g hg => by omega) hI) (bmE_eq hb (fun j => ?_)) (fun x hx => by omega)))
      show (j < V ∨ pasG V A.length V g ∧ (j = V ∨ j = V + 1) ∨ h < 100 ∧ pasG V A.length V h ∧ (j = V + 2 ∨ j = V + 3)) ↔ _
      constructor
      · rintro (h9 | h9 | h9)
        · exact Or.inl (by omega)
        · exact Or.inl (by omega)
        · exact Or.inr ⟨h9.1, by omega⟩
      · intro h9
        by_cases h1 : j < V
        · exact Or.inl h1
        · by_cases h2 : j < V + 2
          · exact Or.inr (Or.inl ⟨pg g hg, by omega⟩)
          · rcases h9 with h9 | h9
            · omega
            · exact Or.inr (Or.inr ⟨h9.1, pg h (hh h9.1), by omega⟩)
    | succ k ih =>
      intro c y hc hI hb
      have m1 := rn_b_mono A c
      have m2 := rn_b_le A (c + 1)
      have inn : ∀ (k i : Nat) (y : ow_MS), i + k = rn_b A (c + 1) → rn_b A c ≤ i → I y → bm y 3000 AA (PP (c + 1) i) c → Tt (fun K i9 => q_X13_build K i9 3 (nI g) x3 (nI c) (nI i) n y) Q := by
        intro k
        induction k with
        | zero =>
          intro i y hi hlo hI hb
          have hie : i = rn_b A (c + 1) := by omega
          rw [hie] at hb ⊢
          refine u_X13_build_3 ?_; unfold qm_X13_build_3
          rw [nI_1]
          exact w_rdI (pl3 hn) rfl (by omega) (lk_b (oI hI).1 (by omega)) (w_leT (by omega) (Nat.le_refl _) (w_cs0 (bm_end pn3 (by omega) hb) (fun y2 ⟨g1, g2⟩ => ih (c + 1) y2 (by omega) (stI hI g2 (fun g hg => by omega)) g1)))
        | succ k ihk =>
          intro i y hi hlo hI hb
          have hil : i < A.flatten.length := by omega
          have ev := hpre i (by omega)
          refine u_X13_build_3 ?_; unfold qm_X13_build_3
          rw [nI_1]
          refine w_rdI (pl3 hn) rfl (by omega) (lk_b (oI hI).1 (by omega)) (w_leF (by omega) (by omega) (w_rdI (pl4 hn) rfl (by omega) (lk_cu (oI hI).1 hil).1 (w_rdI (pl5 hn) rfl (by omega) (lk_cu (oI hI).1 hil).2 (w_cs0 (bm_add (i := i) pn3 hlen (PPlt _ _ (by omega)) (fun h9 => ?_) (by unfold crs; rw [ev]) (by unfold uns; rw [ev]) hb) (fun y2 ⟨g1, g2⟩ => w_cs0 (puts i (c + 1) i (c + 1) (i + 1) (by omega) (by omega) (by omega) (stI hI g2 (fun g hg => by omega)) (fun k hk => ?_) (fun k hk => ?_) (bm_eq g1 (fun j => ?_))) (fun y3 ⟨k1, k2⟩ => ?_))))))
          · rcases h9 with h9 | h9 | h9 <;> omega
          · unfold pasG
            omega
          · unfold pasG
            omega
          · show ((j < i ∨ pasG V (c + 1) i g ∧ (j = V ∨ j = V + 1) ∨ h < 100 ∧ pasG V (c + 1) i h ∧ (j = V + 2 ∨ j = V + 3)) ∨ j = i) ↔ _
            constructor
            · rintro ((h9 | h9 | h9) | h9)
              · exact Or.inl (by omega)
              · exact Or.inr (Or.inl h9)
              · exact Or.inr (Or.inr h9)
              · exact Or.inl (by omega)
            · rintro (h9 | h9 | h9)
              · by_cases hji : j = i
                · exact Or.inr hji
                · exact Or.inl (Or.inl (by omega))
              · exact Or.inl (Or.inr (Or.inl h9))
              · exact Or.inl (Or.inr (Or.inr h9))
          · rw [nI_1]
            exact ihk (i + 1) y3 (by omega) (by omega) (stI (stI hI g2 (fun g hg => by omega)) k2 (fun g hg => by omega)) k1
      have l2 : ∀ (y : ow_MS), I y → bm y 3000 AA (PP (c + 1) (rn_b A c)) c → Tt (fun K i9 => q_X13_build K i9 2 (nI g) x3 (nI c) 0 n y) Q := by
        intro y hI hb
        refine u_X13_build_2 ?_; unfold qm_X13_build_2
        exact w_rdI (pl3 hn) rfl (by omega) (lk_b (oI hI).1 (by omega)) (inn (rn_b A (c + 1) - rn_b A c) (rn_b A c) y (by omega) (Nat.le_refl _) hI hb)
      refine u_X13_build_1 ?_; unfold qm_X13_build_1
      refine w_rdF (lk_C (oI hI).1) (w_leF (by omega) (by omega) (w_cs1 (tn_circle hn (by omega) (by omega) (by omega) (oI hI).1.1) (fun a y9 e => ?_)))
      cases e
      by_cases hci : rn_b A c = rn_b A (c + 1)
      · rw [if_pos hci]
        refine w_ifF (by decide) (w_rdF (oI hI).1.V ?_)
        rw [nI_add, ← hVe]
        refine w_cs0 (puts (V + c) c (rn_b A c) (c + 1) (rn_b A c) (by omega) (by omega) (by omega) hI (fun k hk => ?_) (fun k hk => ?_) hb.b) (fun y3 ⟨k1, k2⟩ => l2 y3 (stI hI k2 (fun g hg => by omega)) k1)
        · unfold pasG
          omega
        · unfold pasG
          omega
      · rw [if_neg hci]
        refine w_ifT rfl (l2 y hI (bm_eq hb.b (fun j => ?_)))
        -- the gap of a component that is no circle is none of ours
        have ng : ∀ k, isG A k → (pasG V c (rn_b A c) k ↔ pasG V (c + 1) (rn_b A c) k) := by
          intro k hk
          unfold pasG
          constructor
          · omega
          · intro h9
            rcases h9 with h9 | h9
            · exact Or.inl h9
            · by_cases hkc : k - V = c
              · exfalso
                rcases hk with hk | ⟨h1, h2, h3⟩
                · omega
                · rw [← hVe, hkc] at h3
                  exact hci h3
              · exact Or.inr (by omega)
        show (j < rn_b A c ∨ pasG V c (rn_b A c) g ∧ (j = V ∨ j = V + 1) ∨ h < 100 ∧ pasG V c (rn_b A c) h ∧ (j = V + 2 ∨ j = V + 3)) ↔ (j < rn_b A c ∨ pasG V (c + 1) (rn_b A c) g ∧ (j = V ∨ j = V + 1) ∨ h < 100 ∧ pasG V (c + 1) (rn_b A c) h ∧ (j = V + 2 ∨ j = V + 3))
        rw [ng g hg]
        constructor
        · rintro (h9 | h9 | h9)
          · exact Or.inl h9
          · exact Or.inr (Or.inl h9)
          · exact Or.inr (Or.inr ⟨h9.1, (ng h (hh h9.1)).mp h9.2.1, h9.2.2⟩)
        · rintro (h9 | h9 | h9)
          · exact Or.inl h9
          · exact Or.inr (Or.inl h9)
          · exact Or.inr (Or.inr ⟨h9.1, (ng h (hh h9.1)).mpr h9.2.1, h9.2.2⟩)
  refine e_X13_build ?_
  refine u_X13_build_0 ?_; unfold qm_X13_build_0
  refine w_cs0 (bm_clear (A := AA) pn3) (fun z3 ⟨b3, f3⟩ => out A.length 0 z3 (by omega) (fr_mono (fun g hg => by omega) f3) (bmE_eq b3 (fun j => ⟨fun h9 => h9.elim, fun h9 => ?_⟩)))
  rcases h9 with h9 | h9 | h9
  · rw [rn_b0] at h9
    omega
  · have := h9.1
    unfold pasG at this
    rw [rn_b0] at this
    omega
  · have := h9.2.1
    unfold pasG at this
    rw [rn_b0] at this
    omega
end MV
end
section
/-! 99zzt.come -/
/-! the moves: oneComes, twoAt, twoCome, twoGo -/
theorem okF_app {A : rn_L} {B : List (Nat × Nat)} {c d : Nat} (hA : okF A.flatten c) (hB : okB B c d) : okF (A ++ [B]).flatten (c + d) := by
  have h1 : okB A.flatten 0 c := ⟨hA.1, fun p => by rw [hA.2]; omega⟩
  have h3 := okB_app h1 (by rw [Nat.zero_add]; exact hB)
  rw [List.flatten_append]
  have e : [B].flatten = B := by simp
  rw [e]
  exact ⟨h3.1, fun p => by rw [h3.2]; omega⟩
theorem app_l {A : rn_L} {B : List (Nat × Nat)} {i : Nat} (hi : i < A.flatten.length) : vAt (A ++ [B]) i = vAt A i := by
  refine vAt_eq ?_
  rw [List.flatten_append, List.getElem?_append_left hi]
  exact vAt_of hi
theorem app_r {A : rn_L} {B : List (Nat × Nat)} {i : Nat} {p : Nat × Nat} (hi : B[i]? = some p) : vAt (A ++ [B]) (A.flatten.length + i) = p := by
  refine vAt_eq ?_
  rw [List.flatten_append, List.getElem?_append_right (by omega), Nat.add_sub_cancel_left]
  have e : [B].flatten = B := by simp
  rw [e]
  exact hi
theorem app_len {A : rn_L} {B : List (Nat × Nat)} : (A ++ [B]).flatten.length = A.flatten.length + B.length := by
  rw [List.flatten_append, List.length_append]
  simp
section MV2
variable {X : (Nat → Nat → Int32) → Prop} {bb m L n : Nat} {z : ow_MS} {A : rn_L} {sg : Nat → Bool}
/-- the signs of a net with crossings more -/
theorem sg_app {z z1 : ow_MS} {B : List (Nat × Nat)} {c d : Nat} (hO : oNet z n A sg) (hok : okF A.flatten c) (hB : okB B c d) (hs : ∀ x, x < c → z1.2.1 3006 x = z.2.1 (n + 6) x) (hs2 : ∀ x, c ≤ x → x < c + d → s1 (z1.2.1 3006 x)) : ∀ j, j < (A ++ [B]).flatten.length → s1 (z1.2.1 (3000 + 6) (crs (A ++ [B]) j)) := by
  intro j hj
  show s1 (z1.2.1 3006 (crs (A ++ [B]) j))
  rw [app_len] at hj
  by_cases hjA : j < A.flatten.length
  · have e : crs (A ++ [B]) j = crs A j := by unfold crs; rw [app_l hjA]
    obtain ⟨x1, x2, x3⟩ := hO.cx hjA
    have hca : crs A j < c := ((hok.2 _).mp (List.mem_of_getElem? (vAt_of hjA))).1
    rw [e, hs _ hca]
    exact s1_if x3
  · obtain ⟨i, rfl⟩ : ∃ i, j = A.flatten.length + i := ⟨j - A.flatten.length, by omega⟩
    have hi := List.getElem?_eq_getElem (show i < B.length by omega)
    have hm := (hB.2 _).mp (List.mem_of_getElem? hi)
    have e : crs (A ++ [B]) (A.flatten.length + i) = (B[i]'(by omega)).1 := by unfold crs; rw [app_r hi]
    rw [e]
    exact hs2 _ hm.1 hm.2.1
theorem neg_x3 : ∀ k : Nat, k < 100 → (nI k = (-1 : Int32) ↔ k = 1000) := fun k hk => ⟨fun e => absurd e (rn_neg1 (by omega)), fun e => by omega⟩
theorem u_X13_oneComes_1 {x2 : Int32} {x3 : Int32} {x4 : Int32} {r1 : Nat} {t0 : Int32} {t1 : Int32} {z : ow_MS} {Q : ow_MS → Prop} (H : Tt (fun K k => qm_X13_oneComes_1 K (q_X13_oneComes K k) x2 x3 x4 r1 t0 t1 z) Q) : Tt (fun K k => q_X13_oneComes K k 1 x2 x3 x4 r1 t0 t1 z) Q := w_un (fun _ _ => rfl) H
theorem u_X13_oneComes_4 {x2 : Int32} {x3 : Int32} {x4 : Int32} {r1 : Nat} {t0 : Int32} {t1 : Int32} {z : ow_MS} {Q : ow_MS → Prop} (H : Tt (fun K k => qm_X13_oneComes_4 K (q_X13_oneComes K k) x2 x3 x4 r1 t0 t1 z) Q) : Tt (fun K k => q_X13_oneComes K k 4 x2 x3 x4 r1 t0 t1 z) Q := w_un (fun _ _ => rfl) H
theorem u_X13_oneComes_2 {x2 : Int32} {x3 : Int32} {x4 : Int32} {r1 : Nat} {t0 : Int32} {t1 : Int32} {z : ow_MS} {Q : ow_MS → Prop} (H : Tt (fun K k => qm_X13_oneComes_2 K (q_X13_oneComes K k) x2 x3 x4 r1 t0 t1 z) Q) : Tt (fun K k => q_X13_oneComes K k 2 x2 x3 x4 r1 t0 t1 z) Q := w_un (fun _ _ => rfl) H
theorem u_X13_oneComes_3 {x2 : Int32} {x3 : Int32} {x4 : Int32} {r1 : Nat} {t0 : Int32} {t1 : Int32} {z : ow_MS} {Q : ow_MS → Prop} (H : Tt (fun K k => qm_X13_oneComes_3 K (q_X13_oneComes K k) x2 x3 x4 r1 t0 t1 z) Q) : Tt (fun K k => q_X13_oneComes K k 3 x2 x3 x4 r1 t0 t1 z) Q := w_un (fun _ _ => rfl) H
theorem e_X13_oneComes {r1 : Nat} {z : ow_MS} {Q : ow_MS → Prop} (H : Tt (fun K k => q_X13_oneComes K k 0 0 0 0 r1 0 0 z) Q) : Te (fun K => qe_X13_oneComes K r1 z) Q := w_te H
theorem u_X13_oneComes_0 {x2 : Int32} {x3 : Int32} {x4 : Int32} {r1 : Nat} {t0 : Int32} {t1 : Int32} {z : ow_MS} {Q : ow_MS → Prop} (H : Tt (fun K k => qm_X13_oneComes_0 K (q_X13_oneComes K k) x2 x3 x4 r1 t0 t1 z) Q) : Tt (fun K k => q_X13_oneComes K k 0 x2 x3 x4 r1 t0 t1 z) Q := w_un (fun _ _ => rfl) H
theorem tp_oneComes (hn : mw_net n) (hn3 : n ≠ 3000) (hV : A.flatten.length ≤ 22) (hL : L + 4 * (A.flatten.length + A.length) ≤ 2700) (hO : oNet z n A sg) (h : oF X bb m L z) : Te (fun K => qe_X13_oneComes K n z) (fun z1 => (∃ L2, L2 ≤ L + 4 * (A.flatten.length + A.length) ∧ oF X bb m L2 z1) ∧ fr frB z z1) := by
  have hC := hO.2.2.2
  obtain ⟨c, hok, hc12⟩ := hO.2.2.1
  have hVc := okF_len hok
  let Q : ow_MS → Prop := fun z1 => (∃ L2, L2 ≤ L + 4 * (A.flatten.length + A.length) ∧ oF X bb m L2 z1) ∧ fr frB z z1
  have out : ∀ (k g : Nat) (y : ow_MS), g + k = A.flatten.length + A.length → fr frB z y → (∃ L2, L2 ≤ L + 4 * g ∧ oF X bb m L2 y) → Tt (fun K i => q_X13_oneComes K i 1 (nI c) (nI g) 0 n 0 0 y) Q := by
    intro k
    induction k with
    | zero =>
      intro g y hg hf ⟨L2, hL2, ho⟩
      have o2 := oNet_B hn hn3 hf hO
      refine u_X13_oneComes_1 ?_; unfold qm_X13_oneComes_1
      refine w_rdF o2.1.V (w_rdF (lk_C o2.1) ?_)
      rw [nI_add]
      exact w_leT (by omega) (by omega) (w_some ⟨⟨L2, by omega, ho⟩, hf⟩)
    | succ k ih =>
      intro g y hg hf hLo
      have inn : ∀ (k t : Nat) (y : ow_MS), t + k = 4 → fr frB z y → (∃ L2, L2 ≤ L + 4 * g + t ∧ oF X bb m L2 y) → Tt (fun K i => q_X13_oneComes K i 2 (nI c) (nI g) (nI t) n 0 0 y) Q := by
        intro k
        have c4 : ∀ (x4 : Int32) (y : ow_MS), fr frB z y → (∃ L2, L2 ≤ L + 4 * (g + 1) ∧ oF X bb m L2 y) → Tt (fun K i => q_X13_oneComes K i 4 (nI c) (nI g) x4 n 0 0 y) Q := by
          intro x4 y hf ho
          refine u_X13_oneComes_4 ?_; unfold qm_X13_oneComes_4
          rw [nI_1]
          exact ih (g + 1) y (by omega) hf ho
        induction k with
        | zero =>
          intro t y ht hf ⟨L2, hL2, ho⟩
          refine u_X13_oneComes_2 ?_; unfold qm_X13_oneComes_2
          exact w_leT (a := 4) (by omega) (by omega) (c4 _ y hf ⟨L2, by omega, ho⟩)
        | succ k ihk =>
          intro t y ht hf ⟨L2, hL2, ho⟩
          have o2 := oNet_B hn hn3 hf hO
          refine u_X13_oneComes_2 ?_; unfold qm_X13_oneComes_2
          refine w_leF (a := 4) (by omega) (by omega) (w_cs1 (tp_isGap hn o2 (by omega)) (fun a y9 ⟨e, h9⟩ => ?_))
          have e : y9 = y := e
          subst e
          rcases h9 with ⟨h9, -⟩ | ⟨h9, hig⟩
          · have h9 : a = 0 := h9
            exact w_ifT h9 (c4 _ y9 hf ⟨L2, by omega, ho⟩)
          · have h9 : a = 1 := h9
            refine w_ifF (by rw [h9]; decide) ?_
            rw [rn_and1 (by omega), show (1 : Int32) - nI (t % 2) = nI (1 - t % 2) from pk_sub (a := 1) (by omega)]
            refine w_cs0 (tp_put (i := 0) (by omega)) (fun y1 e1 => w_cs0 (tp_put (i := 1) (by omega)) (fun y2 e2 => ?_))
            subst e1
            subst e2
            obtain ⟨B, hB⟩ : ∃ B : List (Nat × Nat), B = [(c, t % 2), (c, 1 - t % 2)] := ⟨_, rfl⟩
            have hBl : B.length = 2 := by rw [hB]; rfl
            have hBk : okB B c 1 := by
              rw [hB]
              refine ⟨?_, fun p => ?_⟩
              · rw [List.nodup_cons]
                refine ⟨?_, by simp⟩
                simp
                omega
              · rw [List.mem_cons, List.mem_singleton, Prod.ext_iff, Prod.ext_iff]
                show (p.1 = c ∧ p.2 = t % 2 ∨ p.1 = c ∧ p.2 = 1 - t % 2) ↔ _
                omega
            have hlen := app_len (A := A) (B := B)
            have f31 : fr (fun g => g = 31 ∨ g = 32) y9 (usI (usI (usI (usI y9 31 0 (nI c)) 32 0 (nI (t % 2))) 31 1 (nI c)) 32 1 (nI (1 - t % 2))) := fr_I2 (fr_I2 (fr_I2 (fr_I (Or.inl rfl)) (Or.inr rfl)) (Or.inl rfl)) (Or.inr rfl)
            have o3 := oNet_fr f31 (fun g hg => by have := net_mod hn; omega) o2
            have v0 : vAt (A ++ [B]) A.flatten.length = (c, t % 2) := app_r (i := 0) (by rw [hB]; rfl)
            have v1 : vAt (A ++ [B]) (A.flatten.length + 1) = (c, 1 - t % 2) := app_r (i := 1) (by rw [hB]; rfl)
            refine w_cs0 (tp_build (g := g) (h := 1000) (V := A.flatten.length) (AA := A ++ [B]) hn hn3 o3 rfl (fun i hi => app_l hi) (by omega) (fun h8 => by omega) (by omega) hig (fun h8 => by omega) (Or.inr rfl) neg_x3 ?_ (fun h8 => by omega)) (fun y3 ⟨b3, f3, s3⟩ => ?_)
            · unfold crs uns
              rw [v0, v1]
              exact ⟨rd_ot (by decide) (rd_ne (by decide) (rd_ot (by decide) po_usI_at)), rd_ne (by decide) (rd_ot (by decide) po_usI_at), rd_ot (by decide) po_usI_at, po_usI_at⟩
            · have F3 : fr frB z y3 := fr_tr hf (fr_tr (fr_mono (fun g hg => Or.inl (by omega)) f31) (fr_mono (fun g hg => Or.inr (by omega)) f3))
              have ho3 : oF X bb m L2 y3 := oF_3 f3 (fun g hg => by omega) (oF_fr f31 (fun g hg => by unfold per; omega) ho)
              have c3 : ∀ t0 : Int32, s1 t0 → Tt (fun K i => q_X13_oneComes K i 3 (nI c) (nI g) (nI t) n t0 (nI c) y3) Q := by
                intro t0 ht0
                have ok2 := okF_app hok hBk
                have wk2 := okF_wk (by omega) ok2
                refine u_X13_oneComes_3 ?_; unfold qm_X13_oneComes_3
                rw [nI_1]
                refine w_wrI (pl6 pn3) rfl (by omega) ?_
                have f4 : fr (fun g => g = 3006) y3 (usI y3 3006 c t0) := fr_I rfl
                have hN : mNet (usI y3 3006 c t0) 3000 := by
                  refine bmE_net wk2 (by omega) hC (fun j hj => hj) (fun j hj => mtf_lt (wkF_ok wk2) hj) (sg_app hO hok hBk (fun x hx => ?_) (fun x hx1 hx2 => ?_)) (bmE_eq (bmE_fr f4 (fun g hg => by omega) b3) (fun j => by omega))
                  · rw [po_usI_ne (by omega), s3 x (by omega), (f31 (n + 6) (by have := net_mod hn; omega)).2.1, (hf (n + 6) (by have := net_mod hn; unfold frB; omega)).2.1]
                  · have : x = c := by omega
                    rw [this, po_usI_at]
                    exact ht0
                exact w_cs0 (tm_offer (by omega) (oF_3 f4 (fun g hg => by omega) ho3) hN) (fun y4 ⟨k1, k2⟩ => ihk (t + 1) y4 (by omega) (fr_tr F3 (fr_tr (fr_mono (fun g hg => Or.inr (by omega)) f4) (fr_mono (fun g hg => by unfold frO at hg; unfold frB; omega) k2))) ⟨L2 + 1, by omega, k1⟩)
              exact w_if (fun _ => c3 _ (Or.inr rfl)) (fun _ => c3 _ (Or.inl rfl))
      have o2 := oNet_B hn hn3 hf hO
      refine u_X13_oneComes_1 ?_; unfold qm_X13_oneComes_1
      refine w_rdF o2.1.V (w_rdF (lk_C o2.1) ?_)
      rw [nI_add]
      obtain ⟨L2, hL2, ho⟩ := hLo
      exact w_leF (by omega) (by omega) (inn 4 0 y (by omega) hf ⟨L2, by omega, ho⟩)
  refine e_X13_oneComes ?_
  refine u_X13_oneComes_0 ?_; unfold qm_X13_oneComes_0
  refine w_rdF hO.1.V (w_nzI (by decide) ?_)
  rw [show nI A.flatten.length / 2 = nI c from by rw [show nI A.flatten.length / 2 = nI (A.flatten.length / 2) from pk_div (d := 2) (by omega) (by omega) (by omega)]; congr 1; omega]
  exact out (A.flatten.length + A.length) 0 z (by omega) fr_rf ⟨L, by omega, h⟩
/-- the four visits of two crossings that come -/
theorem two_ok {c a b u : Nat} (ha : a < 2) (hb : b < 2) (hu : u < 2) : okB [(if u = 0 then c + a else c + b, u), (if u = 0 then 2 * c + 1 - (c + a) else 2 * c + 1 - (c + b), u), (if u = 0 then c + b else c + a, 1 - u), (if u = 0 then 2 * c + 1 - (c + b) else 2 * c + 1 - (c + a), 1 - u)] c 2 := by
  have h1 : a = 0 ∨ a = 1 := by omega
  have h2 : b = 0 ∨ b = 1 := by omega
  have h3 : u = 0 ∨ u = 1 := by omega
  refine ⟨?_, fun p => ?_⟩
  · rcases h1 with h1 | h1 <;> rcases h2 with h2 | h2 <;> rcases h3 with h3 | h3 <;> subst h1 h2 h3 <;> simp <;> omega
  · simp only [List.mem_cons, List.not_mem_nil, or_false, Prod.ext_iff]
    rcases h1 with h1 | h1 <;> rcases h2 with h2 | h2 <;> rcases h3 with h3 | h3 <;> subst h1 h2 h3 <;> simp <;> omega
theorem u_X13_twoAt_4 {x2 : Int32} {x3 : Int32} {x4 : Int32} {x5 : Int32} {x6 : Int32} {x7 : Int32} {x8 : Int32} {x9 : Int32} {x10 : Int32} {r1 : Nat} {t0 : Int32} {t1 : Int32} {z : ow_MS} {Q : ow_MS → Prop} (H : Tt (fun K k => qm_X13_twoAt_4 K (q_X13_twoAt K k) x2 x3 x4 x5 x6 x7 x8 x9 x10 r1 t0 t1 z) Q) : Tt (fun K k => q_X13_twoAt K k 4 x2 x3 x4 x5 x6 x7 x8 x9 x10 r1 t0 t1 z) Q := w_un (fun _ _ => rfl) H
theorem e_X13_twoAt {r1 : Nat} {x2 : Int32} {x3 : Int32} {x4 : Int32} {z : ow_MS} {Q : ow_MS → Prop} (H : Tt (fun K k => q_X13_twoAt K k 0 x2 x3 x4 0 0 0 0 0 0 r1 0 0 z) Q) : Te (fun K => qe_X13_twoAt K r1 x2 x3 x4 z) Q := w_te H
theorem u_X13_twoAt_0 {x2 : Int32} {x3 : Int32} {x4 : Int32} {x5 : Int32} {x6 : Int32} {x7 : Int32} {x8 : Int32} {x9 : Int32} {x10 : Int32} {r1 : Nat} {t0 : Int32} {t1 : Int32} {z : ow_MS} {Q : ow_MS → Prop} (H : Tt (fun K k => qm_X13_twoAt_0 K (q_X13_twoAt K k) x2 x3 x4 x5 x6 x7 x8 x9 x10 r1 t0 t1 z) Q) : Tt (fun K k => q_X13_twoAt K k 0 x2 x3 x4 x5 x6 x7 x8 x9 x10 r1 t0 t1 z) Q := w_un (fun _ _ => rfl) H
theorem u_X13_twoAt_1 {x2 : Int32} {x3 : Int32} {x4 : Int32} {x5 : Int32} {x6 : Int32} {x7 : Int32} {x8 : Int32} {x9 : Int32} {x10 : Int32} {r1 : Nat} {t0 : Int32} {t1 : Int32} {z : ow_MS} {Q : ow_MS → Prop} (H : Tt (fun K k => qm_X13_twoAt_1 K (q_X13_twoAt K k) x2 x3 x4 x5 x6 x7 x8 x9 x10 r1 t0 t1 z) Q) : Tt (fun K k => q_X13_twoAt K k 1 x2 x3 x4 x5 x6 x7 x8 x9 x10 r1 t0 t1 z) Q := w_un (fun _ _ => rfl) H
theorem u_X13_twoAt_2 {x2 : Int32} {x3 : Int32} {x4 : Int32} {x5 : Int32} {x6 : Int32} {x7 : Int32} {x8 : Int32} {x9 : Int32} {x10 : Int32} {r1 : Nat} {t0 : Int32} {t1 : Int32} {z : ow_MS} {Q : ow_MS → Prop} (H : Tt (fun K k => qm_X13_twoAt_2 K (q_X13_twoAt K k) x2 x3 x4 x5 x6 x7 x8 x9 x10 r1 t0 t1 z) Q) : Tt (fun K k => q_X13_twoAt K k 2 x2 x3 x4 x5 x6 x7 x8 x9 x10 r1 t0 t1 z) Q := w_un (fun _ _ => rfl) H
theorem u_X13_twoAt_3 {x2 : Int32} {x3 : Int32} {x4 : Int32} {x5 : Int32} {x6 : Int32} {x7 : Int32} {x8 : Int32} {x9 : Int32} {x10 : Int32} {r1 : Nat} {t0 : Int32} {t1 : Int32} {z : ow_MS} {Q : ow_MS → Prop} (H : Tt (fun K k => qm_X13_twoAt_3 K (q_X13_twoAt K k) x2 x3 x4 x5 x6 x7 x8 x9 x10 r1 t0 t1 z) Q) : Tt (fun K k => q_X13_twoAt K k 3 x2 x3 x4 x5 x6 x7 x8 x9 x10 r1 t0 t1 z) Q := w_un (fun _ _ => rfl) H
theorem tp_twoAt {g h t : Nat} (hn : mw_net n) (hn3 : n ≠ 3000) (hV : A.flatten.length ≤ 20) (hL : L < 2700) (hg : isG A g) (hh : isG A h) (ht : t < 8) (hO : oNet z n A sg) (ho : oF X bb m L z) : Te (fun K => qe_X13_twoAt K n (nI g) (nI h) (nI t) z) (fun z1 => (∃ L2, L2 ≤ L + 1 ∧ oF X bb m L2 z1) ∧ fr (fun g => g < 1000 ∧ g ≠ 12 ∧ g ≠ 28 ∨ 3001 ≤ g ∧ g ≤ 3016) z z1) := by
  have hmn := net_mod hn
  have hC := hO.2.2.2
  obtain ⟨c, hok, hc12⟩ := hO.2.2.1
  have hVc := okF_len hok
  have hgb : g < A.flatten.length + A.length := by rcases hg with hg | ⟨h1, h2, -⟩ <;> omega
  have hhb : h < A.flatten.length + A.length := by rcases hh with hh | ⟨h1, h2, -⟩ <;> omega
  obtain ⟨a, ha⟩ : ∃ a, a = t % 2 := ⟨_, rfl⟩
  obtain ⟨b, hb⟩ : ∃ b, b = t / 2 % 2 := ⟨_, rfl⟩
  obtain ⟨u, hu⟩ : ∃ u, u = t / 4 := ⟨_, rfl⟩
  have ha2 : a < 2 := by omega
  have hb2 : b < 2 := by omega
  have hu2 : u < 2 := by omega
  obtain ⟨B, hB⟩ : ∃ B : List (Nat × Nat), B = [(if u = 0 then c + a else c + b, u), (if u = 0 then 2 * c + 1 - (c + a) else 2 * c + 1 - (c + b), u), (if u = 0 then c + b else c + a, 1 - u), (if u = 0 then 2 * c + 1 - (c + b) else 2 * c + 1 - (c + a), 1 - u)] := ⟨_, rfl⟩
  have hBk : okB B c 2 := by rw [hB]; exact two_ok ha2 hb2 hu2
  have hBl : B.length = 4 := by rw [hB]; rfl
  have hlen := app_len (A := A) (B := B)
  let Q : ow_MS → Prop := fun z1 => (∃ L2, L2 ≤ L + 1 ∧ oF X bb m L2 z1) ∧ fr (fun g => g < 1000 ∧ g ≠ 12 ∧ g ≠ 28 ∨ 3001 ≤ g ∧ g ≤ 3016) z z1
  have hmono : oF X bb m L z → oF X bb m (L + 1) z := fun h9 => ⟨h9.1, h9.2.1, h9.2.2.1, fun e => by
    obtain ⟨l, h7, h8⟩ := h9.2.2.2.1 e
    exact ⟨l, by omega, h8⟩, h9.2.2.2.2⟩
  have c4 : ∀ (y : ow_MS) (x6 x7 x8 x9 t0 : Int32), fr (fun g => g = 31 ∨ g = 32) z y → y.2.1 31 0 = nI (B[0]'(by omega)).1 → y.2.1 32 0 = nI u → y.2.1 31 1 = nI (B[1]'(by omega)).1 → y.2.1 32 1 = nI u → y.2.1 31 2 = nI (B[2]'(by omega)).1 → y.2.1 32 2 = nI (1 - u) → t0 = nI (B[3]'(by omega)).1 → Tt (fun K i => q_X13_twoAt K i 4 (nI g) (nI h) (nI t) (nI c) x6 x7 x8 x9 (nI u) n t0 3 y) Q := by
    intro y x6 x7 x8 x9 t0 hf p0 q0 p1 q1 p2 q2 ht0
    refine u_X13_twoAt_4 ?_; unfold qm_X13_twoAt_4
    rw [show (1 : Int32) - nI u = nI (1 - u) from pk_sub (a := 1) (by omega)]
    refine w_cs0 (tp_put (i := 3) (by omega)) (fun y2 e2 => ?_)
    subst e2
    have f31 : fr (fun g => g = 31 ∨ g = 32) z (usI (usI y 31 3 t0) 32 3 (nI (1 - u))) := fr_I2 (fr_I2 hf (Or.inl rfl)) (Or.inr rfl)
    have o3 := oNet_fr f31 (fun g hg => by omega) hO
    have vv : ∀ i (hi : i < 4), vAt (A ++ [B]) (A.flatten.length + i) = B[i]'(by omega) := fun i hi => app_r (List.getElem?_eq_getElem (by omega))
    have u0 : (B[0]'(by omega)).2 = u ∧ (B[1]'(by omega)).2 = u ∧ (B[2]'(by omega)).2 = 1 - u ∧ (B[3]'(by omega)).2 = 1 - u := by
      subst hB
      exact ⟨rfl, rfl, rfl, rfl⟩
    refine w_cs0 (tp_build (g := g) (h := h) (V := A.flatten.length) (AA := A ++ [B]) hn hn3 o3 rfl (fun i hi => app_l hi) (by omega) (fun _ => by omega) (by omega) hg (fun _ => hh) (Or.inl (by omega)) (fun k hk => nI_eq (by omega) (by omega)) ?_ (fun _ => ?_)) (fun y3 ⟨b3, f3, s3⟩ => ?_)
    · unfold crs uns
      have e0 := vv 0 (by omega)
      rw [Nat.add_zero] at e0
      rw [e0, vv 1 (by omega), u0.1, u0.2.1]
      exact ⟨rd_ot (by decide) (rd_ne (by decide) p0), rd_ne (by decide) (rd_ot (by decide) q0), rd_ot (by decide) (rd_ne (by decide) p1), rd_ne (by decide) (rd_ot (by decide) q1)⟩
    · unfold crs uns
      rw [vv 2 (by omega), vv 3 (by omega), u0.2.2.1, u0.2.2.2]
      exact ⟨rd_ot (by decide) (rd_ne (by decide) p2), rd_ne (by decide) (rd_ot (by decide) q2), rd_ot (by decide) (po_usI_at.trans ht0), po_usI_at⟩
    · have ok2 := okF_app hok hBk
      have wk2 := okF_wk (by omega) ok2
      have hd2 := wkF_ok wk2
      rw [nI_1]
      refine w_wrI (pl6 pn3) rfl (by omega) (w_wrI (pl6 pn3) rfl (by omega) ?_)
      have f4 : fr (fun g => g = 3006) y3 (usI (usI y3 3006 c 1) 3006 (c + 1) (-1)) := fr_I2 (fr_I rfl) rfl
      have b4 : bmE (usI (usI y3 3006 c 1) 3006 (c + 1) (-1)) 3000 (A ++ [B]) (fun j => j < (A ++ [B]).flatten.length) A.length := bmE_eq (bmE_fr f4 (fun g hg => by omega) b3) (fun j => by omega)
      have hN : mNet (usI (usI y3 3006 c 1) 3006 (c + 1) (-1)) 3000 := by
        refine bmE_net wk2 (by omega) hC (fun j hj => hj) (fun j hj => mtf_lt hd2 hj) (sg_app hO hok hBk (fun x hx => ?_) (fun x hx1 hx2 => ?_)) b4
        · rw [po_usI_ne (by omega), po_usI_ne (by omega), s3 x (by omega), (f31 (n + 6) (by omega)).2.1]
        · by_cases hxc : x = c + 1
          · rw [hxc, po_usI_at]
            exact Or.inr rfl
          · have : x = c := by omega
            rw [po_usI_ne hxc, this, po_usI_at]
            exact Or.inl rfl
      obtain ⟨A', sg', n1, n2, n3, n4, n5⟩ := hN
      have F4 : fr (fun g => g < 1000 ∧ g ≠ 12 ∧ g ≠ 28 ∨ 3001 ≤ g ∧ g ≤ 3016) z (usI (usI y3 3006 c 1) 3006 (c + 1) (-1)) := fr_tr (fr_mono (fun g hg => by omega) f31) (fr_tr (fr_mono (fun g hg => by omega) f3) (fr_mono (fun g hg => by omega) f4))
      have ho4 : oF X bb m L (usI (usI y3 3006 c 1) 3006 (c + 1) (-1)) := oF_3 f4 (fun g hg => by omega) (oF_3 f3 (fun g hg => by omega) (oF_fr f31 (fun g hg => by unfold per; omega) ho))
      refine w_cs0 (tn_link pn3 (by omega) (by omega) (wkF_ok n3).1 n1) (fun y5 ⟨f5, a5, i5⟩ => w_cs1 (tn_plane pn3 (by omega) (by omega) (wkF_ok n3) ⟨a5, i5⟩) (fun r y6 ⟨_, f6, l6, _, _⟩ => ?_))
      have f6 : fr (fun g => 3000 + 12 ≤ g ∧ g ≤ 3000 + 16) y5 y6 := f6
      have l6 : rn_lk y6 3000 A' := l6
      have F6 : fr (fun g => g < 1000 ∧ g ≠ 12 ∧ g ≠ 28 ∨ 3001 ≤ g ∧ g ≤ 3016) z y6 := fr_tr F4 (fr_tr (fr_mono (fun g hg => by have := hg.1; have := hg.2; omega) f5) (fr_mono (fun g hg => by omega) f6))
      have ho6 : oF X bb m L y6 := oF_3 f6 (fun g hg => by omega) (oF_3 f5 (fun g hg => by have := hg.1; omega) ho4)
      have hN6 : mNet y6 3000 := ⟨A', sg', l6.1, fun p hp => by
        rw [(f6 3006 (by omega)).2.1, (f5 3006 (fun h9 => by have := h9.1; omega)).2.1]
        exact n2 p hp, n3, n4, n5⟩
      exact w_if (fun _ => w_some ⟨⟨L, by omega, ho6⟩, F6⟩) (fun _ => w_cs0 (tm_offer hL ho6 hN6) (fun y7 ⟨k1, k2⟩ => w_some ⟨⟨L + 1, Nat.le_refl _, k1⟩, fr_tr F6 (fr_mono (fun g hg => by unfold frO at hg; omega) k2)⟩))
  have e2c : (2 : Int32) * nI c = nI (2 * c) := pk_mul 2 c
  refine e_X13_twoAt ?_
  refine u_X13_twoAt_0 ?_; unfold qm_X13_twoAt_0
  refine w_rdF hO.1.V (w_nzI (by decide) ?_)
  rw [show nI A.flatten.length / 2 = nI c from by rw [show nI A.flatten.length / 2 = nI (A.flatten.length / 2) from pk_div (d := 2) (by omega) (by omega) (by omega)]; congr 1; omega]
  rw [rn_shr2 (by omega), rn_shr1 (by omega), rn_and1 (by omega), rn_and1 (by omega), ← ha, ← hb, ← hu, nI_add, nI_add, e2c, nI_1, pk_sub (by omega), pk_sub (by omega)]
  have run : ∀ t0 : Int32, t0 = nI (B[0]'(by omega)).1 → Tt (fun K i => q_X13_twoAt K i 1 (nI g) (nI h) (nI t) (nI c) (nI (c + a)) (nI (2 * c + 1 - (c + a))) (nI (c + b)) (nI (2 * c + 1 - (c + b))) (nI u) n t0 0 z) Q := by
    intro t0 ht0
    refine u_X13_twoAt_1 ?_; unfold qm_X13_twoAt_1
    refine w_cs0 (tp_put (i := 0) (by omega)) (fun y1 e1 => ?_)
    subst e1
    have c2 : ∀ t1 : Int32, t1 = nI (B[1]'(by omega)).1 → Tt (fun K i => q_X13_twoAt K i 2 (nI g) (nI h) (nI t) (nI c) (nI (c + a)) (nI (2 * c + 1 - (c + a))) (nI (c + b)) (nI (2 * c + 1 - (c + b))) (nI u) n t1 1 (usI (usI z 31 0 t0) 32 0 (nI u))) Q := by
      intro t1 ht1
      refine u_X13_twoAt_2 ?_; unfold qm_X13_twoAt_2
      refine w_cs0 (tp_put (i := 1) (by omega)) (fun y1 e1 => ?_)
      subst e1
      have c3 : ∀ t2 : Int32, t2 = nI (B[2]'(by omega)).1 → Tt (fun K i => q_X13_twoAt K i 3 (nI g) (nI h) (nI t) (nI c) (nI (c + a)) (nI (2 * c + 1 - (c + a))) (nI (c + b)) (nI (2 * c + 1 - (c + b))) (nI u) n t2 2 (usI (usI (usI (usI z 31 0 t0) 32 0 (nI u)) 31 1 t1) 32 1 (nI u))) Q := by
        intro t2 ht2
        refine u_X13_twoAt_3 ?_; unfold qm_X13_twoAt_3
        rw [show (1 : Int32) - nI u = nI (1 - u) from pk_sub (a := 1) (by omega)]
        refine w_cs0 (tp_put (i := 2) (by omega)) (fun y1 e1 => ?_)
        subst e1
        have fin : ∀ t3 : Int32, t3 = nI (B[3]'(by omega)).1 → Tt (fun K i => q_X13_twoAt K i 4 (nI g) (nI h) (nI t) (nI c) (nI (c + a)) (nI (2 * c + 1 - (c + a))) (nI (c + b)) (nI (2 * c + 1 - (c + b))) (nI u) n t3 3 (usI (usI (usI (usI (usI (usI z 31 0 t0) 32 0 (nI u)) 31 1 t1) 32 1 (nI u)) 31 2 t2) 32 2 (nI (1 - u)))) Q := by
          intro t3 ht3
          refine c4 _ _ _ _ _ _ (fr_I2 (fr_I2 (fr_I2 (fr_I2 (fr_I2 (fr_I (Or.inl rfl)) (Or.inr rfl)) (Or.inl rfl)) (Or.inr rfl)) (Or.inl rfl)) (Or.inr rfl)) ?_ ?_ ?_ ?_ ?_ po_usI_at ht3
          · exact rd_ot (by decide) (rd_ne (by decide) (rd_ot (by decide) (rd_ne (by decide) (rd_ot (by decide) (po_usI_at.trans ht0)))))
          · exact rd_ne (by decide) (rd_ot (by decide) (rd_ne (by decide) (rd_ot (by decide) po_usI_at)))
          · exact rd_ot (by decide) (rd_ne (by decide) (rd_ot (by decide) (po_usI_at.trans ht1)))
          · exact rd_ne (by decide) (rd_ot (by decide) po_usI_at)
          · exact rd_ot (by decide) (po_usI_at.trans ht2)
        refine w_eqN (b := 0) (by omega) (by omega) (fun h9 => fin _ ?_) (fun h9 => fin _ ?_)
        · subst hB
          show _ = nI (if u = 0 then _ else _)
          rw [if_pos h9]
        · subst hB
          show _ = nI (if u = 0 then _ else _)
          rw [if_neg h9]
      refine w_eqN (b := 0) (by omega) (by omega) (fun h9 => c3 _ ?_) (fun h9 => c3 _ ?_)
      · subst hB
        show _ = nI (if u = 0 then _ else _)
        rw [if_pos h9]
      · subst hB
        show _ = nI (if u = 0 then _ else _)
        rw [if_neg h9]
    refine w_eqN (b := 0) (by omega) (by omega) (fun h9 => c2 _ ?_) (fun h9 => c2 _ ?_)
    · subst hB
      show _ = nI (if u = 0 then _ else _)
      rw [if_pos h9]
    · subst hB
      show _ = nI (if u = 0 then _ else _)
      rw [if_neg h9]
  refine w_eqN (b := 0) (by omega) (by omega) (fun h9 => run _ ?_) (fun h9 => run _ ?_)
  · subst hB
    show _ = nI (if u = 0 then _ else _)
    rw [if_pos h9]
  · subst hB
    show _ = nI (if u = 0 then _ else _)
    rw [if_neg h9]
end MV2
end
section
/-! 99zzu.two -/
/-! the moves: twoCome, twoGo -/
abbrev frC (g : Nat) : Prop := g < 1000 ∧ g ≠ 12 ∧ g ≠ 28 ∨ 3001 ≤ g ∧ g ≤ 3016
theorem oNet_C {z z1 : ow_MS} {n : Nat} {A : rn_L} {sg : Nat → Bool} (hn : mw_net n) (hn3 : n ≠ 3000) (hf : fr frC z z1) (h : oNet z n A sg) : oNet z1 n A sg := oNet_fr hf (fun g hg => by
  have := net_mod hn
  unfold frC at hg
  omega) h
/-- how many gaps there are below k -/
def gcn (A : rn_L) : Nat → Nat
  | 0 => 0
  | k + 1 => gcn A k + if k < A.flatten.length then 1 else if rn_b A (k - A.flatten.length) = rn_b A (k - A.flatten.length + 1) then 1 else 0
theorem gcn_S (A : rn_L) (k : Nat) : gcn A (k + 1) = gcn A k + if k < A.flatten.length then 1 else if rn_b A (k - A.flatten.length) = rn_b A (k - A.flatten.length + 1) then 1 else 0 := rfl
theorem gcn_g {A : rn_L} {k : Nat} (h : isG A k) : gcn A (k + 1) = gcn A k + 1 := by
  rw [gcn_S]
  rcases h with h | ⟨h1, h2, h3⟩
  · rw [if_pos h]
  · rw [if_neg (by omega), if_pos h3]
theorem gcn_n {A : rn_L} {k : Nat} (hk : k < A.flatten.length + A.length) (h : ¬ isG A k) : gcn A (k + 1) = gcn A k := by
  rw [gcn_S]
  by_cases h1 : k < A.flatten.length
  · exact absurd (Or.inl h1) h
  · rw [if_neg h1, if_neg (fun h3 => h (Or.inr ⟨by omega, by omega, h3⟩))]
    rfl
theorem gcn_s (A : rn_L) (k : Nat) : gcn A k ≤ gcn A (k + 1) := by
  show _ ≤ gcn A k + _
  omega
theorem gcn_mono {A : rn_L} {a b : Nat} (h : a ≤ b) : gcn A a ≤ gcn A b := by
  obtain ⟨d, rfl⟩ : ∃ d, b = a + d := ⟨b - a, by omega⟩
  induction d with
  | zero => exact Nat.le_refl _
  | succ d ih => exact Nat.le_trans (ih (by omega)) (gcn_s A (a + d))
theorem gcn_le (A : rn_L) : ∀ k, gcn A k ≤ k
  | 0 => Nat.le_refl _
  | k + 1 => by
    have := gcn_le A k
    show gcn A k + _ ≤ _
    by_cases h1 : k < A.flatten.length
    · rw [if_pos h1]; omega
    · rw [if_neg h1]
      by_cases h2 : rn_b A (k - A.flatten.length) = rn_b A (k - A.flatten.length + 1)
      · rw [if_pos h2]; omega
      · rw [if_neg h2]; omega
theorem gcn_no {A : rn_L} {k0 : Nat} (h0 : k0 < A.flatten.length + A.length) (h : ¬ isG A k0) : ∀ k, k0 < k → gcn A k + 1 ≤ k
  | 0, h9 => by omega
  | k + 1, h9 => by
    by_cases hk : k0 = k
    · subst hk
      rw [gcn_n h0 h]
      have := gcn_le A k0
      omega
    · have := gcn_no h0 h k (by omega)
      have h8 : gcn A (k + 1) ≤ gcn A k + 1 := by
        show gcn A k + _ ≤ _
        by_cases h1 : k < A.flatten.length
        · rw [if_pos h1]; exact Nat.le_refl _
        · rw [if_neg h1]
          by_cases h2 : rn_b A (k - A.flatten.length) = rn_b A (k - A.flatten.length + 1)
          · rw [if_pos h2]; exact Nat.le_refl _
          · rw [if_neg h2]; omega
      omega
theorem gcn_25 {A : rn_L} (hV : A.flatten.length ≤ 20) (hC : A.length ≤ 6) : gcn A (A.flatten.length + A.length) ≤ 25 := by
  by_cases h0 : A.flatten.length = 0
  · have := gcn_le A (A.flatten.length + A.length)
    omega
  · obtain ⟨h1, h2, h3⟩ := rn_c_in A 0 (by omega)
    have := gcn_no (A := A) (k0 := A.flatten.length + rn_c A 0) (by omega) (fun h9 => by
      rcases h9 with h9 | ⟨-, -, h9⟩
      · omega
      · rw [Nat.add_sub_cancel_left] at h9
        omega) (A.flatten.length + A.length) (by omega)
    omega
section MV3
variable {X : (Nat → Nat → Int32) → Prop} {bb m n : Nat} {z : ow_MS} {A : rn_L} {sg : Nat → Bool}
theorem u_X13_twoCome_1 {x2 : Int32} {x3 : Int32} {x4 : Int32} {r1 : Nat} {t0 : Int32} {t1 : Int32} {z : ow_MS} {Q : ow_MS → Prop} (H : Tt (fun K k => qm_X13_twoCome_1 K (q_X13_twoCome K k) x2 x3 x4 r1 t0 t1 z) Q) : Tt (fun K k => q_X13_twoCome K k 1 x2 x3 x4 r1 t0 t1 z) Q := w_un (fun _ _ => rfl) H
theorem u_X13_twoCome_2 {x2 : Int32} {x3 : Int32} {x4 : Int32} {r1 : Nat} {t0 : Int32} {t1 : Int32} {z : ow_MS} {Q : ow_MS → Prop} (H : Tt (fun K k => qm_X13_twoCome_2 K (q_X13_twoCome K k) x2 x3 x4 r1 t0 t1 z) Q) : Tt (fun K k => q_X13_twoCome K k 2 x2 x3 x4 r1 t0 t1 z) Q := w_un (fun _ _ => rfl) H
theorem u_X13_twoCome_5 {x2 : Int32} {x3 : Int32} {x4 : Int32} {r1 : Nat} {t0 : Int32} {t1 : Int32} {z : ow_MS} {Q : ow_MS → Prop} (H : Tt (fun K k => qm_X13_twoCome_5 K (q_X13_twoCome K k) x2 x3 x4 r1 t0 t1 z) Q) : Tt (fun K k => q_X13_twoCome K k 5 x2 x3 x4 r1 t0 t1 z) Q := w_un (fun _ _ => rfl) H
theorem u_X13_twoCome_3 {x2 : Int32} {x3 : Int32} {x4 : Int32} {r1 : Nat} {t0 : Int32} {t1 : Int32} {z : ow_MS} {Q : ow_MS → Prop} (H : Tt (fun K k => qm_X13_twoCome_3 K (q_X13_twoCome K k) x2 x3 x4 r1 t0 t1 z) Q) : Tt (fun K k => q_X13_twoCome K k 3 x2 x3 x4 r1 t0 t1 z) Q := w_un (fun _ _ => rfl) H
theorem u_X13_twoCome_4 {x2 : Int32} {x3 : Int32} {x4 : Int32} {r1 : Nat} {t0 : Int32} {t1 : Int32} {z : ow_MS} {Q : ow_MS → Prop} (H : Tt (fun K k => qm_X13_twoCome_4 K (q_X13_twoCome K k) x2 x3 x4 r1 t0 t1 z) Q) : Tt (fun K k => q_X13_twoCome K k 4 x2 x3 x4 r1 t0 t1 z) Q := w_un (fun _ _ => rfl) H
theorem e_X13_twoCome {r1 : Nat} {z : ow_MS} {Q : ow_MS → Prop} (H : Tt (fun K k => q_X13_twoCome K k 0 0 0 0 r1 0 0 z) Q) : Te (fun K => qe_X13_twoCome K r1 z) Q := w_te H
theorem u_X13_twoCome_0 {x2 : Int32} {x3 : Int32} {x4 : Int32} {r1 : Nat} {t0 : Int32} {t1 : Int32} {z : ow_MS} {Q : ow_MS → Prop} (H : Tt (fun K k => qm_X13_twoCome_0 K (q_X13_twoCome K k) x2 x3 x4 r1 t0 t1 z) Q) : Tt (fun K k => q_X13_twoCome K k 0 x2 x3 x4 r1 t0 t1 z) Q := w_un (fun _ _ => rfl) H
theorem tp_twoCome (hn : mw_net n) (hn3 : n ≠ 3000) (hV : A.flatten.length ≤ 20) (hO : oNet z n A sg) (h : oF X bb m 0 z) : Te (fun K => qe_X13_twoCome K n z) (fun z1 => (∃ L2, L2 ≤ 2700 ∧ oF X bb m L2 z1) ∧ fr frC z z1) := by
  have hC := hO.2.2.2
  have hG := gcn_25 hV hC
  obtain ⟨N, hN⟩ : ∃ N, N = A.flatten.length + A.length := ⟨_, rfl⟩
  rw [← hN] at hG
  have hN26 : N ≤ 26 := by omega
  obtain ⟨W, hW⟩ : ∃ W, W = 4 * gcn A N + 4 := ⟨_, rfl⟩
  have hGW : gcn A N * W ≤ 2600 := by
    have := Nat.mul_le_mul hG (show W ≤ 104 by omega)
    omega
  let Q : ow_MS → Prop := fun z1 => (∃ L2, L2 ≤ 2700 ∧ oF X bb m L2 z1) ∧ fr frC z z1
  have out : ∀ (k g : Nat) (y : ow_MS), g + k = N → fr frC z y → (∃ L2, L2 ≤ gcn A g * W ∧ oF X bb m L2 y) → Tt (fun K i => q_X13_twoCome K i 1 (nI g) 0 0 n 0 0 y) Q := by
    intro k
    induction k with
    | zero =>
      intro g y hg hf ⟨L2, hL2, ho⟩
      have o2 := oNet_C hn hn3 hf hO
      have : g = N := by omega
      rw [this] at hL2
      refine u_X13_twoCome_1 ?_; unfold qm_X13_twoCome_1
      refine w_rdF o2.1.V (w_rdF (lk_C o2.1) ?_)
      rw [nI_add]
      exact w_leT (by omega) (by omega) (w_some ⟨⟨L2, by omega, ho⟩, hf⟩)
    | succ k ih =>
      intro g y hg hf hLo
      have hgN : g < A.flatten.length + A.length := by omega
      have hmon := gcn_mono (A := A) (a := g + 1) (b := N) (by omega)
      obtain ⟨M, hM⟩ : ∃ M, M = gcn A g * W := ⟨_, rfl⟩
      -- the bound while h runs
      have mid : ∀ (k h9 : Nat) (y : ow_MS), h9 + k = N → fr frC z y → (∃ L2, L2 ≤ M + (if isGb : gcn A (g + 1) = gcn A g + 1 then 4 * gcn A h9 + (if g < h9 then 4 else 0) else 0) ∧ oF X bb m L2 y) → Tt (fun K i => q_X13_twoCome K i 2 (nI g) (nI h9) 0 n 0 0 y) Q := by
        intro k
        induction k with
        | zero =>
          intro h9 y hh hf ⟨L2, hL2, ho⟩
          have o2 := oNet_C hn hn3 hf hO
          have hhN : h9 = N := by omega
          rw [hhN] at hL2 ⊢
          refine u_X13_twoCome_2 ?_; unfold qm_X13_twoCome_2
          refine w_rdF o2.1.V (w_rdF (lk_C o2.1) ?_)
          rw [nI_add, nI_1]
          refine w_leT (by omega) (by omega) (ih (g + 1) y (by omega) hf ⟨L2, ?_, ho⟩)
          by_cases hig : gcn A (g + 1) = gcn A g + 1
          · rw [dif_pos hig, if_pos (by omega)] at hL2
            rw [hig, Nat.succ_mul, ← hM]
            omega
          · rw [dif_neg hig] at hL2
            have := Nat.mul_le_mul_right W (gcn_s A g)
            omega
        | succ k ihk =>
          intro h9 y hh hf hLh
          have hhN : h9 < A.flatten.length + A.length := by omega
          have hmonh := gcn_mono (A := A) (a := h9 + 1) (b := N) (by omega)
          have c5 : ∀ (x4 : Int32) (y : ow_MS), fr frC z y → (∃ L2, L2 ≤ M + (if isGb : gcn A (g + 1) = gcn A g + 1 then 4 * gcn A (h9 + 1) + (if g < h9 + 1 then 4 else 0) else 0) ∧ oF X bb m L2 y) → Tt (fun K i => q_X13_twoCome K i 5 (nI g) (nI h9) x4 n 0 0 y) Q := by
            intro x4 y hf ho
            refine u_X13_twoCome_5 ?_; unfold qm_X13_twoCome_5
            rw [nI_1]
            exact ihk (h9 + 1) y (by omega) hf ho
          have inn : ∀ (k t : Nat) (y : ow_MS), t + k = (if g = h9 then 8 else 4) → fr frC z y → (∃ L2, L2 ≤ M + (if isGb : gcn A (g + 1) = gcn A g + 1 then 4 * gcn A h9 + (if g < h9 then 4 else 0) else 0) + (if isG2 : gcn A (g + 1) = gcn A g + 1 ∧ gcn A (h9 + 1) = gcn A h9 + 1 then t else 0) ∧ oF X bb m L2 y) → Tt (fun K i => q_X13_twoCome K i 3 (nI g) (nI h9) (nI t) n 0 0 y) Q := by
            intro k
            induction k with
            | zero =>
              intro t y ht hf ⟨L2, hL2, ho⟩
              have fin : Tt (fun K i => q_X13_twoCome K i 5 (nI g) (nI h9) (nI t) n 0 0 y) Q := by
                refine c5 _ y hf ⟨L2, ?_, ho⟩
                have ms := gcn_s A h9
                by_cases hig : gcn A (g + 1) = gcn A g + 1
                · rw [dif_pos hig] at hL2 ⊢
                  by_cases hih : gcn A (h9 + 1) = gcn A h9 + 1
                  · rw [dif_pos ⟨hig, hih⟩] at hL2
                    by_cases hgh : g = h9
                    · rw [if_pos hgh] at ht
                      rw [if_neg (by omega)] at hL2
                      rw [if_pos (by omega)]
                      omega
                    · rw [if_neg hgh] at ht
                      by_cases hlt : g < h9
                      · rw [if_pos hlt] at hL2
                        rw [if_pos (by omega)]
                        omega
                      · rw [if_neg hlt] at hL2
                        rw [if_neg (by omega)]
                        omega
                  · rw [dif_neg (fun h8 => hih h8.2)] at hL2
                    by_cases hlt : g < h9
                    · rw [if_pos hlt] at hL2
                      rw [if_pos (by omega)]
                      omega
                    · rw [if_neg hlt] at hL2
                      omega
                · rw [dif_neg hig] at hL2 ⊢
                  rw [dif_neg (fun h8 => hig h8.1)] at hL2
                  omega
              refine u_X13_twoCome_3 ?_; unfold qm_X13_twoCome_3
              refine w_eqN (by omega) (by omega) (fun h8 => ?_) (fun h8 => ?_)
              · rw [if_pos h8] at ht
                refine u_X13_twoCome_4 ?_; unfold qm_X13_twoCome_4
                exact w_leT (a := 8) (by omega) (by omega) fin
              · rw [if_neg h8] at ht
                refine u_X13_twoCome_4 ?_; unfold qm_X13_twoCome_4
                exact w_leT (a := 4) (by omega) (by omega) fin
            | succ k ihi =>
              intro t y ht hf ⟨L2, hL2, ho⟩
              have o2 := oNet_C hn hn3 hf hO
              have t8 : t < 8 := by
                by_cases h8 : g = h9
                · rw [if_pos h8] at ht; omega
                · rw [if_neg h8] at ht; omega
              have ms := gcn_s A h9
              -- leaving early: no gap
              have early : ¬ (isG A g ∧ isG A h9) → Tt (fun K i => q_X13_twoCome K i 5 (nI g) (nI h9) (nI t) n 0 0 y) Q := by
                intro hno
                refine c5 _ y hf ⟨L2, ?_, ho⟩
                have hn2 : ¬ (gcn A (g + 1) = gcn A g + 1 ∧ gcn A (h9 + 1) = gcn A h9 + 1) := by
                  intro ⟨e1, e2⟩
                  apply hno
                  constructor
                  · rcases Classical.em (isG A g) with h7 | h7
                    · exact h7
                    · rw [gcn_n hgN h7] at e1; omega
                  · rcases Classical.em (isG A h9) with h7 | h7
                    · exact h7
                    · rw [gcn_n hhN h7] at e2; omega
                rw [dif_neg hn2] at hL2
                by_cases hig : gcn A (g + 1) = gcn A g + 1
                · rw [dif_pos hig] at hL2 ⊢
                  by_cases hlt : g < h9
                  · rw [if_pos hlt] at hL2
                    rw [if_pos (by omega)]
                    omega
                  · rw [if_neg hlt] at hL2
                    omega
                · rw [dif_neg hig] at hL2 ⊢
                  omega
              have go : Tt (fun K i => cs1 (qe_X13_isGap K n (nI g) y) fun v6 z5 => (if v6 = 0 then q_X13_twoCome K i 5 (nI g) (nI h9) (nI t) n 0 0 z5 else cs1 (qe_X13_isGap K n (nI h9) z5) fun v8 z7 => (if v8 = 0 then q_X13_twoCome K i 5 (nI g) (nI h9) (nI t) n 0 0 z7 else cs0 (qe_X13_twoAt K n (nI g) (nI h9) (nI t) z7) fun z9 => q_X13_twoCome K i 3 (nI g) (nI h9) (nI t + 1) n 0 0 z9))) Q := by
                refine w_cs1 (tp_isGap hn o2 (by omega)) (fun a y9 ⟨e, h7⟩ => ?_)
                have e : y9 = y := e
                subst e
                rcases h7 with ⟨h7, hng⟩ | ⟨h7, hig⟩
                · have h7 : a = 0 := h7
                  exact w_ifT h7 (early (fun h6 => hng h6.1))
                · have h7 : a = 1 := h7
                  refine w_ifF (by rw [h7]; decide) (w_cs1 (tp_isGap hn o2 (by omega)) (fun a2 y8 ⟨e2, h5⟩ => ?_))
                  have e2 : y8 = y9 := e2
                  subst e2
                  rcases h5 with ⟨h5, hng⟩ | ⟨h5, hih⟩
                  · have h5 : a2 = 0 := h5
                    exact w_ifT h5 (early (fun h6 => hng h6.2))
                  · have h5 : a2 = 1 := h5
                    have e1 := gcn_g hig
                    have e3 := gcn_g hih
                    rw [dif_pos e1, dif_pos ⟨e1, e3⟩] at hL2
                    have hMW : M + W ≤ gcn A N * W := by
                      rw [hM, ← Nat.succ_mul]
                      exact Nat.mul_le_mul_right W (by omega)
                    have hlim : L2 < 2700 := by
                      have : 4 * gcn A h9 + 4 + 8 ≤ W + 8 := by omega
                      by_cases hlt : g < h9
                      · rw [if_pos hlt] at hL2; omega
                      · rw [if_neg hlt] at hL2; omega
                    rw [nI_1]
                    refine w_ifF (by rw [h5]; decide) (w_cs0 (tp_twoAt hn hn3 hV hlim hig hih t8 o2 ho) (fun y7 ⟨⟨L3, k1, k2⟩, k3⟩ => ihi (t + 1) y7 (by omega) (fr_tr hf k3) ⟨L3, ?_, k2⟩))
                    rw [dif_pos e1, dif_pos ⟨e1, e3⟩]
                    omega
              refine u_X13_twoCome_3 ?_; unfold qm_X13_twoCome_3
              refine w_eqN (by omega) (by omega) (fun h8 => ?_) (fun h8 => ?_)
              · rw [if_pos h8] at ht
                refine u_X13_twoCome_4 ?_; unfold qm_X13_twoCome_4
                exact w_leF (a := 8) (by omega) (by omega) go
              · rw [if_neg h8] at ht
                refine u_X13_twoCome_4 ?_; unfold qm_X13_twoCome_4
                exact w_leF (a := 4) (by omega) (by omega) go
          have o2 := oNet_C hn hn3 hf hO
          obtain ⟨L2, hL2, ho⟩ := hLh
          refine u_X13_twoCome_2 ?_; unfold qm_X13_twoCome_2
          refine w_rdF o2.1.V (w_rdF (lk_C o2.1) ?_)
          rw [nI_add]
          refine w_leF (by omega) (by omega) (inn _ 0 y (Nat.zero_add _) hf ⟨L2, ?_, ho⟩)
          omega
      have o2 := oNet_C hn hn3 hf hO
      obtain ⟨L2, hL2, ho⟩ := hLo
      refine u_X13_twoCome_1 ?_; unfold qm_X13_twoCome_1
      refine w_rdF o2.1.V (w_rdF (lk_C o2.1) ?_)
      rw [nI_add]
      exact w_leF (by omega) (by omega) (mid N 0 y (by omega) hf ⟨L2, by omega, ho⟩)
  refine e_X13_twoCome ?_
  refine u_X13_twoCome_0 ?_; unfold qm_X13_twoCome_0
  exact out N 0 z (by omega) fr_rf ⟨0, Nat.zero_le _, h⟩
theorem u_X13_twoGo_1 {x2 : Int32} {x3 : Int32} {x4 : Int32} {x5 : Int32} {r1 : Nat} {z : ow_MS} {Q : ow_MS → Prop} (H : Tt (fun K k => qm_X13_twoGo_1 K (q_X13_twoGo K k) x2 x3 x4 x5 r1 z) Q) : Tt (fun K k => q_X13_twoGo K k 1 x2 x3 x4 x5 r1 z) Q := w_un (fun _ _ => rfl) H
theorem u_X13_twoGo_3 {x2 : Int32} {x3 : Int32} {x4 : Int32} {x5 : Int32} {r1 : Nat} {z : ow_MS} {Q : ow_MS → Prop} (H : Tt (fun K k => qm_X13_twoGo_3 K (q_X13_twoGo K k) x2 x3 x4 x5 r1 z) Q) : Tt (fun K k => q_X13_twoGo K k 3 x2 x3 x4 x5 r1 z) Q := w_un (fun _ _ => rfl) H
theorem u_X13_twoGo_2 {x2 : Int32} {x3 : Int32} {x4 : Int32} {x5 : Int32} {r1 : Nat} {z : ow_MS} {Q : ow_MS → Prop} (H : Tt (fun K k => qm_X13_twoGo_2 K (q_X13_twoGo K k) x2 x3 x4 x5 r1 z) Q) : Tt (fun K k => q_X13_twoGo K k 2 x2 x3 x4 x5 r1 z) Q := w_un (fun _ _ => rfl) H
theorem e_X13_twoGo {r1 : Nat} {z : ow_MS} {Q : ow_MS → Prop} (H : Tt (fun K k => q_X13_twoGo K k 0 0 0 0 0 r1 z) Q) : Te (fun K => qe_X13_twoGo K r1 z) Q := w_te H
theorem u_X13_twoGo_0 {x2 : Int32} {x3 : Int32} {x4 : Int32} {x5 : Int32} {r1 : Nat} {z : ow_MS} {Q : ow_MS → Prop} (H : Tt (fun K k => qm_X13_twoGo_0 K (q_X13_twoGo K k) x2 x3 x4 x5 r1 z) Q) : Tt (fun K k => q_X13_twoGo K k 0 x2 x3 x4 x5 r1 z) Q := w_un (fun _ _ => rfl) H
theorem tp_twoGo (hn : mw_net n) (hn3 : n ≠ 3000) (hO : oNet z n A sg) (h : oF X bb m 0 z) : Te (fun K => qe_X13_twoGo K n z) (fun z1 => (∃ L2, L2 ≤ 2700 ∧ oF X bb m L2 z1) ∧ fr frC z z1) := by
  have hl := hO.len
  have hd := wkF_ok hO.wk
  have key : ∀ (k v : Nat) (y : ow_MS), v + k = A.flatten.length → fr frC z y → (∃ L2, L2 ≤ v ∧ oF X bb m L2 y) → Tt (fun K i => q_X13_twoGo K i 1 (nI v) 0 0 0 n y) (fun z1 => (∃ L2, L2 ≤ 2700 ∧ oF X bb m L2 z1) ∧ fr frC z z1) := by
    intro k
    induction k with
    | zero =>
      intro v y hv hf ⟨L2, hL2, ho⟩
      have o2 := oNet_C hn hn3 hf hO
      refine u_X13_twoGo_1 ?_; unfold qm_X13_twoGo_1
      exact w_rdF o2.1.V (w_leT (by omega) (by omega) (w_some ⟨⟨L2, by omega, ho⟩, hf⟩))
    | succ k ih =>
      intro v y hv hf ⟨L2, hL2, ho⟩
      have o2 := oNet_C hn hn3 hf hO
      have hvl : v < A.flatten.length := by omega
      have hnl := rn_nx_lt (A := A) hvl
      have hm1 := mtf_lt hd hvl
      have hm2 := mtf_lt hd hnl
      have x1 := (o2.cx hvl).1
      have x2 := (o2.cx hnl).1
      have c3 : ∀ (y2 : ow_MS) (a b c : Int32), fr frC z y2 → (∃ L3, L3 ≤ v + 1 ∧ oF X bb m L3 y2) → Tt (fun K i => q_X13_twoGo K i 3 (nI v) a b c n y2) (fun z1 => (∃ L2, L2 ≤ 2700 ∧ oF X bb m L2 z1) ∧ fr frC z z1) := by
        intro y2 a b c hf2 ho2
        refine u_X13_twoGo_3 ?_; unfold qm_X13_twoGo_3
        rw [nI_1]
        exact ih (v + 1) y2 (by omega) hf2 ho2
      have c2 : ∀ (a b : Int32), Tt (fun K i => q_X13_twoGo K i 2 (nI v) (nI (rn_nx A v)) a b n y) (fun z1 => (∃ L2, L2 ≤ 2700 ∧ oF X bb m L2 z1) ∧ fr frC z z1) := by
        intro a b
        refine u_X13_twoGo_2 ?_; unfold qm_X13_twoGo_2
        exact w_rdI (pl4 hn) rfl (by omega) (lk_cu o2.1 hvl).1 (w_rdI (pl4 hn) rfl (by omega) (lk_cu o2.1 hnl).1 (w_cs0 (tp_without hn hn3 (by omega) (by omega) (by omega) o2 ho) (fun y2 ⟨k1, k2⟩ => c3 y2 _ _ _ (fr_tr hf (fr_mono (fun g hg => by unfold frB at hg; unfold frC; omega) k2)) ⟨L2 + 1, by omega, k1⟩)))
      have c33 : ∀ a b c : Int32, Tt (fun K i => q_X13_twoGo K i 3 (nI v) a b c n y) (fun z1 => (∃ L2, L2 ≤ 2700 ∧ oF X bb m L2 z1) ∧ fr frC z z1) := fun a b c => c3 y a b c hf ⟨L2, by omega, ho⟩
      have e4 := (lk_cu o2.1 hvl).1
      have e4n := (lk_cu o2.1 hnl).1
      refine u_X13_twoGo_1 ?_; unfold qm_X13_twoGo_1
      exact w_rdF o2.1.V (w_leF (by omega) hvl (w_rdI (pl9 hn) rfl (by omega) (lk_n o2.1 hvl) (w_rdI (pl5 hn) rfl (by omega) rfl (w_if (fun _ => w_rdI (pl5 hn) rfl (by omega) rfl (w_if (fun _ => w_rdI (pl4 hn) rfl (by omega) e4 (w_rdI (pl4 hn) rfl (by omega) e4n (w_if (fun _ => c33 _ _ _) (fun _ => w_rdI (pl4 hn) rfl (by omega) e4 (w_rdI (pl6 hn) rfl (by omega) rfl (w_rdI (pl4 hn) rfl (by omega) e4n (w_rdI (pl6 hn) rfl (by omega) rfl (w_if (fun _ => c33 _ _ _) (fun _ => w_rdI (pl7 hn) rfl (by omega) (lk_m hd o2.1 hvl) (w_rdI (pl7 hn) rfl (by omega) (lk_m hd o2.1 hnl) (w_rdI (pl9 hn) rfl (by omega) rfl (w_if (fun _ => c2 _ _) (fun _ => w_rdI (pl9 hn) rfl (by omega) rfl (w_if (fun _ => c2 _ _) (fun _ => c33 _ _ _)))))))))))))) ) (fun _ => c33 _ _ _))) (fun _ => c33 _ _ _)))))
  refine e_X13_twoGo ?_
  refine u_X13_twoGo_0 ?_; unfold qm_X13_twoGo_0
  exact key _ 0 z (Nat.zero_add _) fr_rf ⟨0, Nat.zero_le _, h⟩
end MV3
end
section
/-! 99zzv.three -/
/-! faces are closed under going on; threeChange -/
theorem nx_pv {A : rn_L} {v : Nat} (hv : v < A.flatten.length) : rn_nx A (rn_pv A v) = v := by
  obtain ⟨h1, h2, h3⟩ := rn_c_in A v hv
  have hc : rn_c A (rn_pv A v) = rn_c A v := by
    refine rn_c_of A _ _ ?_ ?_
    · unfold rn_pv
      by_cases h : rn_b A (rn_c A v) < v
      · rw [if_pos h]; omega
      · rw [if_neg h]; omega
    · unfold rn_pv
      by_cases h : rn_b A (rn_c A v) < v
      · rw [if_pos h]; omega
      · rw [if_neg h]; omega
  unfold rn_nx
  rw [hc]
  unfold rn_pv
  by_cases h : rn_b A (rn_c A v) < v
  · rw [if_pos h, if_pos (by omega)]; omega
  · rw [if_neg h, if_neg (by omega)]; omega
theorem pv_nx {A : rn_L} {v : Nat} (hv : v < A.flatten.length) : rn_pv A (rn_nx A v) = v := by
  obtain ⟨h1, h2, h3⟩ := rn_c_in A v hv
  have hc : rn_c A (rn_nx A v) = rn_c A v := by
    refine rn_c_of A _ _ ?_ ?_
    · unfold rn_nx
      by_cases h : v + 1 < rn_b A (rn_c A v + 1)
      · rw [if_pos h]; omega
      · rw [if_neg h]; omega
    · unfold rn_nx
      by_cases h : v + 1 < rn_b A (rn_c A v + 1)
      · rw [if_pos h]; omega
      · rw [if_neg h]; omega
  unfold rn_pv
  rw [hc]
  unfold rn_nx
  by_cases h : v + 1 < rn_b A (rn_c A v + 1)
  · rw [if_pos h, if_pos (by omega)]; omega
  · rw [if_neg h, if_neg (by omega)]; omega
/-- the visit at which a side ends, the side behind it -/
def hdv (A : rn_L) (s : Nat) : Nat := if s % 2 = 0 then rn_nx A (s / 2) else s / 2
def tlv (A : rn_L) (s : Nat) : Nat := if s % 2 = 0 then s / 2 else rn_nx A (s / 2)
def smv (A : rn_L) (sg : Nat → Bool) (v : Nat) : Bool := (decide (uns A v = 0) && !sg (crs A v)) || (decide (uns A v = 1) && sg (crs A v))
def wyv (A : rn_L) (sg : Nat → Bool) (s : Nat) : Nat := if smv A sg (hdv A s) then s % 2 else 1 - s % 2
def phi (A : rn_L) (sg : Nat → Bool) (s : Nat) : Nat := if wyv A sg s = 0 then 2 * mtf A (hdv A s) else 2 * rn_pv A (mtf A (hdv A s)) + 1
theorem hdv_lt {A : rn_L} {s : Nat} (hs : s < 2 * A.flatten.length) : hdv A s < A.flatten.length := by
  unfold hdv
  by_cases h : s % 2 = 0
  · rw [if_pos h]; exact rn_nx_lt (by omega)
  · rw [if_neg h]; omega
theorem wyv_lt {A : rn_L} {sg : Nat → Bool} {s : Nat} : wyv A sg s < 2 := by
  unfold wyv
  cases smv A sg (hdv A s) <;> simp <;> omega
theorem phi_lt {A : rn_L} {sg : Nat → Bool} {s : Nat} (hd : rn_ok A.flatten) (hs : s < 2 * A.flatten.length) : phi A sg s < 2 * A.flatten.length := by
  have h1 := mtf_lt hd (hdv_lt hs)
  have h2 := rn_pv_lt (A := A) h1
  unfold phi
  by_cases h : wyv A sg s = 0
  · rw [if_pos h]; omega
  · rw [if_neg h]; omega
theorem phi_tl {A : rn_L} {sg : Nat → Bool} {s : Nat} (hd : rn_ok A.flatten) (hs : s < 2 * A.flatten.length) : tlv A (phi A sg s) = mtf A (hdv A s) := by
  have h1 := mtf_lt hd (hdv_lt hs)
  unfold phi tlv
  by_cases h : wyv A sg s = 0
  · rw [if_pos h, if_pos (by omega)]; omega
  · rw [if_neg h, if_neg (by omega), show (2 * rn_pv A (mtf A (hdv A s)) + 1) / 2 = rn_pv A (mtf A (hdv A s)) by omega, nx_pv h1]
theorem phi_inj {A : rn_L} {sg : Nat → Bool} {s t : Nat} (hd : rn_ok A.flatten) (hs : s < 2 * A.flatten.length) (ht : t < 2 * A.flatten.length) (e : phi A sg s = phi A sg t) : s = t := by
  have e1 := phi_tl (sg := sg) hd hs
  have e2 := phi_tl (sg := sg) hd ht
  rw [e, e2] at e1
  have hh : hdv A s = hdv A t := by
    have a1 := mtf_mtf hd (hdv_lt hs)
    have a2 := mtf_mtf hd (hdv_lt ht)
    rw [← e1, a2] at a1
    exact a1.symm
  have hw : wyv A sg s = wyv A sg t := by
    have b1 := wyv_lt (A := A) (sg := sg) (s := s)
    have b2 := wyv_lt (A := A) (sg := sg) (s := t)
    unfold phi at e
    by_cases c1 : wyv A sg s = 0
    · by_cases c2 : wyv A sg t = 0
      · rw [c1, c2]
      · rw [if_pos c1, if_neg c2] at e; omega
    · by_cases c2 : wyv A sg t = 0
      · rw [if_neg c1, if_pos c2] at e; omega
      · omega
  have hp : s % 2 = t % 2 := by
    unfold wyv at hw
    rw [hh] at hw
    cases hb : smv A sg (hdv A t) with
    | true => rw [hb] at hw; exact hw
    | false =>
      rw [hb] at hw
      have : 1 - s % 2 = 1 - t % 2 := hw
      omega
  unfold hdv at hh
  rw [hp] at hh
  by_cases c : t % 2 = 0
  · rw [if_pos c, if_pos c] at hh
    have := congrArg (rn_pv A) hh
    rw [pv_nx (by omega), pv_nx (by omega)] at this
    omega
  · rw [if_neg c, if_neg c] at hh
    omega
def itf (f : Nat → Nat) : Nat → Nat → Nat
  | 0, x => x
  | t + 1, x => f (itf f t x)
/-- what the marks of the faces below f keep -/
def wkF2 (A : rn_L) (sg : Nat → Bool) (f : Nat) (M : Nat → Int32) : Prop := ∀ f', f' < f → ∀ s, s < 2 * A.flatten.length → (M s = nI f' ↔ M (phi A sg s) = nI f')
theorem tn_walk2 {n : Nat} {z : ow_MS} {A : rn_L} {sg : Nat → Bool} (hn : mw_net n) (hlen : A.flatten.length ≤ 40) (hd : rn_ok A.flatten) (hL : rn_lk z n A) (hG : rn_sg z n A.flatten sg) : Te (fun K => qe_X12_walk K n z) (fun z1 => fr (frW n) z z1 ∧ ∃ F, rn_fc z1 n A.flatten.length F ∧ wkF2 A sg F (z1.2.1 (n + 14))) := by
  have frK : ∀ {y y1 : ow_MS}, fr (frW n) y y1 → rn_lk y n A → rn_lk y1 n A := fun hf h => fr_lk hf (fun g hg => by rcases hg with hg | hg | hg <;> omega) h
  have frS : ∀ {y y1 : ow_MS}, fr (frW n) y y1 → rn_sg y n A.flatten sg → rn_sg y1 n A.flatten sg := fun hf h p hp => by
    rw [(hf (n + 6) (by omega)).2.1]
    exact h p hp
  let Q : ow_MS → Prop := fun z1 => fr (frW n) z z1 ∧ ∃ F, rn_fc z1 n A.flatten.length F ∧ wkF2 A sg F (z1.2.1 (n + 14))
  obtain ⟨V, hV⟩ : ∃ V, A.flatten.length = V := ⟨_, rfl⟩
  have V40 : V ≤ 40 := by omega
  have turn : ∀ (k0 a : Nat) (z1 : ow_MS), fr (frW n) z z1 → a < 2 * V → Tt (fun K k => q_X12_walk K k 3 (nI k0) (nI (phi A sg a)) 0 0 0 0 n 0 z1) Q → Tt (fun K k => q_X12_walk K k 4 (nI k0) (nI a) 0 0 0 0 n (nI (hdv A a)) z1) Q := by
    intro k0 a z1 hf ha hout
    have hL1 := frK hf hL
    have hv2 : hdv A a < A.flatten.length := hdv_lt (by omega)
    obtain ⟨v, hv⟩ : ∃ v, v = hdv A a := ⟨_, rfl⟩
    rw [← hv] at hv2 ⊢
    have hp := vAt_of hv2
    obtain ⟨hx, hu⟩ := hd.1.2 v _ hp
    obtain ⟨e4, e5⟩ := lk_cu hL1 hv2
    have hwl := mtf_lt hd hv2
    have e7 := lk_m hd hL1 hv2
    have e10 := lk_p hL1 hwl
    have hpv := rn_pv_lt (A := A) hwl
    have e6 : z1.2.1 (n + 6) (crs A v) = if sg (crs A v) then -1 else 1 := frS hf hG _ (List.mem_of_getElem? hp)
    have c9 : ∀ (x4 : Int32), Tt (fun K k => q_X12_walk K k 9 (nI k0) (nI a) (nI v) x4 0 0 n (nI (wyv A sg a)) z1) Q := by
      intro x4
      have hw2 := wyv_lt (A := A) (sg := sg) (s := a)
      refine u_X12_walk_9 ?_; unfold qm_X12_walk_9
      refine w_rdI (pl7 hn) rfl (by omega) e7 (w_eqN (b := 0) (by omega) (by omega) (fun h9 => ?_) (fun h9 => w_rdI (pl10 hn) rfl (by omega) e10 ?_))
      · refine u_X12_walk_10 ?_; unfold qm_X12_walk_10
        rw [rn_mul2]
        unfold phi at hout
        rw [if_pos h9, ← hv] at hout
        exact hout
      · refine u_X12_walk_10 ?_; unfold qm_X12_walk_10
        rw [rn_mul2, nI_1]
        unfold phi at hout
        rw [if_neg h9, ← hv] at hout
        exact hout
    have c8 : ∀ (b : Bool), smv A sg v = b → Tt (fun K k => q_X12_walk K k 8 (nI k0) (nI a) (nI v) 0 0 0 n (bZ b) z1) Q := by
      intro b hb
      have hwy : wyv A sg a = if b then a % 2 else 1 - a % 2 := by
        unfold wyv
        rw [← hv, hb]
      have h9 := c9 (bZ b)
      rw [hwy] at h9
      refine u_X12_walk_8 ?_; unfold qm_X12_walk_8
      rw [rn_and1 (by omega)]
      cases b with
      | false =>
        refine w_ifT rfl ?_
        rw [show (1 : Int32) - nI (a % 2) = nI (1 - a % 2) from pk_sub (a := 1) (by omega)]
        exact h9
      | true => exact w_ifF (by decide) h9
    have c6 : smv A sg v = true → Tt (fun K k => q_X12_walk K k 6 (nI k0) (nI a) (nI v) 0 0 0 n 0 z1) Q := by
      intro hb
      refine u_X12_walk_6 ?_; unfold qm_X12_walk_6
      exact c8 true hb
    have c7 : smv A sg v = false → Tt (fun K k => q_X12_walk K k 7 (nI k0) (nI a) (nI v) 0 0 0 n 0 z1) Q := by
      intro hb
      refine u_X12_walk_7 ?_; unfold qm_X12_walk_7
      exact c8 false hb
    have hu9 : uns A v < 2 := hu
    have c5 : ¬ (uns A v = 0 ∧ sg (crs A v) = false) → Tt (fun K k => q_X12_walk K k 5 (nI k0) (nI a) (nI v) 0 0 0 n 0 z1) Q := by
      intro hno
      refine u_X12_walk_5 ?_; unfold qm_X12_walk_5
      refine w_rdI (pl5 hn) rfl (by omega) e5 (w_eqN (b := 1) (by omega) (by omega) (fun h9 => w_rdI (pl4 hn) rfl (by omega) e4 (w_rdI (pl6 hn) rfl hx e6 ?_)) (fun h9 => c7 ?_))
      · cases hs : sg (crs A v) with
        | true =>
          refine w_ifF (by decide) (c6 ?_)
          unfold smv
          rw [hs, decide_eq_true h9, Bool.and_self, Bool.or_true]
        | false =>
          refine w_ifT (by decide) (c7 ?_)
          unfold smv
          rw [hs, decide_eq_false (by omega)]
          simp
      · have h0 : uns A v = 0 := by omega
        have hs : sg (crs A v) = true := by
          cases hs : sg (crs A v) with
          | true => rfl
          | false => exact absurd ⟨h0, hs⟩ hno
        unfold smv
        rw [hs, decide_eq_false h9]
        simp
    refine u_X12_walk_4 ?_; unfold qm_X12_walk_4
    refine w_rdI (pl5 hn) rfl (by omega) e5 (w_eqN (b := 0) (by omega) (by omega) (fun h9 => w_rdI (pl4 hn) rfl (by omega) e4 (w_rdI (pl6 hn) rfl hx e6 ?_)) (fun h9 => c5 (fun h8 => h9 h8.1)))
    cases hs : sg (crs A v) with
    | true => exact w_ifF (by decide) (c5 (fun h8 => by rw [hs] at h8; exact absurd h8.2 (by decide)))
    | false =>
      refine w_ifT (by decide) (c6 ?_)
      unfold smv
      rw [hs, decide_eq_true h9]
      rfl
  have inn : ∀ (k0 f : Nat), f < 80 → k0 < 2 * V → ∀ (u t : Nat) (z1 : ow_MS), rn_cU (z1.2.1 (n + 14)) (2 * V) ≤ u → fr (frW n) z z1 → z1.1 (n + 16) = nI f → wkI V f (z1.2.1 (n + 14)) (z1.2.1 (n + 15)) → wkF2 A sg f (z1.2.1 (n + 14)) → itf (phi A sg) t k0 < 2 * V → (∀ s, s < 2 * V → (z1.2.1 (n + 14) s = nI f ↔ ∃ i, i < t ∧ s = itf (phi A sg) i k0)) → (∀ i j, i < j → j < t → itf (phi A sg) i k0 ≠ itf (phi A sg) j k0) → (t = 0 → z1.2.1 (n + 14) k0 = -1) → (∀ z2, fr (frW n) z z2 → z2.1 (n + 16) = nI (f + 1) → wkI V f (z2.2.1 (n + 14)) (z2.2.1 (n + 15)) → wkF2 A sg (f + 1) (z2.2.1 (n + 14)) → z2.2.1 (n + 14) k0 ≠ -1 → (∀ s, z1.2.1 (n + 14) s ≠ -1 → z2.2.1 (n + 14) s ≠ -1) → Tt (fun K k => q_X12_walk K k 11 (nI k0) 0 0 0 0 0 n 0 z2) Q) → Tt (fun K k => q_X12_walk K k 3 (nI k0) (nI (itf (phi A sg) t k0)) 0 0 0 0 n 0 z1) Q := by
    intro k0 f hf80 hk0 u
    -- the end of a face
    have endf : ∀ (t : Nat) (z1 : ow_MS), wkI V f (z1.2.1 (n + 14)) (z1.2.1 (n + 15)) → wkF2 A sg f (z1.2.1 (n + 14)) → itf (phi A sg) t k0 < 2 * V → (∀ s, s < 2 * V → (z1.2.1 (n + 14) s = nI f ↔ ∃ i, i < t ∧ s = itf (phi A sg) i k0)) → (∀ i j, i < j → j < t → itf (phi A sg) i k0 ≠ itf (phi A sg) j k0) → (t = 0 → z1.2.1 (n + 14) k0 = -1) → z1.2.1 (n + 14) (itf (phi A sg) t k0) ≠ -1 → wkF2 A sg (f + 1) (z1.2.1 (n + 14)) ∧ z1.2.1 (n + 14) k0 ≠ -1 := by
      intro t z1 hI hW hat hmk hdi ht0 hM
      have itlt : ∀ i, itf (phi A sg) i k0 < 2 * V := by
        intro i
        induction i with
        | zero => exact hk0
        | succ i ih =>
          have := phi_lt (sg := sg) hd (s := itf (phi A sg) i k0) (by omega)
          show phi A sg (itf (phi A sg) i k0) < _
          omega
      have htp : 0 < t := by
        rcases Nat.eq_zero_or_pos t with e | e
        · exfalso
          have := ht0 e
          rw [e] at hM
          exact hM this
        · exact e
      obtain ⟨t1, rfl⟩ : ∃ t1, t = t1 + 1 := ⟨t - 1, by omega⟩
      have hlast : z1.2.1 (n + 14) (itf (phi A sg) t1 k0) = nI f := (hmk _ (itlt t1)).mpr ⟨t1, by omega, rfl⟩
      have hk : itf (phi A sg) (t1 + 1) k0 = k0 := by
        rcases hI.1 _ hat with h9 | ⟨f', h9, h8⟩
        · exact absurd h9 hM
        · by_cases hff : f' = f
          · rw [hff] at h8
            obtain ⟨i, hi, e⟩ := (hmk _ hat).mp h8
            rcases Nat.eq_zero_or_pos i with e0 | e0
            · rw [e0] at e
              exact e
            · obtain ⟨i1, rfl⟩ : ∃ i1, i = i1 + 1 := ⟨i - 1, by omega⟩
              have e : phi A sg (itf (phi A sg) t1 k0) = phi A sg (itf (phi A sg) i1 k0) := e
              have e9 := phi_inj hd (by have := itlt t1; omega) (by have := itlt i1; omega) e
              exact absurd e9.symm (hdi i1 t1 (by omega) (by omega))
          · have h7 : z1.2.1 (n + 14) (phi A sg (itf (phi A sg) t1 k0)) = nI f' := h8
            have h6 := (hW f' (by omega) _ (by have := itlt t1; omega)).mpr h7
            rw [hlast] at h6
            have := (nI_eq (by omega) (by omega)).mp h6
            omega
      refine ⟨fun f' hf' s hs => ?_, ?_⟩
      · by_cases hff : f' = f
        · subst hff
          have hs' : s < 2 * V := by omega
          have hph := phi_lt (sg := sg) hd hs
          rw [hmk s hs', hmk _ (by omega)]
          constructor
          · rintro ⟨i, hi, e⟩
            by_cases hil : i = t1
            · refine ⟨0, by omega, ?_⟩
              rw [e, hil]
              exact hk
            · exact ⟨i + 1, by omega, by rw [e]; rfl⟩
          · rintro ⟨i, hi, e⟩
            rcases Nat.eq_zero_or_pos i with e0 | e0
            · refine ⟨t1, by omega, phi_inj (sg := sg) hd hs (by have := itlt t1; omega) ?_⟩
              rw [e, e0]
              exact hk.symm
            · obtain ⟨i1, rfl⟩ : ∃ i1, i = i1 + 1 := ⟨i - 1, by omega⟩
              exact ⟨i1, by omega, phi_inj hd hs (by have := itlt i1; omega) e⟩
        · exact hW f' (by omega) s hs
      · have : z1.2.1 (n + 14) k0 = nI f := (hmk k0 hk0).mpr ⟨0, by omega, rfl⟩
        rw [this]
        exact rn_neg1 (by omega)
    induction u with
    | zero =>
      intro t z1 hu hf h16 hI hW hat hmk hdi ht0 hout
      refine u_X12_walk_3 ?_; unfold qm_X12_walk_3
      refine w_rdI (pl14 hn) rfl (by omega) rfl (w_if (fun hM => ?_) (fun hM => w_rdF h16 (w_wrF ?_)))
      · have := rn_cU_upd (M := z1.2.1 (n + 14)) (x := 0) hM (by decide) (2 * V) hat
        omega
      · rw [nI_1]
        obtain ⟨g1, g2⟩ := endf t z1 hI hW hat hmk hdi ht0 hM
        exact hout _ (fr_F2 hf (Or.inr (Or.inr rfl))) po_usF_at hI g1 g2 (fun s hs => hs)
    | succ u ih =>
      intro t z1 hu hf h16 hI hW hat hmk hdi ht0 hout
      obtain ⟨a, haE⟩ : ∃ a, a = itf (phi A sg) t k0 := ⟨_, rfl⟩
      have ha : a < 2 * V := by rw [haE]; exact hat
      refine u_X12_walk_3 ?_; unfold qm_X12_walk_3
      refine w_rdI (pl14 hn) rfl (by omega) rfl (w_if (fun hM => ?_) (fun hM => w_rdF h16 (w_wrF ?_)))
      · rw [← haE] at hM ⊢
        have hne : nI f ≠ -1 := rn_neg1 (by omega)
        have cu := rn_cU_upd (M := z1.2.1 (n + 14)) (x := nI f) hM hne (2 * V) ha
        have hf2 : fr (frW n) z (usI (usI z1 (n + 14) a (nI f)) (n + 15) f (z1.2.1 (n + 15) f + 1)) := fr_I2 (fr_I2 hf (Or.inl rfl)) (Or.inr (Or.inl rfl))
        have r14 : (usI (usI z1 (n + 14) a (nI f)) (n + 15) f (z1.2.1 (n + 15) f + 1)).2.1 (n + 14) = upd (z1.2.1 (n + 14)) a (nI f) := by
          rw [po_usI_ot (by omega), po_usI_row]
        have r15 : (usI (usI z1 (n + 14) a (nI f)) (n + 15) f (z1.2.1 (n + 15) f + 1)).2.1 (n + 15) = upd (z1.2.1 (n + 15)) f (z1.2.1 (n + 15) f + 1) := by
          rw [po_usI_row, po_usI_ot (by omega)]
        have hna : ∀ i, i < t → itf (phi A sg) i k0 ≠ a := by
          intro i hi e
          have : z1.2.1 (n + 14) a = nI f := (hmk a ha).mpr ⟨i, hi, e.symm⟩
          rw [hM] at this
          exact hne this.symm
        have hphl := phi_lt (sg := sg) hd (s := a) (by omega)
        have go4 : Tt (fun K k => q_X12_walk K k 4 (nI k0) (nI a) 0 0 0 0 n (nI (hdv A a)) (usI (usI z1 (n + 14) a (nI f)) (n + 15) f (z1.2.1 (n + 15) f + 1))) Q := by
          refine turn k0 a _ hf2 ha ?_
          have step := ih (t + 1) (usI (usI z1 (n + 14) a (nI f)) (n + 15) f (z1.2.1 (n + 15) f + 1)) (by rw [r14]; omega) hf2 h16 (by rw [r14, r15]; exact wkI_st (by omega) ha hM hI) (by
            rw [r14]
            intro f' hf' s hs
            have ne1 : nI f ≠ nI f' := fun e => by have := (nI_eq (by omega) (by omega)).mp e; omega
            by_cases hsa : s = a
            · rw [hsa, pk_us]
              have hMa : z1.2.1 (n + 14) a ≠ nI f' := by rw [hM]; exact fun e => rn_neg1 (v := f') (by omega) e.symm
              have hp2 : z1.2.1 (n + 14) (phi A sg a) ≠ nI f' := fun e => hMa ((hW f' hf' a (by omega)).mpr e)
              by_cases hpa : phi A sg a = a
              · rw [hpa, pk_us]
              · rw [pk_un hpa]
                exact ⟨fun e => absurd e ne1, fun e => absurd e hp2⟩
            · rw [pk_un hsa]
              by_cases hpa : phi A sg s = a
              · rw [hpa, pk_us]
                have hMa : z1.2.1 (n + 14) a ≠ nI f' := by rw [hM]; exact fun e => rn_neg1 (v := f') (by omega) e.symm
                have h3 := hW f' hf' s hs
                rw [hpa] at h3
                exact ⟨fun e => absurd (h3.mp e) hMa, fun e => absurd e ne1⟩
              · rw [pk_un hpa]
                exact hW f' hf' s hs) (by
            show phi A sg (itf (phi A sg) t k0) < 2 * V
            rw [← haE]
            omega) (by
            rw [r14]
            intro s hs
            by_cases hsa : s = a
            · rw [hsa, pk_us]
              exact ⟨fun _ => ⟨t, by omega, haE⟩, fun _ => rfl⟩
            · rw [pk_un hsa, hmk s hs]
              constructor
              · rintro ⟨i, hi, e⟩
                exact ⟨i, by omega, e⟩
              · rintro ⟨i, hi, e⟩
                by_cases hit : i = t
                · rw [hit, ← haE] at e
                  exact absurd e hsa
                · exact ⟨i, by omega, e⟩) (by
            intro i j hij hj
            by_cases hjt : j = t
            · rw [hjt, ← haE]
              exact hna i (by omega)
            · exact hdi i j hij (by omega)) (fun e => by omega) (fun z2 g1 g2 g3 g4 g5 g6 => by
            rw [r14] at g6
            refine hout z2 g1 g2 g3 g4 g5 (fun s hs => ?_)
            by_cases hsa : s = a
            · exact g6 s (by rw [hsa, pk_us]; exact hne)
            · exact g6 s (by rw [pk_un hsa]; exact hs))
          have e1 : itf (phi A sg) (t + 1) k0 = phi A sg a := by
            rw [haE]
            rfl
          rw [e1] at step
          exact step
        have e9 := ((frK hf2 hL).2.1 (a / 2) (by omega)).2.1
        refine w_rdF h16 (w_wrI (pl14 hn) rfl (by omega) (w_rdF h16 (w_rdI (pl15 hn) rfl hf80 (rd_ot (by omega) rfl) (w_wrI (pl15 hn) rfl hf80 ?_))))
        rw [rn_shr1 (by omega), rn_and1 (by omega)]
        refine w_eqN (b := 0) (by omega) (by omega) (fun h9 => w_rdI (pl9 hn) rfl (by omega) e9 ?_) (fun h9 => ?_)
        · unfold hdv at go4
          rw [if_pos h9] at go4
          exact go4
        · unfold hdv at go4
          rw [if_neg h9] at go4
          exact go4
      · rw [nI_1]
        obtain ⟨g1, g2⟩ := endf t z1 hI hW hat hmk hdi ht0 hM
        exact hout _ (fr_F2 hf (Or.inr (Or.inr rfl))) po_usF_at hI g1 g2 (fun s hs => hs)
  have out : ∀ (d c f : Nat) (z1 : ow_MS), c + d = 2 * V → f ≤ c → fr (frW n) z z1 → z1.1 (n + 16) = nI f → wkO V f (z1.2.1 (n + 14)) (z1.2.1 (n + 15)) → wkF2 A sg f (z1.2.1 (n + 14)) → (∀ s, s < c → z1.2.1 (n + 14) s ≠ -1) → Tt (fun K k => q_X12_walk K k 2 (nI c) 0 0 0 0 0 n 0 z1) Q := by
    intro d
    induction d with
    | zero =>
      intro c f z1 hc hfc hf h16 hO hW hm
      refine u_X12_walk_2 ?_; unfold qm_X12_walk_2
      refine w_rdF (frK hf hL).V ?_
      rw [rn_mul2]
      refine w_leT (by omega) (by omega) (w_some ⟨hf, f, ⟨h16, by omega, fun s hs => ?_, ?_⟩, hW⟩)
      · rw [hV] at hs
        exact (hO.1 s hs).resolve_left (hm s (by omega))
      · rw [hV]
        exact hO.2
    | succ d ih =>
      intro c f z1 hc hfc hf h16 hO hW hm
      refine u_X12_walk_2 ?_; unfold qm_X12_walk_2
      refine w_rdF (frK hf hL).V ?_
      rw [rn_mul2]
      refine w_leF (by omega) (by omega) (w_rdI (pl14 hn) rfl (by omega) rfl (w_if (fun c1 => w_rdF h16 (w_wrI (pl15 hn) rfl (by omega) ?_)) (fun c1 => ?_)))
      · have r14 : (usI z1 (n + 15) f 0).2.1 (n + 14) = z1.2.1 (n + 14) := po_usI_ot (by omega)
        refine inn c f (by omega) (by omega) _ 0 _ (Nat.le_refl _) (fr_I2 hf (Or.inr (Or.inl rfl))) h16 (by rw [r14, po_usI_row]; exact wkI_0 (by omega) hO) (by rw [r14]; exact hW) (show c < 2 * V by omega) (by
          rw [r14]
          intro s hs
          constructor
          · intro e
            rcases hO.1 s hs with h9 | ⟨f', h9, h8⟩
            · rw [e] at h9
              exact absurd h9 (rn_neg1 (by omega))
            · rw [e] at h8
              have := (nI_eq (by omega) (by omega)).mp h8
              omega
          · rintro ⟨i, hi, -⟩
            omega) (fun i j _ hj => by omega) (fun _ => by rw [r14]; exact c1) (fun z2 g1 g2 g3 g4 g5 g6 => ?_)
        refine u_X12_walk_11 ?_; unfold qm_X12_walk_11
        rw [nI_1]
        rw [r14] at g6
        refine ih (c + 1) (f + 1) z2 (by omega) (by omega) g1 g2 g3 g4 (fun s hs => ?_)
        by_cases hsc : s = c
        · rw [hsc]; exact g5
        · exact g6 s (hm s (by omega))
      · refine u_X12_walk_11 ?_; unfold qm_X12_walk_11
        rw [nI_1]
        refine ih (c + 1) f z1 (by omega) (by omega) hf h16 hO hW (fun s hs => ?_)
        by_cases hsc : s = c
        · rw [hsc]; exact c1
        · exact hm s (by omega)
  have zer : ∀ (d c : Nat) (z1 : ow_MS), c + d = 2 * V → fr (frW n) z z1 → (∀ s, s < c → z1.2.1 (n + 14) s = -1) → Tt (fun K k => q_X12_walk K k 1 (nI c) 0 0 0 0 0 n 0 z1) Q := by
    intro d
    induction d with
    | zero =>
      intro c z1 hc hf hm
      refine u_X12_walk_1 ?_; unfold qm_X12_walk_1
      refine w_rdF (frK hf hL).V ?_
      rw [rn_mul2]
      exact w_leT (by omega) (by omega) (w_wrF (out (2 * V) 0 0 _ (by omega) (Nat.le_refl _) (fr_F2 hf (Or.inr (Or.inr rfl))) po_usF_at ⟨fun s hs => Or.inl (hm s (by omega)), fun f hf9 => by omega⟩ (fun f hf9 => by omega) (fun s hs => by omega)))
    | succ d ih =>
      intro c z1 hc hf hm
      refine u_X12_walk_1 ?_; unfold qm_X12_walk_1
      refine w_rdF (frK hf hL).V ?_
      rw [rn_mul2]
      refine w_leF (by omega) (by omega) (w_wrI (pl14 hn) rfl (by omega) ?_)
      rw [nI_1]
      refine ih (c + 1) _ (by omega) (fr_I2 hf (Or.inl rfl)) (fun s hs => ?_)
      by_cases hsc : s = c
      · rw [hsc]; exact po_usI_at
      · exact rd_ne hsc (hm s (by omega))
  refine e_X12_walk ?_
  refine u_X12_walk_0 ?_; unfold qm_X12_walk_0
  exact zer (2 * V) 0 z (by omega) fr_rf (fun s hs => by omega)
end
section
/-! 99zzw.three2 -/
/-! threeChange -/
def rsh (A : rn_L) (G : Nat → Nat × Nat) (k : Nat) : rn_L := (List.range k).map (fun c => (List.range' (rn_b A c) (rlen A c)).map G)
theorem rsh_fl {A : rn_L} {G : Nat → Nat × Nat} : ∀ k, k ≤ A.length → (rsh A G k).flatten = (List.range (rn_b A k)).map G
  | 0, _ => by rw [rn_b0]; rfl
  | k + 1, h => by
    have ih := rsh_fl (A := A) (G := G) k (by omega)
    have hm := rn_b_mono A k
    unfold rsh at ih ⊢
    rw [List.range_succ, List.map_append, List.flatten_append, ih]
    have e : List.range (rn_b A (k + 1)) = List.range (rn_b A k) ++ List.range' (rn_b A k) (rlen A k) := by
      have h1 : rn_b A (k + 1) = rn_b A k + rlen A k := by unfold rlen; omega
      rw [h1, List.range_eq_range', List.range_eq_range']
      have := List.range'_append (s := 0) (m := rn_b A k) (n := rlen A k) (step := 1)
      rw [Nat.zero_add, Nat.one_mul] at this
      exact this.symm
    rw [e, List.map_append]
    simp
theorem rsh_take {A : rn_L} {G : Nat → Nat × Nat} {k c : Nat} (h : c ≤ k) : (rsh A G k).take c = rsh A G c := by
  unfold rsh
  rw [← List.map_take, List.take_range, Nat.min_eq_left h]
theorem At_rsh {z z1 : ow_MS} {n : Nat} {A : rn_L} {G : Nat → Nat × Nat} (h : rn_At z n A []) (e1 : z1.1 (n + 1) = z.1 (n + 1)) (e2 : z1.1 (n + 2) = z.1 (n + 2)) (e3 : z1.2.1 (n + 3) = z.2.1 (n + 3)) (h4 : ∀ v, v < A.flatten.length → z1.2.1 (n + 4) v = nI (G v).1 ∧ z1.2.1 (n + 5) v = nI (G v).2) : rn_At z1 n (rsh A G A.length) [] := by
  obtain ⟨a1, a2, a3, a4⟩ := h
  have hl : (rsh A G A.length).length = A.length := by unfold rsh; rw [List.length_map, List.length_range]
  have hf := rsh_fl (A := A) (G := G) A.length (Nat.le_refl _)
  rw [rn_b_len] at hf
  refine ⟨?_, ?_, fun c hc => ?_, fun v p hv => ?_⟩
  · rw [e1, a1, List.append_nil, List.append_nil, hf, List.length_map, List.length_range]
  · rw [e2, a2, hl]
  · rw [hl] at hc
    rw [e3, a3 c hc, rsh_take hc, rsh_fl c hc, List.length_map, List.length_range]
    rfl
  · rw [List.append_nil, hf, List.getElem?_map] at hv
    by_cases hvl : v < A.flatten.length
    · rw [List.getElem?_range hvl] at hv
      cases hv
      exact h4 v hvl
    · rw [List.getElem?_eq_none (by rw [List.length_range]; omega)] at hv
      cases hv
/-- visits that change places in pairs -/
theorem wkF_sw {A : rn_L} {s : Nat → Nat} (hF : wkF A.flatten) (h1 : ∀ v, v < A.flatten.length → s v < A.flatten.length) (h2 : ∀ v, v < A.flatten.length → s (s v) = v) : wkF (rsh A (fun v => vAt A (s v)) A.length).flatten := by
  have hf := rsh_fl (A := A) (G := fun v => vAt A (s v)) A.length (Nat.le_refl _)
  rw [rn_b_len] at hf
  rw [hf]
  have mem : ∀ p, p ∈ (List.range A.flatten.length).map (fun v => vAt A (s v)) ↔ p ∈ A.flatten := by
    intro p
    rw [List.mem_map]
    constructor
    · rintro ⟨v, hv, e⟩
      rw [← e]
      exact List.mem_of_getElem? (vAt_of (h1 v (List.mem_range.mp hv)))
    · intro hp
      obtain ⟨v, hv, e⟩ := List.getElem_of_mem hp
      refine ⟨s v, List.mem_range.mpr (h1 v hv), ?_⟩
      show vAt A (s (s v)) = p
      rw [h2 v hv, vAt_eq (List.getElem?_eq_getElem hv), e]
  refine ⟨nodup_map List.nodup_range (fun a b ha hb e => ?_), fun p hp => ?_⟩
  · have ha := List.mem_range.mp ha
    have hb := List.mem_range.mp hb
    have := nodup_at hF.1 (vAt_of (h1 a ha)) (by rw [show vAt A (s a) = vAt A (s b) from e]; exact vAt_of (h1 b hb))
    have h9 := congrArg s this
    rw [h2 a ha, h2 b hb] at h9
    exact h9
  · obtain ⟨g1, g2, g3⟩ := hF.2 p ((mem p).mp hp)
    exact ⟨g1, g2, (mem _).mpr g3⟩
def sw2 (a b p : Nat) : Nat := if p = a then b else if p = b then a else p
theorem sw2_inv {a b p : Nat} : sw2 a b (sw2 a b p) = p := by
  unfold sw2
  repeat' split
  all_goals omega
theorem sw2_comm {a b c d p : Nat} (h1 : a ≠ c) (h2 : a ≠ d) (h3 : b ≠ c) (h4 : b ≠ d) : sw2 a b (sw2 c d p) = sw2 c d (sw2 a b p) := by
  unfold sw2
  repeat' split
  all_goals omega
theorem sw2_lt {a b p V : Nat} (h1 : a < V) (h2 : b < V) (h3 : p < V) : sw2 a b p < V := by
  unfold sw2
  repeat' split
  all_goals omega
/-- three pairs, six visits -/
theorem sw_three {v0 w0 v1 w1 v2 w2 V : Nat} (h : v0 < V ∧ w0 < V ∧ v1 < V ∧ w1 < V ∧ v2 < V ∧ w2 < V) (h01 : v0 ≠ v1 ∧ v0 ≠ w1 ∧ w0 ≠ v1 ∧ w0 ≠ w1) (h12 : v1 ≠ v2 ∧ v1 ≠ w2 ∧ w1 ≠ v2 ∧ w1 ≠ w2) (h20 : v2 ≠ v0 ∧ v2 ≠ w0 ∧ w2 ≠ v0 ∧ w2 ≠ w0) : (∀ p, p < V → sw2 v0 w0 (sw2 v1 w1 (sw2 v2 w2 p)) < V) ∧ ∀ p, p < V → sw2 v0 w0 (sw2 v1 w1 (sw2 v2 w2 (sw2 v0 w0 (sw2 v1 w1 (sw2 v2 w2 p))))) = p := by
  refine ⟨fun p hp => sw2_lt h.1 h.2.1 (sw2_lt h.2.2.1 h.2.2.2.1 (sw2_lt h.2.2.2.2.1 h.2.2.2.2.2 hp)), fun p _ => ?_⟩
  rw [sw2_comm (a := v2) (b := w2) (c := v0) (d := w0) h20.1 h20.2.1 h20.2.2.1 h20.2.2.2]
  rw [sw2_comm (a := v1) (b := w1) (c := v0) (d := w0) (fun e => h01.1 e.symm) (fun e => h01.2.2.1 e.symm) (fun e => h01.2.1 e.symm) (fun e => h01.2.2.2 e.symm)]
  rw [sw2_inv]
  rw [sw2_comm (a := v2) (b := w2) (c := v1) (d := w1) (fun e => h12.1 e.symm) (fun e => h12.2.2.1 e.symm) (fun e => h12.2.1 e.symm) (fun e => h12.2.2.2 e.symm)]
  rw [sw2_inv, sw2_inv]
/-- the sides of a face below s -/
def fl (M : Nat → Int32) (f s : Nat) : List Nat := (List.range s).filter (fun t => decide (M t = nI f))
theorem fl_s {M : Nat → Int32} {f s : Nat} : fl M f (s + 1) = fl M f s ++ if M s = nI f then [s] else [] := by
  unfold fl
  rw [List.range_succ, List.filter_append]
  by_cases h : M s = nI f <;> simp [h]
theorem fl_len {M : Nat → Int32} {f : Nat} : ∀ s, (fl M f s).length = cE M (nI f) s
  | 0 => rfl
  | s + 1 => by
    rw [fl_s, List.length_append, fl_len s]
    show _ = cE M (nI f) s + if M s = nI f then 1 else 0
    by_cases h : M s = nI f
    · rw [if_pos h, if_pos h]; rfl
    · rw [if_neg h, if_neg h]; rfl
theorem cE_mono {M : Nat → Int32} {x : Int32} {a b : Nat} (h : a ≤ b) : cE M x a ≤ cE M x b := by
  obtain ⟨d, rfl⟩ : ∃ d, b = a + d := ⟨b - a, by omega⟩
  induction d with
  | zero => exact Nat.le_refl _
  | succ d ih =>
    have := ih (by omega)
    show _ ≤ cE M x (a + d) + _
    omega
/-- a triangle whose corners differ has six visits -/
theorem tri_six {A : rn_L} {sg : Nat → Bool} {s0 s1 s2 : Nat} (hd : rn_ok A.flatten) (h : s0 < 2 * A.flatten.length ∧ s1 < 2 * A.flatten.length ∧ s2 < 2 * A.flatten.length) (hne : s0 ≠ s1 ∧ s0 ≠ s2 ∧ s1 ≠ s2) (hcl : ∀ s, (s = s0 ∨ s = s1 ∨ s = s2) → phi A sg s = s0 ∨ phi A sg s = s1 ∨ phi A sg s = s2) (c01 : crs A (hdv A s0) ≠ crs A (hdv A s1)) (c02 : crs A (hdv A s0) ≠ crs A (hdv A s2)) (c12 : crs A (hdv A s1) ≠ crs A (hdv A s2)) : ∀ i j, (i = s0 ∨ i = s1 ∨ i = s2) → (j = s0 ∨ j = s1 ∨ j = s2) → (i ≠ j → hdv A i ≠ hdv A j ∧ tlv A i ≠ tlv A j) ∧ hdv A i ≠ tlv A j := by
  have lt : ∀ i, (i = s0 ∨ i = s1 ∨ i = s2) → i < 2 * A.flatten.length := fun i hi => by omega
  have cne : ∀ i j, (i = s0 ∨ i = s1 ∨ i = s2) → (j = s0 ∨ j = s1 ∨ j = s2) → i ≠ j → crs A (hdv A i) ≠ crs A (hdv A j) := by
    intro i j hi hj hij
    rcases hi with e | e | e <;> rcases hj with e2 | e2 | e2 <;> rw [e, e2] <;> first | exact absurd (e.trans e2.symm) hij | exact c01 | exact c02 | exact c12 | exact c01.symm | exact c02.symm | exact c12.symm
  have i01 : phi A sg s0 ≠ phi A sg s1 := fun e => hne.1 (phi_inj hd h.1 h.2.1 e)
  have i02 : phi A sg s0 ≠ phi A sg s2 := fun e => hne.2.1 (phi_inj hd h.1 h.2.2 e)
  have i12 : phi A sg s1 ≠ phi A sg s2 := fun e => hne.2.2 (phi_inj hd h.2.1 h.2.2 e)
  have p0 := hcl s0 (Or.inl rfl)
  have p1 := hcl s1 (Or.inr (Or.inl rfl))
  have p2 := hcl s2 (Or.inr (Or.inr rfl))
  have pre : ∀ j, (j = s0 ∨ j = s1 ∨ j = s2) → ∃ i, (i = s0 ∨ i = s1 ∨ i = s2) ∧ phi A sg i = j := by
    intro j hj
    by_cases e0 : phi A sg s0 = j
    · exact ⟨s0, Or.inl rfl, e0⟩
    · by_cases e1 : phi A sg s1 = j
      · exact ⟨s1, Or.inr (Or.inl rfl), e1⟩
      · refine ⟨s2, Or.inr (Or.inr rfl), ?_⟩
        omega
  intro i j hi hj
  obtain ⟨a, ha, ea⟩ := pre i hi
  obtain ⟨b, hb, eb⟩ := pre j hj
  have ti : tlv A i = mtf A (hdv A a) := by rw [← ea]; exact phi_tl hd (lt a ha)
  have tj : tlv A j = mtf A (hdv A b) := by rw [← eb]; exact phi_tl hd (lt b hb)
  have hai := hdv_lt (lt a ha)
  have hbj := hdv_lt (lt b hb)
  refine ⟨fun hij => ⟨fun e => cne i j hi hj hij (by rw [e]), fun e => ?_⟩, fun e => ?_⟩
  · rw [ti, tj] at e
    have hab : a ≠ b := fun e9 => hij (by rw [← ea, ← eb, e9])
    have := congrArg (crs A) e
    rw [crs_mtf hd hai, crs_mtf hd hbj] at this
    exact cne a b ha hb hab this
  · rw [tj] at e
    by_cases hib : i = b
    · rw [hib] at e
      exact mtf_ne hd hbj e.symm
    · have := congrArg (crs A) e
      rw [crs_mtf hd hbj] at this
      exact cne i b hi hb hib this
def ne2 (a b : Nat) : Prop := a ≠ b
def dj4 (a b c d : Nat) : Prop := a ≠ c ∧ a ≠ d ∧ b ≠ c ∧ b ≠ d
theorem tri_pairs {A : rn_L} {sg : Nat → Bool} {s0 s1 s2 : Nat} (hd : rn_ok A.flatten) (h : s0 < 2 * A.flatten.length ∧ s1 < 2 * A.flatten.length ∧ s2 < 2 * A.flatten.length) (hne : s0 ≠ s1 ∧ s0 ≠ s2 ∧ s1 ≠ s2) (hcl : ∀ s, (s = s0 ∨ s = s1 ∨ s = s2) → phi A sg s = s0 ∨ phi A sg s = s1 ∨ phi A sg s = s2) (c01 : crs A (hdv A s0) ≠ crs A (hdv A s1)) (c02 : crs A (hdv A s0) ≠ crs A (hdv A s2)) (c12 : crs A (hdv A s1) ≠ crs A (hdv A s2)) : ne2 (s0 / 2) (rn_nx A (s0 / 2)) ∧ ne2 (s1 / 2) (rn_nx A (s1 / 2)) ∧ ne2 (s2 / 2) (rn_nx A (s2 / 2)) ∧ dj4 (s0 / 2) (rn_nx A (s0 / 2)) (s1 / 2) (rn_nx A (s1 / 2)) ∧ dj4 (s1 / 2) (rn_nx A (s1 / 2)) (s2 / 2) (rn_nx A (s2 / 2)) ∧ dj4 (s2 / 2) (rn_nx A (s2 / 2)) (s0 / 2) (rn_nx A (s0 / 2)) := by
  have six := tri_six (sg := sg) hd h hne hcl c01 c02 c12
  have pr : ∀ s, (s / 2 = hdv A s ∧ rn_nx A (s / 2) = tlv A s ∨ s / 2 = tlv A s ∧ rn_nx A (s / 2) = hdv A s) := by
    intro s
    unfold hdv tlv
    by_cases c : s % 2 = 0
    · rw [if_pos c, if_pos c]; exact Or.inr ⟨rfl, rfl⟩
    · rw [if_neg c, if_neg c]; exact Or.inl ⟨rfl, rfl⟩
  have one : ∀ i, (i = s0 ∨ i = s1 ∨ i = s2) → ne2 (i / 2) (rn_nx A (i / 2)) := by
    intro i hi
    have a3 := (six i i hi hi).2
    unfold ne2
    rcases pr i with ⟨e1, e2⟩ | ⟨e1, e2⟩ <;> rw [e2, e1]
    · exact a3
    · exact fun e => a3 e.symm
  have two : ∀ i j, (i = s0 ∨ i = s1 ∨ i = s2) → (j = s0 ∨ j = s1 ∨ j = s2) → i ≠ j → dj4 (i / 2) (rn_nx A (i / 2)) (j / 2) (rn_nx A (j / 2)) := by
    intro i j hi hj hij
    obtain ⟨b1, b2⟩ := (six i j hi hj).1 hij
    have b3 := (six i j hi hj).2
    have b4 := (six j i hj hi).2
    unfold dj4
    rcases pr i with ⟨e1, e2⟩ | ⟨e1, e2⟩ <;> rcases pr j with ⟨e3, e4⟩ | ⟨e3, e4⟩ <;> rw [e2, e4, e1, e3]
    · exact ⟨b1, b3, fun e => b4 e.symm, b2⟩
    · exact ⟨b3, b1, b2, fun e => b4 e.symm⟩
    · exact ⟨fun e => b4 e.symm, b2, b1, b3⟩
    · exact ⟨b2, fun e => b4 e.symm, b3, b1⟩
  exact ⟨one s0 (Or.inl rfl), one s1 (Or.inr (Or.inl rfl)), one s2 (Or.inr (Or.inr rfl)), two s0 s1 (Or.inl rfl) (Or.inr (Or.inl rfl)) hne.1, two s1 s2 (Or.inr (Or.inl rfl)) (Or.inr (Or.inr rfl)) hne.2.2, two s2 s0 (Or.inr (Or.inr rfl)) (Or.inl rfl) (fun e => hne.2.1 e.symm)⟩
theorem sw2_ne {a b c d p : Nat} (h : dj4 a b c d) (hp : p = c ∨ p = d) : sw2 a b p = p := by
  obtain ⟨h1, h2, h3, h4⟩ := h
  unfold sw2
  rcases hp with hp | hp <;> subst hp
  · rw [if_neg (fun e => h1 e.symm), if_neg (fun e => h3 e.symm)]
  · rw [if_neg (fun e => h2 e.symm), if_neg (fun e => h4 e.symm)]
theorem dj4_sy {a b c d : Nat} (h : dj4 a b c d) : dj4 c d a b := ⟨fun e => h.1 e.symm, fun e => h.2.2.1 e.symm, fun e => h.2.1 e.symm, fun e => h.2.2.2 e.symm⟩
section MV4
variable {X : (Nat → Nat → Int32) → Prop} {bb m n : Nat} {z : ow_MS} {A : rn_L} {sg : Nat → Bool}
theorem u_X13_threeChange_7 {x2 : Int32} {x3 : Int32} {x4 : Int32} {x5 : Int32} {x6 : Int32} {r1 : Nat} {t0 : Int32} {t1 : Int32} {t2 : Int32} {z : ow_MS} {Q : ow_MS → Prop} (H : Tt (fun K k => qm_X13_threeChange_7 K (q_X13_threeChange K k) x2 x3 x4 x5 x6 r1 t0 t1 t2 z) Q) : Tt (fun K k => q_X13_threeChange K k 7 x2 x3 x4 x5 x6 r1 t0 t1 t2 z) Q := w_un (fun _ _ => rfl) H
/-- two visits change places -/
theorem tri_step {Q : ow_MS → Prop} {i s : Nat} {x2 x3 x4 : Int32} {G : Nat → Nat × Nat} {y1 y2 : ow_MS} (hn : mw_net n) (hn3 : n ≠ 3000) (hl : A.flatten.length ≤ 24) (hi : i < 3) (hs9 : s < 2 * A.flatten.length) (h33 : y2.2.1 33 i = nI (s / 2)) (hne2 : ne2 (s / 2) (rn_nx A (s / 2))) (hG1 : G (s / 2) = vAt A (s / 2)) (hG2 : G (rn_nx A (s / 2)) = vAt A (rn_nx A (s / 2))) (o1 : rn_lk y1 n A) (hfy : fr (fun g => 3004 ≤ g ∧ g ≤ 3005) y1 y2) (hGv : ∀ v, v < A.flatten.length → y2.2.1 3004 v = nI (G v).1 ∧ y2.2.1 3005 v = nI (G v).2) (hout : ∀ y3 : ow_MS, fr (fun g => 3004 ≤ g ∧ g ≤ 3005) y1 y3 → (∀ v, v < A.flatten.length → y3.2.1 3004 v = nI (G (sw2 (s / 2) (rn_nx A (s / 2)) v)).1 ∧ y3.2.1 3005 v = nI (G (sw2 (s / 2) (rn_nx A (s / 2)) v)).2) → Tt (fun K i9 => q_X13_threeChange K i9 7 x2 x3 x4 (nI (i + 1)) 0 n 0 0 0 y3) Q) : Tt (fun K i9 => q_X13_threeChange K i9 7 x2 x3 x4 (nI i) 0 n 0 0 0 y2) Q := by
  have hmn := net_mod hn
  have hsl : s / 2 < A.flatten.length := by omega
  have hnl := rn_nx_lt (A := A) hsl
  have o3 : rn_lk y2 n A := fr_lk hfy (fun g hg => by omega) o1
  obtain ⟨v, hv⟩ : ∃ v, v = s / 2 := ⟨_, rfl⟩
  obtain ⟨w, hw⟩ : ∃ w, w = rn_nx A (s / 2) := ⟨_, rfl⟩
  rw [← hw, ← hv] at hne2
  rw [← hw] at hnl hG2 hout
  rw [← hv] at hsl h33 hG1 hout
  have ew : rn_nx A v = w := by rw [hv, hw]
  have hvw : v ≠ w := hne2
  obtain ⟨a4, a5⟩ := lk_cu o3 hsl
  obtain ⟨b4, b5⟩ := lk_cu o3 hnl
  refine u_X13_threeChange_7 ?_; unfold qm_X13_threeChange_7
  rw [nI_1]
  refine w_leF (a := 3) (by omega) (by omega) (w_rdI ml33 rfl (by omega) h33 (w_rdI (pl9 hn) rfl (by omega) ((lk_n o3 hsl).trans (by rw [ew])) (w_rdI (pl4 hn) rfl (by omega) b4 (w_wrI (pl4 pn3) rfl (by omega) (w_rdI (pl5 hn) rfl (by omega) (rd_ot (by omega) b5) (w_wrI (pl5 pn3) rfl (by omega) (w_rdI (pl4 hn) rfl (by omega) (rd_ot (by omega) (rd_ot (by omega) a4)) (w_wrI (pl4 pn3) rfl (by omega) (w_rdI (pl5 hn) rfl (by omega) (rd_ot (by omega) (rd_ot (by omega) (rd_ot (by omega) a5))) (w_wrI (pl5 pn3) rfl (by omega) (hout _ (fr_I2 (fr_I2 (fr_I2 (fr_I2 hfy (by omega)) (by omega)) (by omega)) (by omega)) (fun p hp => ?_))))))))))))
  show (usI (usI (usI (usI y2 3004 v (nI (crs A w))) 3005 v (nI (uns A w))) 3004 w (nI (crs A v))) 3005 w (nI (uns A v))).2.1 3004 p = _ ∧ (usI (usI (usI (usI y2 3004 v (nI (crs A w))) 3005 v (nI (uns A w))) 3004 w (nI (crs A v))) 3005 w (nI (uns A v))).2.1 3005 p = _
  unfold sw2
  by_cases c1 : p = v
  · rw [if_pos c1, hG2, c1]
    exact ⟨rd_ot (by decide) (rd_ne hvw (rd_ot (by decide) po_usI_at)), rd_ne hvw (rd_ot (by decide) po_usI_at)⟩
  · rw [if_neg c1]
    by_cases c2 : p = w
    · rw [if_pos c2, hG1, c2]
      exact ⟨rd_ot (by decide) po_usI_at, po_usI_at⟩
    · rw [if_neg c2]
      exact ⟨rd_ot (by decide) (rd_ne c2 (rd_ot (by decide) (rd_ne c1 (hGv p hp).1))), rd_ne c2 (rd_ot (by decide) (rd_ne c1 (rd_ot (by decide) (hGv p hp).2)))⟩
theorem e_X13_threeChange {r1 : Nat} {z : ow_MS} {Q : ow_MS → Prop} (H : Tt (fun K k => q_X13_threeChange K k 0 0 0 0 0 0 r1 0 0 0 z) Q) : Te (fun K => qe_X13_threeChange K r1 z) Q := w_te H
theorem u_X13_threeChange_0 {x2 : Int32} {x3 : Int32} {x4 : Int32} {x5 : Int32} {x6 : Int32} {r1 : Nat} {t0 : Int32} {t1 : Int32} {t2 : Int32} {z : ow_MS} {Q : ow_MS → Prop} (H : Tt (fun K k => qm_X13_threeChange_0 K (q_X13_threeChange K k) x2 x3 x4 x5 x6 r1 t0 t1 t2 z) Q) : Tt (fun K k => q_X13_threeChange K k 0 x2 x3 x4 x5 x6 r1 t0 t1 t2 z) Q := w_un (fun _ _ => rfl) H
theorem u_X13_threeChange_1 {x2 : Int32} {x3 : Int32} {x4 : Int32} {x5 : Int32} {x6 : Int32} {r1 : Nat} {t0 : Int32} {t1 : Int32} {t2 : Int32} {z : ow_MS} {Q : ow_MS → Prop} (H : Tt (fun K k => qm_X13_threeChange_1 K (q_X13_threeChange K k) x2 x3 x4 x5 x6 r1 t0 t1 t2 z) Q) : Tt (fun K k => q_X13_threeChange K k 1 x2 x3 x4 x5 x6 r1 t0 t1 t2 z) Q := w_un (fun _ _ => rfl) H
theorem u_X13_threeChange_8 {x2 : Int32} {x3 : Int32} {x4 : Int32} {x5 : Int32} {x6 : Int32} {r1 : Nat} {t0 : Int32} {t1 : Int32} {t2 : Int32} {z : ow_MS} {Q : ow_MS → Prop} (H : Tt (fun K k => qm_X13_threeChange_8 K (q_X13_threeChange K k) x2 x3 x4 x5 x6 r1 t0 t1 t2 z) Q) : Tt (fun K k => q_X13_threeChange K k 8 x2 x3 x4 x5 x6 r1 t0 t1 t2 z) Q := w_un (fun _ _ => rfl) H
theorem u_X13_threeChange_2 {x2 : Int32} {x3 : Int32} {x4 : Int32} {x5 : Int32} {x6 : Int32} {r1 : Nat} {t0 : Int32} {t1 : Int32} {t2 : Int32} {z : ow_MS} {Q : ow_MS → Prop} (H : Tt (fun K k => qm_X13_threeChange_2 K (q_X13_threeChange K k) x2 x3 x4 x5 x6 r1 t0 t1 t2 z) Q) : Tt (fun K k => q_X13_threeChange K k 2 x2 x3 x4 x5 x6 r1 t0 t1 t2 z) Q := w_un (fun _ _ => rfl) H
theorem u_X13_threeChange_6 {x2 : Int32} {x3 : Int32} {x4 : Int32} {x5 : Int32} {x6 : Int32} {r1 : Nat} {t0 : Int32} {t1 : Int32} {t2 : Int32} {z : ow_MS} {Q : ow_MS → Prop} (H : Tt (fun K k => qm_X13_threeChange_6 K (q_X13_threeChange K k) x2 x3 x4 x5 x6 r1 t0 t1 t2 z) Q) : Tt (fun K k => q_X13_threeChange K k 6 x2 x3 x4 x5 x6 r1 t0 t1 t2 z) Q := w_un (fun _ _ => rfl) H
theorem u_X13_threeChange_5 {x2 : Int32} {x3 : Int32} {x4 : Int32} {x5 : Int32} {x6 : Int32} {r1 : Nat} {t0 : Int32} {t1 : Int32} {t2 : Int32} {z : ow_MS} {Q : ow_MS → Prop} (H : Tt (fun K k => qm_X13_threeChange_5 K (q_X13_threeChange K k) x2 x3 x4 x5 x6 r1 t0 t1 t2 z) Q) : Tt (fun K k => q_X13_threeChange K k 5 x2 x3 x4 x5 x6 r1 t0 t1 t2 z) Q := w_un (fun _ _ => rfl) H
theorem u_X13_threeChange_4 {x2 : Int32} {x3 : Int32} {x4 : Int32} {x5 : Int32} {x6 : Int32} {r1 : Nat} {t0 : Int32} {t1 : Int32} {t2 : Int32} {z : ow_MS} {Q : ow_MS → Prop} (H : Tt (fun K k => qm_X13_threeChange_4 K (q_X13_threeChange K k) x2 x3 x4 x5 x6 r1 t0 t1 t2 z) Q) : Tt (fun K k => q_X13_threeChange K k 4 x2 x3 x4 x5 x6 r1 t0 t1 t2 z) Q := w_un (fun _ _ => rfl) H
theorem u_X13_threeChange_3 {x2 : Int32} {x3 : Int32} {x4 : Int32} {x5 : Int32} {x6 : Int32} {r1 : Nat} {t0 : Int32} {t1 : Int32} {t2 : Int32} {z : ow_MS} {Q : ow_MS → Prop} (H : Tt (fun K k => qm_X13_threeChange_3 K (q_X13_threeChange K k) x2 x3 x4 x5 x6 r1 t0 t1 t2 z) Q) : Tt (fun K k => q_X13_threeChange K k 3 x2 x3 x4 x5 x6 r1 t0 t1 t2 z) Q := w_un (fun _ _ => rfl) H
theorem tp_three (hn : mw_net n) (hn3 : n ≠ 3000) (hO : oNet z n A sg) (h : oF X bb m 0 z) : Te (fun K => qe_X13_threeChange K n z) (fun z1 => (∃ L2, L2 ≤ 2700 ∧ oF X bb m L2 z1) ∧ fr (fun g => g < 1000 ∧ g ≠ 12 ∧ g ≠ 28 ∨ 3001 ≤ g ∧ g ≤ 3016 ∨ n + 12 ≤ g ∧ g ≤ n + 16) z z1) := by
  have hmn := net_mod hn
  have hl := hO.len
  have hC := hO.2.2.2
  have hd := wkF_ok hO.wk
  refine e_X13_threeChange ?_
  refine u_X13_threeChange_0 ?_; unfold qm_X13_threeChange_0
  refine w_cs0 (tn_walk2 hn (by omega) hd hO.1 hO.2.1) (fun z0 ⟨f0, F, fc, w2⟩ => ?_)
  have f0' : fr (fun g => g < 1000 ∧ g ≠ 12 ∧ g ≠ 28 ∨ 3001 ≤ g ∧ g ≤ 3016 ∨ n + 12 ≤ g ∧ g ≤ n + 16) z z0 := fr_mono (fun g hg => by rcases hg with hg | hg | hg <;> omega) f0
  have hO0 : oNet z0 n A sg := oNet_fr f0 (fun g hg => by rcases hg with hg | hg | hg <;> omega) hO
  have h0 : oF X bb m 0 z0 := oF_3 f0 (fun g hg => by rcases hg with hg | hg | hg <;> omega) h
  obtain ⟨F16, F2, Fm, Fs⟩ := fc
  obtain ⟨M, hM⟩ : ∃ M, M = z0.2.1 (n + 14) := ⟨_, rfl⟩
  rw [← hM] at w2 Fm Fs
  let Q : ow_MS → Prop := fun z1 => (∃ L2, L2 ≤ 2700 ∧ oF X bb m L2 z1) ∧ fr (fun g => g < 1000 ∧ g ≠ 12 ∧ g ≠ 28 ∨ 3001 ≤ g ∧ g ≤ 3016 ∨ n + 12 ≤ g ∧ g ≤ n + 16) z z1
  have oY : ∀ {y : ow_MS}, fr frC z0 y → oNet y n A sg := fun hf => oNet_C hn hn3 hf hO0
  have Q2 : ∀ {y : ow_MS}, fr frC z0 y → fr (fun g => g < 1000 ∧ g ≠ 12 ∧ g ≠ 28 ∨ 3001 ≤ g ∧ g ≤ 3016 ∨ n + 12 ≤ g ∧ g ≤ n + 16) z y := fun hf => fr_tr f0' (fr_mono (fun g hg => by unfold frC at hg; omega) hf)
  have out : ∀ (k f : Nat) (y : ow_MS), f + k = F → fr frC z0 y → (∃ L2, L2 ≤ f ∧ oF X bb m L2 y) → Tt (fun K i => q_X13_threeChange K i 1 (nI f) 0 0 0 0 n 0 0 0 y) Q := by
    intro k
    induction k with
    | zero =>
      intro f y hf9 hf ⟨L2, hL2, ho⟩
      refine u_X13_threeChange_1 ?_; unfold qm_X13_threeChange_1
      exact w_rdF (x := nI F) (by rw [(hf (n + 16) (by unfold frC; omega)).1]; exact F16) (w_leT (by omega) (by omega) (w_some ⟨⟨L2, by omega, ho⟩, Q2 hf⟩))
    | succ k ih =>
      intro f y hf9 hf hLo
      have c8 : ∀ (y2 : ow_MS), fr frC z0 y2 → (∃ L2, L2 ≤ f + 1 ∧ oF X bb m L2 y2) → Tt (fun K i => q_X13_threeChange K i 8 (nI f) 0 0 0 0 n 0 0 0 y2) Q := by
        intro y2 hf2 ho2
        refine u_X13_threeChange_8 ?_; unfold qm_X13_threeChange_8
        rw [nI_1]
        exact ih (f + 1) y2 (by omega) hf2 ho2
      have e15 : y.2.1 (n + 15) f = nI (cE M (nI f) (2 * A.flatten.length)) := by
        rw [(hf (n + 15) (by unfold frC; omega)).2.1]
        exact Fs f (by omega)
      have hce := cE_le (M := M) (x := nI f) (2 * A.flatten.length)
      obtain ⟨L2, hL2, ho⟩ := hLo
      refine u_X13_threeChange_1 ?_; unfold qm_X13_threeChange_1
      refine w_rdF (x := nI F) (by rw [(hf (n + 16) (by unfold frC; omega)).1]; exact F16) (w_leF (by omega) (by omega) (w_rdI (pl15 hn) rfl (by omega) e15 (w_eqN (b := 3) (by omega) (by omega) (fun h3 => ?_) (fun h3 => c8 y hf ⟨L2, by omega, ho⟩))))
      have hlen3 : (fl M f (2 * A.flatten.length)).length = 3 := by rw [fl_len]; exact h3
      -- the three sides are collected
      have col : ∀ (k s : Nat) (x4 : Int32) (y : ow_MS), s + k = 2 * A.flatten.length → fr frC z0 y → oF X bb m L2 y → (∀ i t, (fl M f s)[i]? = some t → y.2.1 33 i = nI (t / 2) ∧ y.2.1 34 i = nI (crs A (hdv A t))) → Tt (fun K i => q_X13_threeChange K i 2 (nI f) (nI (fl M f s).length) x4 (nI s) 0 n 0 0 0 y) Q := by
        intro k
        induction k with
        | zero =>
          intro s x4 y hs hf ho hcol
          have o2 := oY hf
          have hse : s = 2 * A.flatten.length := by omega
          rw [hse] at hcol ⊢
          -- the three of them
          obtain ⟨s0, s1, s2, hfl⟩ : ∃ s0 s1 s2, fl M f (2 * A.flatten.length) = [s0, s1, s2] := by
            match hfl : fl M f (2 * A.flatten.length), hlen3 with
            | [a, b, c], _ => exact ⟨a, b, c, rfl⟩
          have nd : (fl M f (2 * A.flatten.length)).Nodup := nodup_filter List.nodup_range
          have memf : ∀ t, t ∈ fl M f (2 * A.flatten.length) ↔ t < 2 * A.flatten.length ∧ M t = nI f := fun t => by
            unfold fl
            rw [List.mem_filter, List.mem_range, decide_eq_true_iff]
          rw [hfl] at hcol nd memf
          have g0 := hcol 0 s0 rfl
          have g1 := hcol 1 s1 rfl
          have g2 := hcol 2 s2 rfl
          have m0 := (memf s0).mp (by simp)
          have m1 := (memf s1).mp (by simp)
          have m2 := (memf s2).mp (by simp)
          have hnd : s0 ≠ s1 ∧ s0 ≠ s2 ∧ s1 ≠ s2 := by
            simp only [List.nodup_cons, List.mem_cons, List.not_mem_nil, or_false, not_or] at nd
            exact ⟨nd.1.1, nd.1.2, nd.2.1⟩
          have x0 := (o2.cx (hdv_lt m0.1)).1
          have x1 := (o2.cx (hdv_lt m1.1)).1
          have x2 := (o2.cx (hdv_lt m2.1)).1
          have c8' := c8 y hf ⟨L2, by omega, ho⟩
          refine u_X13_threeChange_2 ?_; unfold qm_X13_threeChange_2
          refine w_rdF o2.1.V ?_
          rw [rn_mul2]
          refine w_leT (by omega) (by omega) (w_if (fun _ => c8') (fun _ => w_rdI ml34 nI_0.symm (by omega) g0.2 (w_rdI ml34 (show (1 : Int32) = nI 1 from rfl) (by omega) g1.2 (w_eqN (by omega) (by omega) (fun _ => c8') (fun c01 => w_rdI ml34 nI_0.symm (by omega) g0.2 (w_rdI ml34 (show (2 : Int32) = nI 2 from rfl) (by omega) g2.2 (w_eqN (by omega) (by omega) (fun _ => c8') (fun c02 => w_rdI ml34 (show (1 : Int32) = nI 1 from rfl) (by omega) g1.2 (w_rdI ml34 (show (2 : Int32) = nI 2 from rfl) (by omega) g2.2 (w_eqN (by omega) (by omega) (fun _ => c8') (fun c12 => w_cs0 (tn_copy pn3 hn (fun e => hn3 e.symm) (by omega) (by omega) o2.1.1) (fun y1 hy1 => ?_)))))))))))) 
          obtain ⟨q1, q2, q3⟩ := hy1
          have tp9 := tri_pairs (sg := sg) hd ⟨m0.1, m1.1, m2.1⟩ hnd (fun s hs9 => by
            have hms : s < 2 * A.flatten.length ∧ M s = nI f := by
              rcases hs9 with e | e | e <;> rw [e] <;> assumption
            have hp := (w2 f (by omega) s hms.1).mp hms.2
            have := (memf (phi A sg s)).mpr ⟨phi_lt hd hms.1, hp⟩
            simpa using this) c01 c02 c12
          clear c01 c02 c12 hnd nd memf
          obtain ⟨d0, d1, d2, e01, e12, e20⟩ := tp9
          have n0 := rn_nx_lt (A := A) (v := s0 / 2) (by omega)
          have n1 := rn_nx_lt (A := A) (v := s1 / 2) (by omega)
          have n2 := rn_nx_lt (A := A) (v := s2 / 2) (by omega)
          obtain ⟨sw1, sw2'⟩ := sw_three (v0 := s0 / 2) (w0 := rn_nx A (s0 / 2)) (v1 := s1 / 2) (w1 := rn_nx A (s1 / 2)) (v2 := s2 / 2) (w2 := rn_nx A (s2 / 2)) (V := A.flatten.length) ⟨by omega, n0, by omega, n1, by omega, n2⟩ e01 e12 e20
          have fr1 : fr frC z0 y1 := fr_tr hf (fr_mono (fun g hg => Or.inr (by omega)) q2)
          have o1 : rn_lk y1 n A := (oY fr1).1
          have gv : ∀ v, v < A.flatten.length → y1.2.1 3004 v = nI (vAt A v).1 ∧ y1.2.1 3005 v = nI (vAt A v).2 := fun v hv => q1.2.2.2 v _ (by rw [List.append_nil]; exact vAt_of hv)
          have e33 : ∀ {y2 : ow_MS}, fr (fun g => 3004 ≤ g ∧ g ≤ 3005) y1 y2 → y2.2.1 33 = y.2.1 33 := fun hfy => by rw [(hfy 33 (by omega)).2.1, (q2 33 (by omega)).2.1]
          rw [hfl]
          show Tt (fun K i9 => q_X13_threeChange K i9 7 (nI f) (nI 3) x4 (nI 0) 0 n 0 0 0 y1) Q
          refine tri_step (i := 0) (s := s0) (G := fun v => vAt A v) hn hn3 hl (by omega) m0.1 (by rw [e33 fr_rf]; exact g0.1) d0 rfl rfl o1 fr_rf gv (fun y2 fy2 hy2 => ?_)
          refine tri_step (i := 1) (s := s1) (G := fun v => vAt A (sw2 (s0 / 2) (rn_nx A (s0 / 2)) v)) hn hn3 hl (by omega) m1.1 (by rw [e33 fy2]; exact g1.1) d1 ?_ ?_ o1 fy2 hy2 (fun y3 fy3 hy3 => ?_)
          · show vAt A (sw2 _ _ _) = _
            rw [sw2_ne e01 (Or.inl rfl)]
          · show vAt A (sw2 _ _ _) = _
            rw [sw2_ne e01 (Or.inr rfl)]
          · refine tri_step (i := 2) (s := s2) (G := fun v => vAt A (sw2 (s0 / 2) (rn_nx A (s0 / 2)) (sw2 (s1 / 2) (rn_nx A (s1 / 2)) v))) hn hn3 hl (by omega) m2.1 (by rw [e33 fy3]; exact g2.1) d2 ?_ ?_ o1 fy3 hy3 (fun y4 fy4 hy4 => ?_)
            · show vAt A (sw2 _ _ (sw2 _ _ _)) = _
              rw [sw2_ne e12 (Or.inl rfl), sw2_ne (dj4_sy e20) (Or.inl rfl)]
            · show vAt A (sw2 _ _ (sw2 _ _ _)) = _
              rw [sw2_ne e12 (Or.inr rfl), sw2_ne (dj4_sy e20) (Or.inr rfl)]
            · have fr4 : fr frC z0 y4 := fr_tr fr1 (fr_mono (fun g hg => Or.inr (by omega)) fy4)
              have hA4 : rn_At y4 3000 (rsh A (fun v => vAt A (sw2 (s0 / 2) (rn_nx A (s0 / 2)) (sw2 (s1 / 2) (rn_nx A (s1 / 2)) (sw2 (s2 / 2) (rn_nx A (s2 / 2)) v)))) A.length) [] := At_rsh q1 (fy4 3001 (by omega)).1 (fy4 3002 (by omega)).1 (fy4 3003 (by omega)).2.1 hy4
              have hlF : (rsh A (fun v => vAt A (sw2 (s0 / 2) (rn_nx A (s0 / 2)) (sw2 (s1 / 2) (rn_nx A (s1 / 2)) (sw2 (s2 / 2) (rn_nx A (s2 / 2)) v)))) A.length).flatten = (List.range A.flatten.length).map (fun v => vAt A (sw2 (s0 / 2) (rn_nx A (s0 / 2)) (sw2 (s1 / 2) (rn_nx A (s1 / 2)) (sw2 (s2 / 2) (rn_nx A (s2 / 2)) v)))) := by
                rw [rsh_fl _ (Nat.le_refl _), rn_b_len]
              have hN : mNet y4 3000 := by
                refine ⟨_, sg, hA4, fun p hp => ?_, wkF_sw hO.wk sw1 sw2', ?_, ?_⟩
                · rw [hlF] at hp
                  obtain ⟨v, hv, e⟩ := List.mem_map.mp hp
                  have hvl := sw1 v (List.mem_range.mp hv)
                  rw [← e]
                  obtain ⟨k1, k2, k3⟩ := o2.cx hvl
                  show y4.2.1 3006 (crs A _) = _
                  rw [(fy4 3006 (by omega)).2.1, show y1.2.1 3006 (crs A _) = y.2.1 (n + 6) (crs A _) from q3 _ (by omega)]
                  exact k3
                · rw [hlF, List.length_map, List.length_range]
                  exact hl
                · unfold rsh
                  rw [List.length_map, List.length_range]
                  exact hC
              have ho4 : oF X bb m L2 y4 := oF_3 fy4 (fun g hg => by omega) (oF_3 q2 (fun g hg => by omega) ho)
              refine u_X13_threeChange_7 ?_; unfold qm_X13_threeChange_7
              refine w_leT (a := 3) (by omega) (by omega) (w_cs0 (tm_offer (by omega) ho4 hN) (fun y5 ⟨k1, k2⟩ => c8 y5 (fr_tr fr4 (fr_mono (fun g hg => by unfold frO at hg; unfold frC; omega) k2)) ⟨L2 + 1, by omega, k1⟩))
        | succ k ihc =>
          intro s x4 y hs hf ho hcol
          have o2 := oY hf
          have hsl : s < 2 * A.flatten.length := by omega
          have e14 : y.2.1 (n + 14) s = M s := by rw [(hf (n + 14) (by unfold frC; omega)).2.1, hM]
          have hhl := hdv_lt hsl
          have hnl := rn_nx_lt (A := A) (v := s / 2) (by omega)
          have c6 : ∀ (y2 : ow_MS) (x9 : Int32), fr frC z0 y2 → oF X bb m L2 y2 → (∀ i t, (fl M f (s + 1))[i]? = some t → y2.2.1 33 i = nI (t / 2) ∧ y2.2.1 34 i = nI (crs A (hdv A t))) → Tt (fun K i => q_X13_threeChange K i 6 (nI f) (nI (fl M f (s + 1)).length) x9 (nI s) 0 n 0 0 0 y2) Q := by
            intro y2 x9 hf2 ho2 hcol2
            refine u_X13_threeChange_6 ?_; unfold qm_X13_threeChange_6
            rw [nI_1]
            exact ihc (s + 1) x9 y2 (by omega) hf2 ho2 hcol2
          refine u_X13_threeChange_2 ?_; unfold qm_X13_threeChange_2
          refine w_rdF o2.1.V ?_
          rw [rn_mul2]
          refine w_leF (by omega) (by omega) (w_rdI (pl14 hn) rfl (by omega) e14 (w_if (fun hMs => ?_) (fun hMs => ?_)))
          · have hfs : fl M f (s + 1) = fl M f s ++ [s] := by rw [fl_s, if_pos hMs]
            have hk3 : (fl M f s).length < 3 := by
              have h9 := cE_mono (M := M) (x := nI f) (a := s + 1) (b := 2 * A.flatten.length) (by omega)
              rw [← fl_len, ← fl_len, hfs, List.length_append] at h9
              have : (fl M f s).length + 1 ≤ (fl M f (2 * A.flatten.length)).length := h9
              omega
            rw [rn_shr1 (by omega)]
            refine w_wrI ml33 rfl hk3 ?_
            have f33 : fr (fun g => g = 33) y (usI y 33 (fl M f s).length (nI (s / 2))) := fr_I rfl
            have o3 := oNet_fr f33 (fun g hg => by omega) o2
            have c3 : Tt (fun K i => q_X13_threeChange K i 3 (nI f) (nI (fl M f s).length) x4 (nI s) (nI (s / 2)) n (nI (hdv A s)) 0 (nI (fl M f s).length) (usI y 33 (fl M f s).length (nI (s / 2)))) Q := by
              have f34 : fr (fun g => g = 33 ∨ g = 34) y (usI (usI y 33 (fl M f s).length (nI (s / 2))) 34 (fl M f s).length (nI (crs A (hdv A s)))) := fr_I2 (fr_I (Or.inl rfl)) (Or.inr rfl)
              have o4 := oNet_fr f34 (fun g hg => by omega) o2
              have c5 : ∀ (t0 t1 : Int32), Tt (fun K i => q_X13_threeChange K i 5 (nI f) (nI (fl M f s).length) x4 (nI s) (nI (s / 2)) n t0 t1 0 (usI (usI y 33 (fl M f s).length (nI (s / 2))) 34 (fl M f s).length (nI (crs A (hdv A s))))) Q := by
                intro t0 t1
                have := c6 (usI (usI y 33 (fl M f s).length (nI (s / 2))) 34 (fl M f s).length (nI (crs A (hdv A s)))) (t1 ||| t0) (fr_tr hf (fr_mono (fun g hg => Or.inl (by omega)) f34)) (oF_fr f34 (fun g hg => by unfold per; omega) ho) (by
                  rw [hfs]
                  intro i t hi
                  by_cases hil : i < (fl M f s).length
                  · rw [List.getElem?_append_left hil] at hi
                    obtain ⟨k1, k2⟩ := hcol i t hi
                    exact ⟨rd_ot (by decide) (rd_ne (by omega) k1), rd_ne (by omega) (rd_ot (by decide) k2)⟩
                  · have hie : i = (fl M f s).length := by
                      have := (List.getElem?_eq_some_iff.mp hi).1
                      rw [List.length_append] at this
                      have : i < (fl M f s).length + 1 := this
                      omega
                    subst hie
                    rw [List.getElem?_append_right (Nat.le_refl _), Nat.sub_self] at hi
                    cases hi
                    exact ⟨rd_ot (by decide) po_usI_at, po_usI_at⟩)
                rw [hfs, List.length_append] at this
                refine u_X13_threeChange_5 ?_; unfold qm_X13_threeChange_5
                rw [nI_1]
                exact this
              have c4 : ∀ t0 : Int32, Tt (fun K i => q_X13_threeChange K i 4 (nI f) (nI (fl M f s).length) x4 (nI s) (nI (s / 2)) n t0 0 0 (usI (usI y 33 (fl M f s).length (nI (s / 2))) 34 (fl M f s).length (nI (crs A (hdv A s))))) Q := by
                intro t0
                refine u_X13_threeChange_4 ?_; unfold qm_X13_threeChange_4
                exact c5 _ _
              refine u_X13_threeChange_3 ?_; unfold qm_X13_threeChange_3
              exact w_rdI (pl4 hn) rfl (by omega) (lk_cu o3.1 hhl).1 (w_wrI ml34 rfl hk3 (w_rdI (pl5 hn) rfl (by omega) rfl (w_if (fun _ => w_rdI (pl9 hn) rfl (by omega) (lk_n o4.1 (by omega)) (w_rdI (pl5 hn) rfl (by omega) rfl (w_if (fun _ => c5 _ _) (fun _ => c4 _)))) (fun _ => c4 _))))
            rw [rn_and1 (by omega)]
            refine w_eqN (b := 0) (by omega) (by omega) (fun h9 => w_rdI (pl9 hn) rfl (by omega) (lk_n o3.1 (by omega)) ?_) (fun h9 => ?_)
            · unfold hdv at c3
              rw [if_pos h9] at c3
              exact c3
            · unfold hdv at c3
              rw [if_neg h9] at c3
              exact c3
          · have hfs : fl M f (s + 1) = fl M f s := by rw [fl_s, if_neg hMs, List.append_nil]
            have := c6 y x4 hf ho (by rw [hfs]; exact hcol)
            rw [hfs] at this
            exact this
      exact col _ 0 0 y (Nat.zero_add _) hf ho (fun i t hi => by simp [fl] at hi)
  exact out F 0 z0 (by omega) fr_rf ⟨0, Nat.le_refl _, h0⟩
end MV4
end
section
/-! 99zzx.try -/
/-! tryMoves, moves, moved, simplify, way -/
section MV5
variable {X : (Nat → Nat → Int32) → Prop} {bb m n : Nat} {z : ow_MS} {A : rn_L} {sg : Nat → Bool}
abbrev frT (n g : Nat) : Prop := g < 1000 ∧ g ≠ 12 ∧ g ≠ 28 ∨ 3001 ≤ g ∧ g ≤ 3016 ∨ n + 12 ≤ g ∧ g ≤ n + 16
theorem u_X13_tryMoves_1 {x2 : Int32} {x3 : Int32} {r1 : Nat} {z : ow_MS} {Q : ow_MS → Prop} (H : Tt (fun K k => qm_X13_tryMoves_1 K (q_X13_tryMoves K k) x2 x3 r1 z) Q) : Tt (fun K k => q_X13_tryMoves K k 1 x2 x3 r1 z) Q := w_un (fun _ _ => rfl) H
theorem u_X13_tryMoves_2 {x2 : Int32} {x3 : Int32} {r1 : Nat} {z : ow_MS} {Q : ow_MS → Prop} (H : Tt (fun K k => qm_X13_tryMoves_2 K (q_X13_tryMoves K k) x2 x3 r1 z) Q) : Tt (fun K k => q_X13_tryMoves K k 2 x2 x3 r1 z) Q := w_un (fun _ _ => rfl) H
theorem e_X13_tryMoves {r1 : Nat} {x2 : Int32} {z : ow_MS} {Q : ow_MS → Prop} (H : Tt (fun K k => q_X13_tryMoves K k 0 x2 0 r1 z) Q) : Te (fun K => qe_X13_tryMoves K r1 x2 z) Q := w_te H
theorem u_X13_tryMoves_0 {x2 : Int32} {x3 : Int32} {r1 : Nat} {z : ow_MS} {Q : ow_MS → Prop} (H : Tt (fun K k => qm_X13_tryMoves_0 K (q_X13_tryMoves K k) x2 x3 r1 z) Q) : Tt (fun K k => q_X13_tryMoves K k 0 x2 x3 r1 z) Q := w_un (fun _ _ => rfl) H
theorem tp_try {kind : Int32} (hn : mw_net n) (hn3 : n ≠ 3000) (hO : oNet z n A sg) (h : oF X bb m 0 z) : Te (fun K => qe_X13_tryMoves K n kind z) (fun z1 => (∃ L2, L2 ≤ 2700 ∧ oF X bb m L2 z1) ∧ fr (frT n) z z1) := by
  have hmn := net_mod hn
  have hl := hO.len
  have hd := wkF_ok hO.wk
  have hC := hO.2.2.2
  obtain ⟨c, hok, hc12⟩ := hO.2.2.1
  have hVc := okF_len hok
  have frc : ∀ {y : ow_MS}, fr frC z y → fr (frT n) z y := fun hf => fr_mono (fun g hg => by unfold frC at hg; unfold frT; omega) hf
  have l1 : ∀ (k v : Nat) (y : ow_MS), v + k = A.flatten.length → fr frC z y → (∃ L2, L2 ≤ v ∧ oF X bb m L2 y) → Tt (fun K i => q_X13_tryMoves K i 1 kind (nI v) n y) (fun z1 => (∃ L2, L2 ≤ 2700 ∧ oF X bb m L2 z1) ∧ fr (frT n) z z1) := by
    intro k
    induction k with
    | zero =>
      intro v y hv hf ⟨L2, hL2, ho⟩
      have o2 := oNet_C hn hn3 hf hO
      refine u_X13_tryMoves_1 ?_; unfold qm_X13_tryMoves_1
      exact w_rdF o2.1.V (w_leT (by omega) (by omega) (w_some ⟨⟨L2, by omega, ho⟩, frc hf⟩))
    | succ k ih =>
      intro v y hv hf ⟨L2, hL2, ho⟩
      have o2 := oNet_C hn hn3 hf hO
      have hvl : v < A.flatten.length := by omega
      have x1 := (o2.cx hvl).1
      have c2 : ∀ (y2 : ow_MS), fr frC z y2 → (∃ L3, L3 ≤ v + 1 ∧ oF X bb m L3 y2) → Tt (fun K i => q_X13_tryMoves K i 2 kind (nI v) n y2) (fun z1 => (∃ L2, L2 ≤ 2700 ∧ oF X bb m L2 z1) ∧ fr (frT n) z z1) := by
        intro y2 hf2 ho2
        refine u_X13_tryMoves_2 ?_; unfold qm_X13_tryMoves_2
        rw [nI_1]
        exact ih (v + 1) y2 (by omega) hf2 ho2
      refine u_X13_tryMoves_1 ?_; unfold qm_X13_tryMoves_1
      exact w_rdF o2.1.V (w_leF (by omega) hvl (w_rdI (pl9 hn) rfl (by omega) rfl (w_rdI (pl7 hn) rfl (by omega) rfl (w_if (fun _ => w_rdI (pl4 hn) rfl (by omega) (lk_cu o2.1 hvl).1 (w_rdI (pl4 hn) rfl (by omega) (lk_cu o2.1 hvl).1 (w_cs0 (tp_without hn hn3 (by omega) (by omega) (by omega) o2 ho) (fun y2 ⟨k1, k2⟩ => c2 y2 (fr_tr hf (fr_mono (fun g hg => by unfold frB at hg; unfold frC; omega) k2)) ⟨L2 + 1, by omega, k1⟩)))) (fun _ => c2 y hf ⟨L2, by omega, ho⟩)))))
  have dv : nI A.flatten.length / 2 = nI c := by
    rw [show nI A.flatten.length / 2 = nI (A.flatten.length / 2) from pk_div (d := 2) (by omega) (by omega) (by omega)]
    congr 1
    omega
  refine e_X13_tryMoves ?_
  refine u_X13_tryMoves_0 ?_; unfold qm_X13_tryMoves_0
  refine w_if (fun _ => w_cs0 (tp_three hn hn3 hO h) (fun y ⟨k1, k2⟩ => w_some ⟨k1, k2⟩)) (fun hk => w_if (fun _ => l1 _ 0 z (Nat.zero_add _) fr_rf ⟨0, Nat.le_refl _, h⟩) (fun k0 => w_if (fun _ => w_rdF hO.1.V (w_nzI (by decide) ?_)) (fun k1 => w_if (fun _ => w_cs0 (tp_twoGo hn hn3 hO h) (fun y ⟨q1, q2⟩ => w_some ⟨q1, frc q2⟩)) (fun k2 => w_if (fun _ => w_rdF hO.1.V (w_nzI (by decide) ?_)) (fun k3 => ?_)))))
  · rw [dv, nI_1]
    exact w_lt (a := 12) (by omega) (by omega) (fun _ => w_some ⟨⟨0, by omega, h⟩, fr_rf⟩) (fun h9 => w_cs0 (tp_oneComes (L := 0) hn hn3 (by omega) (by omega) hO h) (fun y ⟨⟨L2, q0, q1⟩, q2⟩ => w_some ⟨⟨L2, by omega, q1⟩, fr_mono (fun g hg => by unfold frB at hg; unfold frT; omega) q2⟩))
  · rw [dv, show nI c + 2 = nI (c + 2) from nI_add c 2]
    exact w_lt (a := 12) (by omega) (by omega) (fun _ => w_some ⟨⟨0, by omega, h⟩, fr_rf⟩) (fun h9 => w_cs0 (tp_twoCome hn hn3 (by omega) hO h) (fun y ⟨q1, q2⟩ => w_some ⟨q1, frc q2⟩))
  · exfalso
    have key : ∀ k : Nat, k < 4 → kind.toInt = (k : Int) → kind = nI k := by
      intro k hk e9
      refine Int32.toInt_inj.mp ?_
      rw [e9, nI_toInt (by omega)]
    have hge : 0 ≤ kind.toInt := by omega
    obtain ⟨k, hk9⟩ := Int.eq_ofNat_of_zero_le hge
    have hk4 : k < 4 := by omega
    have hwk := key k hk4 hk9
    have : k = 0 ∨ k = 1 ∨ k = 2 ∨ k = 3 := by omega
    rcases this with e9 | e9 | e9 | e9 <;> subst e9
    · exact k0 hwk
    · exact k1 hwk
    · exact k2 hwk
    · exact k3 hwk
/-- out of a row of diagrams into cur -/
theorem to_unpack {h o la : Nat} (hh : h < 1000) (hla : (mX.2 h).2.1 = la) (ha : la < 2 ^ 30) (ho : o + 32 ≤ la) (hv : vRow z h o A sg) : Te (fun K => qe_X13_unpack K h (nI o) 1000 z) (fun z1 => rn_At z1 1000 A [] ∧ rn_sg z1 1000 A.flatten sg ∧ fr (fun g => 1001 ≤ g ∧ g ≤ 1006) z z1) := by
  obtain ⟨h1, ⟨c, h2, h3⟩, h4⟩ := hv
  have hl := okF_len h2
  have hll := h1.1
  have hw := okF_wk (by omega) h2
  exact w_monoE (tr_unpack pn1 hh hla ha (by omega) (by omega) (by omega) (fun p hp => ⟨(hw.2 p hp).1, (hw.2 p hp).2.1⟩) h1) (fun z1 ⟨g1, g2, g3⟩ => ⟨g1, g2, fr_mono (fun g hg => by omega) g3⟩)
theorem to_link {z0 : ow_MS} {h o : Nat} (hv : vRow z0 h o A sg) (h1 : rn_At z 1000 A []) (h2 : rn_sg z 1000 A.flatten sg) : Te (fun K => qe_X12_link K 1000 z) (fun z1 => oNet z1 1000 A sg ∧ fr (fun g => 1007 ≤ g ∧ g ≤ 1011) z z1) := by
  obtain ⟨-, ⟨c, h5, h3⟩, h4⟩ := hv
  have hl := okF_len h5
  have hw := okF_wk (by omega) h5
  refine w_monoE (tn_link pn1 (by omega) (by omega) (wkF_ok hw).1 h1) (fun z1 ⟨f1, f2, f3⟩ => ⟨⟨⟨f2, f3⟩, fun p hp => ?_, ⟨c, h5, h3⟩, h4⟩, fr_mono (fun g hg => by have := hg.1; have := hg.2; omega) f1⟩)
  rw [(f1 (1000 + 6) (fun h9 => by have := h9.1; omega)).2.1]
  exact h2 p hp
theorem oF_L {L L2 : Nat} (hm : m ≠ 0) (h : oF X bb m L z) : oF X bb m L2 z := ⟨h.1, h.2.1, h.2.2.1, fun e => absurd e hm, h.2.2.2.2⟩
theorem u_X13_moves_1 {x1 : Int32} {x2 : Int32} {z : ow_MS} {Q : (Int32 × ow_MS) → Prop} (H : Tt (fun K k => qm_X13_moves_1 K (q_X13_moves K k) x1 x2 z) Q) : Tt (fun K k => q_X13_moves K k 1 x1 x2 z) Q := w_un (fun _ _ => rfl) H
theorem e_X13_moves {x1 : Int32} {x2 : Int32} {z : ow_MS} {Q : (Int32 × ow_MS) → Prop} (H : Tt (fun K k => q_X13_moves K k 0 x1 x2 z) Q) : Te (fun K => qe_X13_moves K x1 x2 z) Q := w_te H
theorem u_X13_moves_0 {x1 : Int32} {x2 : Int32} {z : ow_MS} {Q : (Int32 × ow_MS) → Prop} (H : Tt (fun K k => qm_X13_moves_0 K (q_X13_moves K k) x1 x2 z) Q) : Tt (fun K k => q_X13_moves K k 0 x1 x2 z) Q := w_un (fun _ _ => rfl) H
theorem tp_moves {d kind : Int32} (h : gI X z) : Te (fun K => qe_X13_moves K d kind z) (fun r => gI X r.2) := by
  have h1 := gI_1 (c := 0) h
  have c1 : Tt (fun K k => q_X13_moves K k 1 d kind (usF z 1 0)) (fun r => gI X r.2) := by
    refine u_X13_moves_1 ?_; unfold qm_X13_moves_1
    exact w_fail h1
  refine e_X13_moves ?_
  refine u_X13_moves_0 ?_; unfold qm_X13_moves_0
  refine w_wrF (w_has h1.2.1 (w_ifT rfl (w_fail h1)) (fun e A sg he hx hv hne => w_ifF (by decide) (w_if (fun _ => c1) (fun _ => w_if (fun _ => ?_) (fun _ => c1)))))
  subst hx
  refine w_cs0 (to_open pn1 he hv) (fun z2 ⟨o1, f1⟩ => w_wrF (w_wrF ?_))
  have h2 : gI X z2 := gI_net pn1 f1 (fun g hg => by omega) h1
  have f2 : fr (fun g => g = 22 ∨ g = 30) z2 (usF (usF z2 22 0) 30 0) := fr_F2 (fr_F (Or.inl rfl)) (Or.inr rfl)
  have e22 : (usF (usF z2 22 0) 30 0).1 22 = nI 0 := rf_ot (by omega) (po_usF_at.trans nI_0.symm)
  have h3 : gI X (usF (usF z2 22 0) 30 0) := by
    obtain ⟨j1, j2, j3, j4, j5, j6, j7⟩ := h2
    exact ⟨gTape_fr f2 (by omega) j1, gRows_fr f2 (by omega) j2, ⟨0, by omega, e22, fun k hk => by omega, fun j hj => by omega⟩, gSum_fr f2 (by omega) (by omega) (by omega) j4, gCash_fr f2 (by omega) (by omega) (by omega) (by omega) (by omega) j5, gBrs_fr f2 (by omega) (by omega) (by omega) j6, gX_fr f2 (fun g hg => by omega) j7⟩
  have ho : oF X 0 0 0 (usF (usF z2 22 0) 30 0) := ⟨h3, po_usF_at, by omega, fun _ => ⟨0, Nat.le_refl _, e22⟩, fun e => by omega, fun e => by omega, fun e => by omega⟩
  exact w_cs0 (tp_try pn1 (by omega) (oNet_fr f2 (fun g hg => by omega) o1) ho) (fun z3 ⟨⟨L2, _, k1⟩, _⟩ => w_rdF rfl (w_some k1.1))
theorem u_X13_moved_1 {x1 : Int32} {z : ow_MS} {Q : (Int32 × ow_MS) → Prop} (H : Tt (fun K k => qm_X13_moved_1 K (q_X13_moved K k) x1 z) Q) : Tt (fun K k => q_X13_moved K k 1 x1 z) Q := w_un (fun _ _ => rfl) H
theorem e_X13_moved {x1 : Int32} {z : ow_MS} {Q : (Int32 × ow_MS) → Prop} (H : Tt (fun K k => q_X13_moved K k 0 x1 z) Q) : Te (fun K => qe_X13_moved K x1 z) Q := w_te H
theorem u_X13_moved_0 {x1 : Int32} {z : ow_MS} {Q : (Int32 × ow_MS) → Prop} (H : Tt (fun K k => qm_X13_moved_0 K (q_X13_moved K k) x1 z) Q) : Tt (fun K k => q_X13_moved K k 0 x1 z) Q := w_un (fun _ _ => rfl) H
theorem tp_moved {k : Int32} (h : gI X z) : Te (fun K => qe_X13_moved K k z) (fun r => gI X r.2) := by
  have h1 := gI_1 (c := 0) h
  have c1 : Tt (fun K i => q_X13_moved K i 1 k (usF z 1 0)) (fun r => gI X r.2) := by
    refine u_X13_moved_1 ?_; unfold qm_X13_moved_1
    exact w_fail h1
  obtain ⟨L, l1, l2, l3, l4⟩ := h1.2.2.1
  refine e_X13_moved ?_
  refine u_X13_moved_0 ?_; unfold qm_X13_moved_0
  refine w_wrF (w_if (fun _ => c1) (fun h0 => w_rdF l2 (w_if (fun h9 => w_free (w_ifT rfl (w_fail h1)) (fun f hf hfr => w_ifF (rn_neg1 (by omega)) ?_)) (fun _ => c1))))
  obtain ⟨j, hj31, rfl⟩ := nI_of h0
  have hjL : j < L := (nI_ltI hj31 (by omega)).mp h9
  obtain ⟨i, hi, e⟩ := l3 j hjL
  refine w_rdI ml21 rfl (by omega) e ?_
  rw [show (32 : Int32) * nI i = nI (32 * i) from pk_mul 32 i]
  exact w_cs1 (tm_keepRow h1 hfr (by omega) ml20 (by omega) (by omega) (l4 i hi)) (fun _ _ h8 => w_some h8.1)
/-- a row is copied out of the places -/
theorem cp_row {z1 : ow_MS} {h d : Nat} (hv : vRow z 12 (32 * d) A sg) (hc : ∀ i, i < (tk sg A).length + 1 → z1.2.1 h i = z.2.1 12 (32 * d + i)) : vRow z1 h 0 A sg := by
  refine ⟨⟨hv.1.1, hv.1.2.1, ?_, fun i t hi => ?_⟩, hv.2⟩
  · have := hc 0 (by omega)
    rw [Nat.add_zero] at this
    rw [this]
    exact hv.1.2.2.1
  · have := (List.getElem?_eq_some_iff.mp hi).1
    rw [Nat.zero_add, hc (i + 1) (by omega)]
    exact hv.1.2.2.2 i t hi
theorem oF_seen {b L : Nat} (h : oF X b 3 L z) : ∃ N, b ≤ N ∧ N ≤ 310 ∧ z.1 26 = nI N ∧ oF X N 3 0 z ∧ ∀ j, j < N → dRow z 25 (32 * j) := by
  obtain ⟨h1, h2, h3, h4, h5, h6, h7⟩ := h
  obtain ⟨N, n1, n2, n3⟩ := h7 rfl
  exact ⟨N, n1.1, n1.2, n2, ⟨h1, h2, h3, fun e => by omega, fun e => by omega, fun e => by omega, fun _ => ⟨N, ⟨Nat.le_refl _, n1.2⟩, n2, n3⟩⟩, n3⟩
theorem oF_near {b L : Nat} (h : oF X b 2 L z) : ∃ N, b ≤ N ∧ N ≤ 1000 ∧ z.1 24 = nI N ∧ oF X N 2 0 z ∧ ∀ j, j < N → dRow z 23 (32 * j) := by
  obtain ⟨h1, h2, h3, h4, h5, h6, h7⟩ := h
  obtain ⟨N, n1, n2, n3⟩ := h6 rfl
  exact ⟨N, n1.1, n1.2, n2, ⟨h1, h2, h3, fun e => by omega, fun e => by omega, fun _ => ⟨N, ⟨Nat.le_refl _, n1.2⟩, n2, n3⟩, fun e => by omega⟩, n3⟩
theorem oF_targ {b L : Nat} (h : oF X b 1 L z) : ∃ N, b ≤ N ∧ N ≤ 1000 ∧ z.1 24 = nI N ∧ oF X N 1 0 z ∧ gTarg z ∧ ∀ j, j < N → dRow z 23 (32 * j) := by
  obtain ⟨h1, h2, h3, h4, h5, h6, h7⟩ := h
  obtain ⟨ht, N, n1, n2, n3⟩ := h5 rfl
  exact ⟨N, n1.1, n1.2, n2, ⟨h1, h2, h3, fun e => by omega, fun _ => ⟨ht, N, ⟨Nat.le_refl _, n1.2⟩, n2, n3⟩, fun e => by omega, fun e => by omega⟩, ht, n3⟩
theorem e_X13_simplify {x1 : Int32} {z : ow_MS} {Q : (Int32 × ow_MS) → Prop} (H : Tt (fun K k => q_X13_simplify K k 0 x1 0 0 0 z) Q) : Te (fun K => qe_X13_simplify K x1 z) Q := w_te H
theorem u_X13_simplify_0 {x1 : Int32} {x2 : Int32} {x3 : Int32} {x4 : Int32} {z : ow_MS} {Q : (Int32 × ow_MS) → Prop} (H : Tt (fun K k => qm_X13_simplify_0 K (q_X13_simplify K k) x1 x2 x3 x4 z) Q) : Tt (fun K k => q_X13_simplify K k 0 x1 x2 x3 x4 z) Q := w_un (fun _ _ => rfl) H
theorem u_X13_simplify_5 {x1 : Int32} {x2 : Int32} {x3 : Int32} {x4 : Int32} {z : ow_MS} {Q : (Int32 × ow_MS) → Prop} (H : Tt (fun K k => qm_X13_simplify_5 K (q_X13_simplify K k) x1 x2 x3 x4 z) Q) : Tt (fun K k => q_X13_simplify K k 5 x1 x2 x3 x4 z) Q := w_un (fun _ _ => rfl) H
theorem u_X13_simplify_2 {x1 : Int32} {x2 : Int32} {x3 : Int32} {x4 : Int32} {z : ow_MS} {Q : (Int32 × ow_MS) → Prop} (H : Tt (fun K k => qm_X13_simplify_2 K (q_X13_simplify K k) x1 x2 x3 x4 z) Q) : Tt (fun K k => q_X13_simplify K k 2 x1 x2 x3 x4 z) Q := w_un (fun _ _ => rfl) H
theorem u_X13_simplify_4 {x1 : Int32} {x2 : Int32} {x3 : Int32} {x4 : Int32} {z : ow_MS} {Q : (Int32 × ow_MS) → Prop} (H : Tt (fun K k => qm_X13_simplify_4 K (q_X13_simplify K k) x1 x2 x3 x4 z) Q) : Tt (fun K k => q_X13_simplify K k 4 x1 x2 x3 x4 z) Q := w_un (fun _ _ => rfl) H
theorem u_X13_simplify_3 {x1 : Int32} {x2 : Int32} {x3 : Int32} {x4 : Int32} {z : ow_MS} {Q : (Int32 × ow_MS) → Prop} (H : Tt (fun K k => qm_X13_simplify_3 K (q_X13_simplify K k) x1 x2 x3 x4 z) Q) : Tt (fun K k => q_X13_simplify K k 3 x1 x2 x3 x4 z) Q := w_un (fun _ _ => rfl) H
theorem u_X13_simplify_1 {x1 : Int32} {x2 : Int32} {x3 : Int32} {x4 : Int32} {z : ow_MS} {Q : (Int32 × ow_MS) → Prop} (H : Tt (fun K k => qm_X13_simplify_1 K (q_X13_simplify K k) x1 x2 x3 x4 z) Q) : Tt (fun K k => q_X13_simplify K k 1 x1 x2 x3 x4 z) Q := w_un (fun _ _ => rfl) H
theorem tp_simplify {d : Int32} (h : gI X z) : Te (fun K => qe_X13_simplify K d z) (fun r => gI X r.2) := by
  have h1 := gI_1 (c := 0) h
  refine e_X13_simplify ?_
  refine u_X13_simplify_0 ?_; unfold qm_X13_simplify_0
  refine w_wrF (w_has h1.2.1 (w_ifT rfl (w_fail h1)) (fun e A sg he hx hv hne => w_ifF (by decide) (w_free (w_ifT rfl (w_fail h1)) (fun f hf hfr => w_ifF (rn_neg1 (by omega)) ?_))))
  subst hx
  have hl := hv.1.1
  let J : Nat → ow_MS → Prop := fun N y => oF X N 3 0 y ∧ frD y ∧ y.1 26 = nI N ∧ N ≤ 310 ∧ ∀ j, j < N → dRow y 25 (32 * j)
  have c5 : ∀ (le at9 N : Nat) (y : ow_MS), J N y → le < N → Tt (fun K i => q_X13_simplify K i 5 (nI e) (nI le) (nI at9) 0 y) (fun r => gI X r.2) := by
    intro le at9 N y ⟨j1, j2, j3, j4, j5⟩ hlN
    refine u_X13_simplify_5 ?_; unfold qm_X13_simplify_5
    rw [show (32 : Int32) * nI le = nI (32 * le) from pk_mul 32 le]
    exact w_rdF j3 (w_le (b := 300) (by omega) (by omega) (fun _ => w_cs1 (tm_keepRow j1.1 j2 (by omega) ml25 (by omega) (by omega) (j5 le hlN)) (fun _ _ h8 => w_some h8.1)) (fun _ => w_some j1.1))
  have main : ∀ (k at9 le N : Nat) (y : ow_MS), at9 + k = 311 → J N y → le < N → Tt (fun K i => q_X13_simplify K i 2 (nI e) (nI le) (nI at9) 0 y) (fun r => gI X r.2) := by
    intro k
    induction k with
    | zero =>
      intro at9 le N y ha hj hlN
      have j4 := hj.2.2.2.1
      refine u_X13_simplify_2 ?_; unfold qm_X13_simplify_2
      exact w_rdF hj.2.2.1 (w_leT (by omega) (by omega) (c5 le at9 N y hj hlN))
    | succ k ih =>
      intro at9 le N y ha hj hlN
      obtain ⟨j1, j2, j3, j4, j5⟩ := hj
      have kinds : ∀ (j kd le2 N : Nat) (y : ow_MS), kd + j = 6 → J N y → le2 < N → at9 < N → Tt (fun K i => q_X13_simplify K i 4 (nI e) (nI le2) (nI at9) (nI kd) y) (fun r => gI X r.2) := by
        intro j
        induction j using Nat.strongRecOn with
        | ind j ihj =>
          intro kd le2 N y hkd hj hlN haN
          obtain ⟨j1, j2, j3, j4, j5⟩ := hj
          refine u_X13_simplify_4 ?_; unfold qm_X13_simplify_4
          refine w_le (a := 5) (by omega) (by omega) (fun h5 => ?_) (fun h5 => ?_)
          · rw [nI_1]
            exact ih (at9 + 1) le2 N y (by omega) ⟨j1, j2, j3, j4, j5⟩ hlN
          · obtain ⟨B, sg2, hw⟩ := j5 at9 haN
            rw [show (32 : Int32) * nI at9 = nI (32 * at9) from pk_mul 32 at9, show nI kd + 2 = nI (kd + 2) from nI_add kd 2]
            refine w_cs0 (to_unpack (by omega) ml25 (by omega) (by omega) hw) (fun y1 ⟨a1, a2, a3⟩ => w_cs0 (to_link hw a1 a2) (fun y2 ⟨b1, b2⟩ => ?_))
            have ho2 : oF X N 3 0 y2 := oF_3 b2 (fun g hg => by omega) (oF_3 a3 (fun g hg => by omega) j1)
            refine w_cs0 (tp_try pn1 (by omega) b1 ho2) (fun y3 ⟨⟨L2, _, k1⟩, k2⟩ => ?_)
            obtain ⟨N3, q1, q2, q3, q4, q5⟩ := oF_seen k1
            have e12 : y3.2.1 12 = y.2.1 12 := by rw [(k2 12 (by unfold frT; omega)).2.1, (b2 12 (by omega)).2.1, (a3 12 (by omega)).2.1]
            by_cases hkd4 : kd = 4
            · have := ihj 0 (by omega) 6 le2 N3 y3 (by omega) ⟨q4, frD_eq e12 j2, q3, q2, q5⟩ (by omega) (by omega)
              rw [hkd4]
              exact this
            · exact ihj (j - 2) (by omega) (kd + 2) le2 N3 y3 (by omega) ⟨q4, frD_eq e12 j2, q3, q2, q5⟩ (by omega) (by omega)
      refine u_X13_simplify_2 ?_; unfold qm_X13_simplify_2
      refine w_rdF j3 (w_le (by omega) (by omega) (fun _ => c5 le at9 N y ⟨j1, j2, j3, j4, j5⟩ hlN) (fun hat => w_rdF j3 (w_lt (a := 300) (by omega) (by omega) (fun _ => c5 le at9 N y ⟨j1, j2, j3, j4, j5⟩ hlN) (fun h300 => ?_))))
      obtain ⟨B, sg2, hw⟩ := j5 at9 hat
      obtain ⟨B2, sg3, hw2⟩ := j5 le hlN
      have hwl := hw.1.1
      have hwl2 := hw2.1.1
      rw [show (32 : Int32) * nI at9 = nI (32 * at9) from pk_mul 32 at9, show (32 : Int32) * nI le = nI (32 * le) from pk_mul 32 le]
      refine w_cs1 (tr_lesser ml25 ml25 (by omega) (by omega) (by omega) (by omega) hw.1 hw2.1) (fun a y9 e9 => ?_)
      cases e9
      refine w_if (fun _ => ?_) (fun _ => ?_)
      · refine u_X13_simplify_3 ?_; unfold qm_X13_simplify_3
        exact kinds 6 0 le N y (by omega) ⟨j1, j2, j3, j4, j5⟩ hlN hat
      · refine u_X13_simplify_3 ?_; unfold qm_X13_simplify_3
        exact kinds 6 0 at9 N y (by omega) ⟨j1, j2, j3, j4, j5⟩ hat hat
  have cp : ∀ (j k : Nat) (y : ow_MS), k + j = (tk sg A).length + 1 → fr (fun g => g = 25) (usF z 1 0) y → (∀ i, i < k → y.2.1 25 i = (usF z 1 0).2.1 12 (32 * e + i)) → Tt (fun K i => q_X13_simplify K i 1 (nI e) (nI k) 0 0 y) (fun r => gI X r.2) := by
    intro j
    induction j with
    | zero =>
      intro k y hk hf2 hc
      have e12 := (hf2 12 (by omega)).2.1
      refine u_X13_simplify_1 ?_; unfold qm_X13_simplify_1
      rw [show (32 : Int32) * nI e = nI (32 * e) from pk_mul 32 e]
      refine w_rdI ml12 rfl (by omega) (x := nI (tk sg A).length) (by rw [e12]; exact hv.1.2.2.1) (w_ltT (by omega) (by omega) (w_wrF (w_wrF ?_)))
      have f3 : fr (fun g => g = 25 ∨ g = 26 ∨ g = 30) (usF z 1 0) (usF (usF y 26 1) 30 3) := fr_F2 (fr_F2 (fr_mono (fun g hg => by omega) hf2) (by omega)) (by omega)
      have hr : ∀ j, j < 1 → dRow (usF (usF y 26 1) 30 3) 25 (32 * j) := fun j hj => by
        have : j = 0 := by omega
        subst this
        exact ⟨A, sg, cp_row hv (fun i hi => hc i (by omega))⟩
      have h26 : (usF (usF y 26 1) 30 3).1 26 = nI 1 := rf_ot (by omega) po_usF_at
      exact main 311 0 0 1 _ (by omega) ⟨⟨gI_fr f3 (fun g hg => by unfold per; omega) h1, po_usF_at, by omega, fun e => by omega, fun e => by omega, fun e => by omega, fun _ => ⟨1, ⟨Nat.le_refl _, by omega⟩, h26, hr⟩⟩, frD_eq e12 hfr, h26, by omega, hr⟩ (by omega)
    | succ j ih =>
      intro k y hk hf2 hc
      have e12 := (hf2 12 (by omega)).2.1
      refine u_X13_simplify_1 ?_; unfold qm_X13_simplify_1
      rw [show (32 : Int32) * nI e = nI (32 * e) from pk_mul 32 e, nI_add, nI_1]
      refine w_rdI ml12 rfl (by omega) (x := nI (tk sg A).length) (by rw [e12]; exact hv.1.2.2.1) (w_ltF (by omega) (by omega) (w_rdI ml12 rfl (by omega) (by rw [e12]) (w_wrI ml25 rfl (by omega) (ih (k + 1) _ (by omega) (fr_I2 hf2 rfl) (fun i hi => ?_)))))
      by_cases hik : i = k
      · rw [hik, po_usI_at]
      · exact rd_ne hik (hc i (by omega))
  exact cp ((tk sg A).length + 1) 0 (usF z 1 0) (by omega) fr_rf (fun i hi => by omega)
theorem u_X13_way_1 {x1 : Int32} {x2 : Int32} {x3 : Int32} {x4 : Int32} {x5 : Int32} {x6 : Int32} {t0 : Int32} {z : ow_MS} {Q : (Int32 × ow_MS) → Prop} (H : Tt (fun K k => qm_X13_way_1 K (q_X13_way K k) x1 x2 x3 x4 x5 x6 t0 z) Q) : Tt (fun K k => q_X13_way K k 1 x1 x2 x3 x4 x5 x6 t0 z) Q := w_un (fun _ _ => rfl) H
theorem u_X13_way_2 {x1 : Int32} {x2 : Int32} {x3 : Int32} {x4 : Int32} {x5 : Int32} {x6 : Int32} {t0 : Int32} {z : ow_MS} {Q : (Int32 × ow_MS) → Prop} (H : Tt (fun K k => qm_X13_way_2 K (q_X13_way K k) x1 x2 x3 x4 x5 x6 t0 z) Q) : Tt (fun K k => q_X13_way K k 2 x1 x2 x3 x4 x5 x6 t0 z) Q := w_un (fun _ _ => rfl) H
theorem e_X13_way {x1 : Int32} {x2 : Int32} {z : ow_MS} {Q : (Int32 × ow_MS) → Prop} (H : Tt (fun K k => q_X13_way K k 0 x1 x2 0 0 0 0 0 z) Q) : Te (fun K => qe_X13_way K x1 x2 z) Q := w_te H
theorem u_X13_way_0 {x1 : Int32} {x2 : Int32} {x3 : Int32} {x4 : Int32} {x5 : Int32} {x6 : Int32} {t0 : Int32} {z : ow_MS} {Q : (Int32 × ow_MS) → Prop} (H : Tt (fun K k => qm_X13_way_0 K (q_X13_way K k) x1 x2 x3 x4 x5 x6 t0 z) Q) : Tt (fun K k => q_X13_way K k 0 x1 x2 x3 x4 x5 x6 t0 z) Q := w_un (fun _ _ => rfl) H
theorem u_X13_way_9 {x1 : Int32} {x2 : Int32} {x3 : Int32} {x4 : Int32} {x5 : Int32} {x6 : Int32} {t0 : Int32} {z : ow_MS} {Q : (Int32 × ow_MS) → Prop} (H : Tt (fun K k => qm_X13_way_9 K (q_X13_way K k) x1 x2 x3 x4 x5 x6 t0 z) Q) : Tt (fun K k => q_X13_way K k 9 x1 x2 x3 x4 x5 x6 t0 z) Q := w_un (fun _ _ => rfl) H
theorem u_X13_way_6 {x1 : Int32} {x2 : Int32} {x3 : Int32} {x4 : Int32} {x5 : Int32} {x6 : Int32} {t0 : Int32} {z : ow_MS} {Q : (Int32 × ow_MS) → Prop} (H : Tt (fun K k => qm_X13_way_6 K (q_X13_way K k) x1 x2 x3 x4 x5 x6 t0 z) Q) : Tt (fun K k => q_X13_way K k 6 x1 x2 x3 x4 x5 x6 t0 z) Q := w_un (fun _ _ => rfl) H
theorem u_X13_way_7 {x1 : Int32} {x2 : Int32} {x3 : Int32} {x4 : Int32} {x5 : Int32} {x6 : Int32} {t0 : Int32} {z : ow_MS} {Q : (Int32 × ow_MS) → Prop} (H : Tt (fun K k => qm_X13_way_7 K (q_X13_way K k) x1 x2 x3 x4 x5 x6 t0 z) Q) : Tt (fun K k => q_X13_way K k 7 x1 x2 x3 x4 x5 x6 t0 z) Q := w_un (fun _ _ => rfl) H
theorem u_X13_way_8 {x1 : Int32} {x2 : Int32} {x3 : Int32} {x4 : Int32} {x5 : Int32} {x6 : Int32} {t0 : Int32} {z : ow_MS} {Q : (Int32 × ow_MS) → Prop} (H : Tt (fun K k => qm_X13_way_8 K (q_X13_way K k) x1 x2 x3 x4 x5 x6 t0 z) Q) : Tt (fun K k => q_X13_way K k 8 x1 x2 x3 x4 x5 x6 t0 z) Q := w_un (fun _ _ => rfl) H
theorem u_X13_way_5 {x1 : Int32} {x2 : Int32} {x3 : Int32} {x4 : Int32} {x5 : Int32} {x6 : Int32} {t0 : Int32} {z : ow_MS} {Q : (Int32 × ow_MS) → Prop} (H : Tt (fun K k => qm_X13_way_5 K (q_X13_way K k) x1 x2 x3 x4 x5 x6 t0 z) Q) : Tt (fun K k => q_X13_way K k 5 x1 x2 x3 x4 x5 x6 t0 z) Q := w_un (fun _ _ => rfl) H
theorem u_X13_way_4 {x1 : Int32} {x2 : Int32} {x3 : Int32} {x4 : Int32} {x5 : Int32} {x6 : Int32} {t0 : Int32} {z : ow_MS} {Q : (Int32 × ow_MS) → Prop} (H : Tt (fun K k => qm_X13_way_4 K (q_X13_way K k) x1 x2 x3 x4 x5 x6 t0 z) Q) : Tt (fun K k => q_X13_way K k 4 x1 x2 x3 x4 x5 x6 t0 z) Q := w_un (fun _ _ => rfl) H
theorem u_X13_way_3 {x1 : Int32} {x2 : Int32} {x3 : Int32} {x4 : Int32} {x5 : Int32} {x6 : Int32} {t0 : Int32} {z : ow_MS} {Q : (Int32 × ow_MS) → Prop} (H : Tt (fun K k => qm_X13_way_3 K (q_X13_way K k) x1 x2 x3 x4 x5 x6 t0 z) Q) : Tt (fun K k => q_X13_way K k 3 x1 x2 x3 x4 x5 x6 t0 z) Q := w_un (fun _ _ => rfl) H
theorem tp_way {d e : Int32} (h : gI X z) : Te (fun K => qe_X13_way K d e z) (fun r => gI X r.2) := by
  have h1 := gI_1 (c := 0) h
  have c1 : ∀ y, gI X y → Tt (fun K k => q_X13_way K k 1 d e 0 0 0 0 0 y) (fun r => gI X r.2) := by
    intro y hy
    refine u_X13_way_1 ?_; unfold qm_X13_way_1
    exact w_fail hy
  have c2 : ∀ y, gI X y → Tt (fun K k => q_X13_way K k 2 d e 0 0 0 0 0 y) (fun r => gI X r.2) := by
    intro y hy
    refine u_X13_way_2 ?_; unfold qm_X13_way_2
    exact w_fail hy
  refine e_X13_way ?_
  refine u_X13_way_0 ?_; unfold qm_X13_way_0
  refine w_wrF (w_has h1.2.1 (w_ifT rfl (c1 _ h1)) (fun d9 A sg hd9 hx hv hne => w_ifF (by decide) (w_has h1.2.1 (w_ifT rfl (c1 _ h1)) (fun e9 B sg2 he9 hy hw hne2 => w_ifF (by decide) ?_))))
  subst hx
  subst hy
  have l1 := hv.1.1
  have l2 := hw.1.1
  have v1 := vOf_le (tk sg A)
  have v2 := vOf_le (tk sg2 B)
  rw [show (32 : Int32) * nI d9 = nI (32 * d9) from pk_mul 32 d9, show (32 : Int32) * nI e9 = nI (32 * e9) from pk_mul 32 e9]
  refine w_cs1 (tr_visits ml12 (by omega) (by omega) hv.1) (fun a y ea => ?_)
  cases ea
  refine w_lt (a := 8) (by omega) (by omega) (fun _ => c2 _ h1) (fun _ => w_cs1 (tr_visits ml12 (by omega) (by omega) hw.1) (fun a y ea => ?_))
  cases ea
  refine w_le (b := 8) (by omega) (by omega) (fun _ => w_cs1 (tp_alike h1) (fun a y ⟨ia, _, ie⟩ => w_if (fun _ => ?_) (fun _ => w_some ia))) (fun _ => c2 _ h1)
  have ia : gI X y := ia
  have ie : y.2 = z.2 := ie
  have hvy : vRow y 12 (32 * d9) A sg := by
    refine ⟨⟨hv.1.1, hv.1.2.1, ?_, ?_⟩, hv.2⟩
    · rw [ie]; exact hv.1.2.2.1
    · rw [ie]; exact hv.1.2.2.2
  have hwy : vRow y 12 (32 * e9) B sg2 := by
    refine ⟨⟨hw.1.1, hw.1.2.1, ?_, ?_⟩, hw.2⟩
    · rw [ie]; exact hw.1.2.2.1
    · rw [ie]; exact hw.1.2.2.2
  -- the second ring: near diagrams moved
  have c9 : ∀ (x3 x4 : Int32) (y : ow_MS), gI X y → Tt (fun K i => q_X13_way K i 9 (nI d9) (nI e9) x3 x4 0 0 0 y) (fun r => gI X r.2) := by
    intro x3 x4 y hy
    refine u_X13_way_9 ?_; unfold qm_X13_way_9
    exact w_rdF rfl (w_if (fun _ => w_some hy) (fun _ => w_some hy))
  have l6 : ∀ (x3 : Int32) (k t N : Nat) (y : ow_MS), t + k = 1001 → oF X N 1 0 y → y.1 24 = nI N → N ≤ 1000 → (∀ j, j < N → dRow y 23 (32 * j)) → Tt (fun K i => q_X13_way K i 6 (nI d9) (nI e9) x3 (nI t) 0 0 0 y) (fun r => gI X r.2) := by
    intro x3 k
    induction k with
    | zero =>
      intro t N y ht ho h24 hN hR
      refine u_X13_way_6 ?_; unfold qm_X13_way_6
      exact w_rdF h24 (w_leT (by omega) (by omega) (c9 _ _ y ho.1))
    | succ k ih =>
      intro t N y ht ho h24 hN hR
      refine u_X13_way_6 ?_; unfold qm_X13_way_6
      refine w_rdF h24 (w_le (by omega) (by omega) (fun _ => c9 _ _ y ho.1) (fun htN => w_rdF rfl (w_if (fun _ => ?_) (fun _ => c9 _ _ y ho.1))))
      obtain ⟨D, sg3, hD⟩ := hR t htN
      have ld := hD.1.1
      have vd := vOf_le (tk sg3 D)
      rw [show (32 : Int32) * nI t = nI (32 * t) from pk_mul 32 t]
      refine w_cs1 (tr_visits ml23 (by omega) (by omega) hD.1) (fun a y9 ea => ?_)
      cases ea
      have c7 : ∀ (x5 t0 : Int32), Tt (fun K i => q_X13_way K i 7 (nI d9) (nI e9) x3 (nI t) x5 0 t0 y) (fun r => gI X r.2) := by
        intro x5 t0
        refine u_X13_way_7 ?_; unfold qm_X13_way_7
        rw [show (32 : Int32) * nI t = nI (32 * t) from pk_mul 32 t]
        refine w_if (fun _ => ?_) (fun _ => w_cs0 (to_unpack (by omega) ml23 (by omega) (by omega) hD) (fun y1 ⟨a1, a2, a3⟩ => w_cs0 (to_link hD a1 a2) (fun y2 ⟨b1, b2⟩ => ?_)))
        · refine u_X13_way_8 ?_; unfold qm_X13_way_8
          rw [nI_1]
          exact ih (t + 1) N y (by omega) ho h24 hN hR
        · have ho2 : oF X N 1 0 y2 := oF_3 b2 (fun g hg => by omega) (oF_3 a3 (fun g hg => by omega) ho)
          refine w_cs0 (tp_try pn1 (by omega) b1 ho2) (fun y3 ⟨⟨L2, _, k1⟩, k2⟩ => ?_)
          obtain ⟨N3, q1, q2, q3, q4, q5, q6⟩ := oF_targ k1
          refine u_X13_way_8 ?_; unfold qm_X13_way_8
          rw [nI_1]
          exact ih (t + 1) N3 y3 (by omega) q4 q3 q2 q6
      exact w_nzI (by decide) (w_if (fun _ => c7 _ _) (fun _ => w_if (fun _ => c7 _ _) (fun _ => w_if (fun _ => c7 _ _) (fun _ => w_if (fun _ => c7 _ _) (fun _ => w_if (fun _ => c7 _ _) (fun _ => c7 _ _))))))
  have l5 : ∀ (k t N : Nat) (T : List Nat) (y : ow_MS), t + k = N → oF X N 2 0 y → y.1 24 = nI N → N ≤ 1000 → rc_At y 28 0 T → (∀ j, j < N → dRow y 23 (32 * j)) → Tt (fun K i => q_X13_way K i 5 (nI d9) (nI e9) (nI t) 0 0 0 0 y) (fun r => gI X r.2) := by
    intro k
    induction k with
    | zero =>
      intro t N T y ht ho h24 hN hT hR
      have hTl := hT.1
      have hTv := vOf_le T
      refine u_X13_way_5 ?_; unfold qm_X13_way_5
      refine w_rdF h24 (w_leT (by omega) (by omega) (w_okZ (Or.inl rfl) (w_wrF (w_wrF ?_))))
      have f3 : fr (fun g => g = 29 ∨ g = 30) y (usF (usF y 29 0) 30 1) := fr_F2 (fr_F (Or.inl rfl)) (Or.inr rfl)
      have hT3 : rc_At (usF (usF y 29 0) 30 1) 28 0 T := rc_fr f3 (by omega) hT
      have hR3 : ∀ j, j < N → dRow (usF (usF y 29 0) 30 1) 23 (32 * j) := fun j hj => dRow_fr f3 (by omega) (hR j hj)
      have h243 : (usF (usF y 29 0) 30 1).1 24 = nI N := rf_ot (by omega) (rf_ot (by omega) h24)
      refine w_cs1 (tr_visits (o := 0) ml28 (by omega) (by omega) hT3) (fun a y9 ea => ?_)
      cases ea
      exact w_nzI (by decide) (l6 _ 1001 0 N _ (by omega) ⟨gI_fr f3 (fun g hg => by unfold per; omega) ho.1, po_usF_at, by omega, fun e => by omega, fun _ => ⟨⟨⟨T, hT3⟩, Or.inl (rf_ot (by omega) po_usF_at)⟩, N, ⟨Nat.le_refl _, hN⟩, h243, hR3⟩, fun e => by omega, fun e => by omega⟩ h243 hN hR3)
    | succ k ih =>
      intro t N T y ht ho h24 hN hT hR
      obtain ⟨D, sg3, hD⟩ := hR t (by omega)
      have ld := hD.1.1
      refine u_X13_way_5 ?_; unfold qm_X13_way_5
      rw [show (32 : Int32) * nI t = nI (32 * t) from pk_mul 32 t, nI_1]
      refine w_rdF h24 (w_leF (by omega) (by omega) (w_cs1 (tr_same (p := 0) ml23 ml28 (by omega) (by omega) (by omega) (by omega) hD.1 hT) (fun a y9 ea => ?_)))
      cases ea
      exact w_if (fun _ => ih (t + 1) N T y (by omega) ho h24 hN hT hR) (fun _ => w_some ho.1)
  have l4 : ∀ (k t N : Nat) (T : List Nat) (y : ow_MS), t + k = 5 → gI X y → gNear N y → vRow y 12 (32 * d9) A sg → rc_At y 28 0 T → (t = 0 ∨ y.1 30 = nI 2) → Tt (fun K i => q_X13_way K i 4 (nI d9) (nI e9) (nI t) 0 0 0 0 y) (fun r => gI X r.2) := by
    intro k
    induction k with
    | zero =>
      intro t N T y ht hI hNr hvy hT h30
      obtain ⟨N2, n1, n2, n3⟩ := hNr
      have e30 := h30.resolve_left (by omega)
      refine u_X13_way_4 ?_; unfold qm_X13_way_4
      exact w_leT (a := 5) (by omega) (by omega) (l5 N2 0 N2 T y (by omega) ⟨hI, e30, by omega, fun e => by omega, fun e => by omega, fun _ => ⟨N2, ⟨Nat.le_refl _, n1.2⟩, n2, n3⟩, fun e => by omega⟩ n2 n1.2 hT n3)
    | succ k ih =>
      intro t N T y ht hI hNr hvy hT h30
      refine u_X13_way_4 ?_; unfold qm_X13_way_4
      rw [nI_1]
      refine w_leF (a := 5) (by omega) (by omega) (w_cs0 (to_open pn1 hd9 hvy) (fun y1 ⟨o1, f1⟩ => w_wrF ?_))
      have f2 : fr (fun g => g = 30) y1 (usF y1 30 2) := fr_F rfl
      have hI2 : gI X (usF y1 30 2) := gI_fr f2 (fun g hg => by rw [hg]; decide) (gI_net pn1 f1 (fun g hg => by omega) hI)
      have ho : oF X N 2 0 (usF y1 30 2) := ⟨hI2, po_usF_at, by omega, fun e => by omega, fun e => by omega, fun _ => gNear_fr f2 (by omega) (by omega) (gNear_fr f1 (by omega) (by omega) hNr), fun e => by omega⟩
      refine w_cs0 (tp_try pn1 (by omega) (oNet_fr f2 (fun g hg => by omega) o1) ho) (fun y3 ⟨⟨L2, _, k1⟩, k2⟩ => ?_)
      obtain ⟨N3, q1, q2, q3, q4, q5⟩ := oF_near k1
      refine ih (t + 1) N3 T y3 (by omega) q4.1 ⟨N3, ⟨Nat.le_refl _, q2⟩, q3, q5⟩ ⟨rc_fr k2 (by unfold frT; omega) (rc_fr f2 (by omega) (rc_fr f1 (by omega) hvy.1)), hvy.2⟩ (rc_fr k2 (by unfold frT; omega) (rc_fr f2 (by omega) (rc_fr f1 (by omega) hT))) (Or.inr q4.2.1)
  have cp : ∀ (j k : Nat) (y2 : ow_MS), k + j = (tk sg2 B).length + 1 → fr (fun g => g = 28) y y2 → (∀ i, i < k → y2.2.1 28 i = y.2.1 12 (32 * e9 + i)) → Tt (fun K i => q_X13_way K i 3 (nI d9) (nI e9) (nI k) 0 0 0 0 y2) (fun r => gI X r.2) := by
    intro j
    induction j with
    | zero =>
      intro k y2 hk hf2 hc
      have e12 := (hf2 12 (by omega)).2.1
      refine u_X13_way_3 ?_; unfold qm_X13_way_3
      rw [show (32 : Int32) * nI e9 = nI (32 * e9) from pk_mul 32 e9]
      refine w_rdI ml12 rfl (by omega) (x := nI (tk sg2 B).length) (by rw [e12]; exact hwy.1.2.2.1) (w_ltT (by omega) (by omega) (w_wrF ?_))
      have f3 : fr (fun g => g = 24 ∨ g = 28) y (usF y2 24 0) := fr_F2 (fr_mono (fun g hg => Or.inr hg) hf2) (Or.inl rfl)
      have hT : rc_At (usF y2 24 0) 28 0 (tk sg2 B) := (cp_row hwy (fun i hi => hc i (by omega)) : vRow y2 28 0 B sg2).1
      exact l4 5 0 0 (tk sg2 B) _ (by omega) (gI_fr f3 (fun g hg => by unfold per; omega) ia) ⟨0, ⟨Nat.le_refl _, by omega⟩, po_usF_at, fun j hj => by omega⟩ ⟨rc_fr f3 (by omega) hvy.1, hvy.2⟩ hT (Or.inl rfl)
    | succ j ih =>
      intro k y2 hk hf2 hc
      have e12 := (hf2 12 (by omega)).2.1
      refine u_X13_way_3 ?_; unfold qm_X13_way_3
      rw [show (32 : Int32) * nI e9 = nI (32 * e9) from pk_mul 32 e9, nI_add, nI_1]
      refine w_rdI ml12 rfl (by omega) (x := nI (tk sg2 B).length) (by rw [e12]; exact hwy.1.2.2.1) (w_ltF (by omega) (by omega) (w_rdI ml12 rfl (by omega) (by rw [e12]) (w_wrI ml28 rfl (by omega) (ih (k + 1) _ (by omega) (fr_I2 hf2 rfl) (fun i hi => ?_)))))
      by_cases hik : i = k
      · rw [hik, po_usI_at]
      · exact rd_ne hik (hc i (by omega))
  exact cp ((tk sg2 B).length + 1) 0 y (by omega) fr_rf (fun i hi => by omega)
end MV5
end
