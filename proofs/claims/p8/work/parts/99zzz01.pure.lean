section
/-! 99zzl.build -/
/-! nets that are built out of visits of a list A: P says which visits are in, q how many components are closed -/
def bm (z : ow_MS) (n : Nat) (A : rn_L) (P : Nat → Prop) (q : Nat) : Prop := ∃ (C : List (List Nat)) (l : List Nat), C.length = q ∧ rn_At z n (C.map (List.map (vAt A))) (l.map (vAt A)) ∧ (C.flatten ++ l).Nodup ∧ ∀ j, j ∈ C.flatten ++ l ↔ P j
def bmE (z : ow_MS) (n : Nat) (A : rn_L) (P : Nat → Prop) (q : Nat) : Prop := ∃ (C : List (List Nat)), C.length = q ∧ rn_At z n (C.map (List.map (vAt A))) [] ∧ C.flatten.Nodup ∧ ∀ j, j ∈ C.flatten ↔ P j
theorem fl_map {A : rn_L} : ∀ C : List (List Nat), (C.map (List.map (vAt A))).flatten = C.flatten.map (vAt A)
  | [] => rfl
  | B :: C => by rw [List.map_cons, List.flatten_cons, fl_map C, List.flatten_cons, List.map_append]
theorem bmE.b {z : ow_MS} {n q : Nat} {A : rn_L} {P : Nat → Prop} (h : bmE z n A P q) : bm z n A P q := by
  obtain ⟨C, h1, h2, h3, h4⟩ := h
  exact ⟨C, [], h1, h2, by rw [List.append_nil]; exact h3, by rw [List.append_nil]; exact h4⟩
theorem bm_eq {z : ow_MS} {n q : Nat} {A : rn_L} {P P2 : Nat → Prop} (h : bm z n A P q) (he : ∀ j, P j ↔ P2 j) : bm z n A P2 q := by
  obtain ⟨C, l, h1, h2, h3, h4⟩ := h
  exact ⟨C, l, h1, h2, h3, fun j => (h4 j).trans (he j)⟩
theorem bmE_eq {z : ow_MS} {n q : Nat} {A : rn_L} {P P2 : Nat → Prop} (h : bmE z n A P q) (he : ∀ j, P j ↔ P2 j) : bmE z n A P2 q := by
  obtain ⟨C, h1, h2, h3, h4⟩ := h
  exact ⟨C, h1, h2, h3, fun j => (h4 j).trans (he j)⟩
theorem bm_fr {F : Nat → Prop} {z z1 : ow_MS} {n q : Nat} {A : rn_L} {P : Nat → Prop} (hf : fr F z z1) (hF : ∀ g, F g → g < n + 1 ∨ n + 5 < g) (h : bm z n A P q) : bm z1 n A P q := by
  obtain ⟨C, l, h1, h2, h3⟩ := h
  exact ⟨C, l, h1, fr_At hf hF h2, h3⟩
theorem bmE_fr {F : Nat → Prop} {z z1 : ow_MS} {n q : Nat} {A : rn_L} {P : Nat → Prop} (hf : fr F z z1) (hF : ∀ g, F g → g < n + 1 ∨ n + 5 < g) (h : bmE z n A P q) : bmE z1 n A P q := by
  obtain ⟨C, h1, h2, h3⟩ := h
  exact ⟨C, h1, fr_At hf hF h2, h3⟩
theorem bm_clear {n : Nat} {z : ow_MS} {A : rn_L} (hn : mw_net n) : Te (fun K => qe_X12_clear K n z) (fun z1 => bmE z1 n A (fun _ => False) 0 ∧ fr (fun g => g = n + 1 ∨ g = n + 2 ∨ g = n + 3) z z1) := by
  refine w_monoE (tn_clear hn) (fun z1 ⟨h1, h2⟩ => ⟨⟨[], rfl, h1, List.nodup_nil, fun j => by simp⟩, h2⟩)
theorem bm_len {z : ow_MS} {n q : Nat} {A : rn_L} {P : Nat → Prop} (h : bm z n A P q) (hP : ∀ j, P j → j < A.flatten.length) : ∃ (C : List (List Nat)) (l : List Nat), C.length = q ∧ rn_At z n (C.map (List.map (vAt A))) (l.map (vAt A)) ∧ (C.flatten ++ l).Nodup ∧ (∀ j, j ∈ C.flatten ++ l ↔ P j) ∧ ((C.map (List.map (vAt A))).flatten ++ l.map (vAt A)).length ≤ A.flatten.length := by
  obtain ⟨C, l, h1, h2, h3, h4⟩ := h
  refine ⟨C, l, h1, h2, h3, h4, ?_⟩
  rw [fl_map, ← List.map_append, List.length_map]
  have := nodup_le (C.flatten ++ l) (List.range A.flatten.length) h3 (fun j hj => List.mem_range.mpr (hP j ((h4 j).mp hj)))
  rw [List.length_range] at this
  exact this
theorem bm_add {n q i : Nat} {x u : Int32} {z : ow_MS} {A : rn_L} {P : Nat → Prop} (hn : mw_net n) (hV : A.flatten.length < 40) (hP : ∀ j, P j → j < A.flatten.length) (hi : ¬ P i) (hx : x = nI (crs A i)) (hu : u = nI (uns A i)) (h : bm z n A P q) : Te (fun K => qe_X12_add K n x u z) (fun z1 => bm z1 n A (fun j => P j ∨ j = i) q ∧ fr (fun g => g = n + 1 ∨ g = n + 4 ∨ g = n + 5) z z1) := by
  obtain ⟨C, l, h1, h2, h3, h4, h5⟩ := bm_len h hP
  rw [hx, hu]
  refine w_monoE (tn_add hn h2 (by omega)) (fun z1 ⟨g1, g2⟩ => ⟨⟨C, l ++ [i], h1, by rw [List.map_append]; exact g1, ?_, fun j => ?_⟩, g2⟩)
  · rw [← List.append_assoc, List.nodup_append]
    refine ⟨h3, by simp, fun a ha b hb e => hi ((h4 i).mp ?_)⟩
    have : b = i := by simpa using hb
    rw [← this, ← e]
    exact ha
  · rw [← List.append_assoc, List.mem_append, h4 j, List.mem_singleton]
theorem bm_end {n q : Nat} {z : ow_MS} {A : rn_L} {P : Nat → Prop} (hn : mw_net n) (hq : q < 39) (h : bm z n A P q) : Te (fun K => qe_X12_end K n z) (fun z1 => bmE z1 n A P (q + 1) ∧ fr (fun g => g = n + 2 ∨ g = n + 3) z z1) := by
  obtain ⟨C, l, h1, h2, h3, h4⟩ := h
  have e : (C ++ [l]).flatten = C.flatten ++ l := by rw [List.flatten_append]; simp
  refine w_monoE (tn_end hn h2 (by rw [List.length_map]; omega)) (fun z1 ⟨g1, g2⟩ => ⟨⟨C ++ [l], by rw [List.length_append, h1]; rfl, by rw [List.map_append]; exact g1, by rw [e]; exact h3, fun j => by rw [e]; exact h4 j⟩, g2⟩)
/-- what is closed under mates may be kept -/
def s1 (x : Int32) : Prop := x = 1 ∨ x = -1
theorem s1_if {b : Bool} {x : Int32} (h : x = if b then -1 else 1) : s1 x := by
  cases b
  · exact Or.inl h
  · exact Or.inr h
theorem s1_sg {x : Int32} (h : s1 x) : x = if decide (x = -1) then -1 else 1 := by
  rcases h with h | h <;> rw [h] <;> decide
theorem bmE_net {z : ow_MS} {n q : Nat} {A : rn_L} {P : Nat → Prop} (hF : wkF A.flatten) (hl : A.flatten.length ≤ 24) (hq : q ≤ 6) (hP : ∀ j, P j → j < A.flatten.length) (hc : ∀ j, P j → P (mtf A j)) (hs : ∀ j, P j → s1 (z.2.1 (n + 6) (crs A j))) (h : bmE z n A P q) : mNet z n := by
  obtain ⟨C, h1, h2, h3, h4⟩ := h
  have hd := wkF_ok hF
  have inj : ∀ i j, i < A.flatten.length → j < A.flatten.length → vAt A i = vAt A j → i = j := fun i j hi hj e => nodup_at hF.1 (vAt_of hi) (by rw [e]; exact vAt_of hj)
  have hlen : C.flatten.length ≤ A.flatten.length := by
    have := nodup_le C.flatten (List.range A.flatten.length) h3 (fun j hj => List.mem_range.mpr (hP j ((h4 j).mp hj)))
    rw [List.length_range] at this
    exact this
  refine ⟨C.map (List.map (vAt A)), fun x => decide (z.2.1 (n + 6) x = -1), h2, fun p hp => ?_, ⟨?_, fun p hp => ?_⟩, ?_, ?_⟩
  · rw [fl_map] at hp
    obtain ⟨j, hj, e⟩ := List.mem_map.mp hp
    rw [← e]
    exact s1_sg (hs j ((h4 j).mp hj))
  · rw [fl_map]
    exact nodup_map h3 (fun i j hi hj e => inj i j (hP i ((h4 i).mp hi)) (hP j ((h4 j).mp hj)) e)
  · rw [fl_map] at hp ⊢
    obtain ⟨j, hj, e⟩ := List.mem_map.mp hp
    have hjP := (h4 j).mp hj
    have hjl := hP j hjP
    obtain ⟨g1, g2, -⟩ := hF.2 _ (List.mem_of_getElem? (vAt_of hjl))
    rw [← e]
    refine ⟨g1, g2, ?_⟩
    have hm := mtf_mt hd hjl
    obtain ⟨n1, p1, p2, a1, a2, a3⟩ := hm
    rw [vAt_of hjl] at a1
    cases a1
    have hml := hP _ (hc j hjP)
    have e2 := vAt_eq a2
    obtain ⟨-, k2, -⟩ := hF.2 _ (List.mem_of_getElem? a2)
    refine List.mem_map.mpr ⟨mtf A j, (h4 _).mpr (hc j hjP), ?_⟩
    have hne : (vAt A j).2 ≠ p2.2 := fun e9 => n1 (inj j (mtf A j) hjl hml (by rw [e2]; exact Prod.ext a3 e9))
    rw [e2]
    exact Prod.ext a3.symm (by show p2.2 = 1 - (vAt A j).2; omega)
  · rw [fl_map, List.length_map]
    omega
  · rw [List.length_map]
    omega
theorem mtf_mtf {A : rn_L} {v : Nat} (hd : rn_ok A.flatten) (hv : v < A.flatten.length) : mtf A (mtf A v) = v := mtf_eq hd (mtf_mt hd hv).symm
theorem mtf_lt {A : rn_L} {v : Nat} (hd : rn_ok A.flatten) (hv : v < A.flatten.length) : mtf A v < A.flatten.length := (rn_mt_lt (mtf_mt hd hv)).2
/-! what a linked net says of a visit -/
theorem lk_cu {z : ow_MS} {n i : Nat} {A : rn_L} (h : rn_lk z n A) (hi : i < A.flatten.length) : z.2.1 (n + 4) i = nI (crs A i) ∧ z.2.1 (n + 5) i = nI (uns A i) := h.1.2.2.2 i _ (by rw [List.append_nil]; exact vAt_of hi)
theorem lk_b {z : ow_MS} {n c : Nat} {A : rn_L} (h : rn_lk z n A) (hc : c ≤ A.length) : z.2.1 (n + 3) c = nI (rn_b A c) := h.1.2.2.1 c hc
theorem lk_c {z : ow_MS} {n i : Nat} {A : rn_L} (h : rn_lk z n A) (hi : i < A.flatten.length) : z.2.1 (n + 8) i = nI (rn_c A i) := (h.2.1 i hi).1
theorem lk_n {z : ow_MS} {n i : Nat} {A : rn_L} (h : rn_lk z n A) (hi : i < A.flatten.length) : z.2.1 (n + 9) i = nI (rn_nx A i) := (h.2.1 i hi).2.1
theorem lk_p {z : ow_MS} {n i : Nat} {A : rn_L} (h : rn_lk z n A) (hi : i < A.flatten.length) : z.2.1 (n + 10) i = nI (rn_pv A i) := (h.2.1 i hi).2.2
theorem lk_m {z : ow_MS} {n i : Nat} {A : rn_L} (hd : rn_ok A.flatten) (h : rn_lk z n A) (hi : i < A.flatten.length) : z.2.1 (n + 7) i = nI (mtf A i) := h.2.2.2 i _ hi (mtf_lt hd hi) (mtf_mt hd hi)
theorem lk_C {z : ow_MS} {n : Nat} {A : rn_L} (h : rn_lk z n A) : z.1 (n + 2) = nI A.length := h.1.2.1
/-- an opened net -/
def oNet (z : ow_MS) (n : Nat) (A : rn_L) (sg : Nat → Bool) : Prop := rn_lk z n A ∧ rn_sg z n A.flatten sg ∧ (∃ c, okF A.flatten c ∧ c ≤ 12) ∧ A.length ≤ 6
theorem oNet_fr {F : Nat → Prop} {z z1 : ow_MS} {n : Nat} {A : rn_L} {sg : Nat → Bool} (hf : fr F z z1) (hF : ∀ g, F g → g < n + 1 ∨ n + 11 < g) (h : oNet z n A sg) : oNet z1 n A sg := by
  obtain ⟨h1, h2, h3⟩ := h
  refine ⟨fr_lk hf (fun g hg => by have := hF g hg; omega) h1, fun p hp => ?_, h3⟩
  rw [(hf (n + 6) (fun h9 => by have := hF _ h9; omega)).2.1]
  exact h2 p hp
theorem oNet.wk {z : ow_MS} {n : Nat} {A : rn_L} {sg : Nat → Bool} (h : oNet z n A sg) : wkF A.flatten := by
  obtain ⟨-, -, ⟨c, h1, h2⟩, -⟩ := h
  exact okF_wk (by omega) h1
theorem oNet.len {z : ow_MS} {n : Nat} {A : rn_L} {sg : Nat → Bool} (h : oNet z n A sg) : A.flatten.length ≤ 24 := by
  obtain ⟨-, -, ⟨c, h1, h2⟩, -⟩ := h
  have := okF_len h1
  omega
theorem oNet.cx {z : ow_MS} {n i : Nat} {A : rn_L} {sg : Nat → Bool} (h : oNet z n A sg) (hi : i < A.flatten.length) : crs A i < 12 ∧ uns A i < 2 ∧ z.2.1 (n + 6) (crs A i) = if sg (crs A i) then -1 else 1 := by
  obtain ⟨-, h2, ⟨c, h1, h3⟩, -⟩ := h
  have hm := List.mem_of_getElem? (vAt_of hi)
  obtain ⟨a1, a2⟩ := (h1.2 _).mp hm
  have a1 : crs A i < c := a1
  exact ⟨by omega, a2, h2 _ hm⟩
theorem to_open {z : ow_MS} {n d : Nat} {A : rn_L} {sg : Nat → Bool} (hn : mw_net n) (hd : d < 40) (hv : vRow z 12 (32 * d) A sg) : Te (fun K => qe_X13_open K (nI d) n z) (fun z1 => oNet z1 n A sg ∧ fr (fun g => n + 1 ≤ g ∧ g ≤ n + 11) z z1) := w_monoE (tm_open hn hd hv) (fun _ ⟨h1, h2, h3⟩ => ⟨⟨h1, h2, hv.2.1, hv.2.2⟩, h3⟩)
section PUB
variable {X : (Nat → Nat → Int32) → Prop} {z z1 : ow_MS}
theorem gI_1 {c : Int32} (h : gI X z) : gI X (usF z 1 c) := gI_fr (P := fun g => g = 1) (fr_F rfl) (fun g hg => by rw [hg]; decide) h
theorem w_fail {c : Int32} (h : gI X z) : Tt (fun K _ => cs1 (qe_X13_fails K c z) fun v z1 => some (v, z1)) (fun r => gI X r.2) := w_cs1 tm_fails (fun a z1 e => by
  cases e
  exact w_some (gI_1 h))
theorem gI_net {n : Nat} (hn : mw_net n) {P : Nat → Prop} (hf : fr P z z1) (hP : ∀ g, P g → n + 1 ≤ g ∧ g ≤ n + 20) (h : gI X z) : gI X z1 := gI_fr hf (fun g hg => by
  have := hP g hg
  have := net_mod hn
  unfold per
  omega) h
end PUB
end
section
/-! 99zzm.pubA -/
/-! public methods of the reference: feed .. visit .. join have an answer -/
section PUBA
variable {X : (Nat → Nat → Int32) → Prop} {z : ow_MS}
theorem u_X13_feed_1 {x1 : Int32} {x2 : Int32} {x3 : Int32} {x4 : Int32} {x5 : Int32} {x6 : Int32} {t0 : Int32} {z : ow_MS} {Q : (Int32 × ow_MS) → Prop} (H : Tt (fun K k => qm_X13_feed_1 K (q_X13_feed K k) x1 x2 x3 x4 x5 x6 t0 z) Q) : Tt (fun K k => q_X13_feed K k 1 x1 x2 x3 x4 x5 x6 t0 z) Q := w_un (fun _ _ => rfl) H
theorem u_X13_feed_2 {x1 : Int32} {x2 : Int32} {x3 : Int32} {x4 : Int32} {x5 : Int32} {x6 : Int32} {t0 : Int32} {z : ow_MS} {Q : (Int32 × ow_MS) → Prop} (H : Tt (fun K k => qm_X13_feed_2 K (q_X13_feed K k) x1 x2 x3 x4 x5 x6 t0 z) Q) : Tt (fun K k => q_X13_feed K k 2 x1 x2 x3 x4 x5 x6 t0 z) Q := w_un (fun _ _ => rfl) H
theorem e_X13_feed {x1 : Int32} {x2 : Int32} {x3 : Int32} {x4 : Int32} {x5 : Int32} {z : ow_MS} {Q : (Int32 × ow_MS) → Prop} (H : Tt (fun K k => q_X13_feed K k 0 x1 x2 x3 x4 x5 0 0 z) Q) : Te (fun K => qe_X13_feed K x1 x2 x3 x4 x5 z) Q := w_te H
theorem u_X13_feed_0 {x1 : Int32} {x2 : Int32} {x3 : Int32} {x4 : Int32} {x5 : Int32} {x6 : Int32} {t0 : Int32} {z : ow_MS} {Q : (Int32 × ow_MS) → Prop} (H : Tt (fun K k => qm_X13_feed_0 K (q_X13_feed K k) x1 x2 x3 x4 x5 x6 t0 z) Q) : Tt (fun K k => q_X13_feed K k 0 x1 x2 x3 x4 x5 x6 t0 z) Q := w_un (fun _ _ => rfl) H
theorem gI_t {t : Nat} {x : Int32} (hx : x = nI t) (ht : t ≤ 400) (h : gI X z) : gI X (usF z 11 x) := by
  subst hx
  have hf : fr (fun g => g = 11) z (usF z 11 (nI t)) := fr_F rfl
  obtain ⟨-, r⟩ := h
  exact ⟨⟨t, ht, po_usF_at⟩, gRows_fr hf (by decide) r.1, gList_fr hf (by decide) (by decide) (by decide) r.2.1, gSum_fr hf (by decide) (by decide) (by decide) r.2.2.1, gCash_fr hf (by decide) (by decide) (by decide) (by decide) (by decide) r.2.2.2.1, gBrs_fr hf (by decide) (by decide) (by decide) r.2.2.2.2.1, r.2.2.2.2.2⟩
theorem u_X13_end_1 {x1 : Int32} {z : ow_MS} {Q : ow_MS → Prop} (H : Tt (fun K k => qm_X13_end_1 K (q_X13_end K k) x1 z) Q) : Tt (fun K k => q_X13_end K k 1 x1 z) Q := w_un (fun _ _ => rfl) H
theorem e_X13_end {x1 : Int32} {z : ow_MS} {Q : ow_MS → Prop} (H : Tt (fun K k => q_X13_end K k 0 x1 z) Q) : Te (fun K => qe_X13_end K x1 z) Q := w_te H
theorem u_X13_end_0 {x1 : Int32} {z : ow_MS} {Q : ow_MS → Prop} (H : Tt (fun K k => qm_X13_end_0 K (q_X13_end K k) x1 z) Q) : Tt (fun K k => q_X13_end K k 0 x1 z) Q := w_un (fun _ _ => rfl) H
theorem e_X13_drop {x1 : Int32} {z : ow_MS} {Q : (Int32 × ow_MS) → Prop} (H : Tt (fun K _ => qm_X13_drop_0 K x1 z) Q) : Te (fun K => qe_X13_drop K x1 z) Q := w_te0 H
/-- the beginning that most methods share -/
theorem w_has {O : Type} {x : Int32} {Q : O → Prop} {B : Int32 → ow_MS → Nat → Nat → Option O} (h : gRows z) (H0 : Tt (B 0 z) Q) (H1 : ∀ d A sg, d < 40 → x = nI d → vRow z 12 (32 * d) A sg → A ≠ [] → Tt (B 1 z) Q) : Tt (fun K k => cs1 (qe_X13_has K x z) fun v z1 => B v z1 K k) Q := by
  refine w_cs1 (tm_has h) (fun a z1 ⟨e, h9⟩ => ?_)
  have e : z1 = z := e
  subst e
  rcases h9 with h9 | ⟨h9, d, A, sg, hd, he, hv, hne⟩
  · have h9 : a = 0 := h9
    rw [h9]
    exact H0
  · have h9 : a = 1 := h9
    rw [h9]
    exact H1 d A sg hd he hv hne
/-- a place is looked for: none, or one that keep will find again -/
theorem w_free {O : Type} {Q : O → Prop} {B : Int32 → ow_MS → Nat → Nat → Option O} (H0 : Tt (B (-1) z) Q) (H1 : ∀ d, d < 40 → frD z → Tt (B (nI d) z) Q) : Tt (fun K k => cs1 (qe_X13_free K z) fun v z1 => B v z1 K k) Q := by
  refine w_cs1 tm_free (fun a z1 ⟨e, h2⟩ => ?_)
  have e : z1 = z := e
  subst e
  rcases h2 with ⟨h2, -⟩ | ⟨d, hd, h2, h3, -⟩
  · have h2 : a = -1 := h2
    rw [h2]
    exact H0
  · have h2 : a = nI d := h2
    rw [h2]
    exact H1 d hd ⟨d, hd, h3⟩
theorem w_keep (h : gI X z) (hf : frD z) (hM : mNet z 3000) : Tt (fun K _ => cs1 (qe_X13_keep K z) fun v z1 => some (v, z1)) (fun r => gI X r.2) := w_cs1 (tm_keep h hf hM) (fun _ _ h9 => w_some h9.1)
theorem u_X13_circlesOf_1 {x2 : Int32} {x3 : Int32} {r1 : Nat} {t0 : Int32} {t1 : Int32} {z : ow_MS} {Q : (Int32 × ow_MS) → Prop} (H : Tt (fun K k => qm_X13_circlesOf_1 K (q_X13_circlesOf K k) x2 x3 r1 t0 t1 z) Q) : Tt (fun K k => q_X13_circlesOf K k 1 x2 x3 r1 t0 t1 z) Q := w_un (fun _ _ => rfl) H
theorem u_X13_circlesOf_2 {x2 : Int32} {x3 : Int32} {r1 : Nat} {t0 : Int32} {t1 : Int32} {z : ow_MS} {Q : (Int32 × ow_MS) → Prop} (H : Tt (fun K k => qm_X13_circlesOf_2 K (q_X13_circlesOf K k) x2 x3 r1 t0 t1 z) Q) : Tt (fun K k => q_X13_circlesOf K k 2 x2 x3 r1 t0 t1 z) Q := w_un (fun _ _ => rfl) H
theorem e_X13_circlesOf {r1 : Nat} {z : ow_MS} {Q : (Int32 × ow_MS) → Prop} (H : Tt (fun K k => q_X13_circlesOf K k 0 0 0 r1 0 0 z) Q) : Te (fun K => qe_X13_circlesOf K r1 z) Q := w_te H
theorem u_X13_circlesOf_0 {x2 : Int32} {x3 : Int32} {r1 : Nat} {t0 : Int32} {t1 : Int32} {z : ow_MS} {Q : (Int32 × ow_MS) → Prop} (H : Tt (fun K k => qm_X13_circlesOf_0 K (q_X13_circlesOf K k) x2 x3 r1 t0 t1 z) Q) : Tt (fun K k => q_X13_circlesOf K k 0 x2 x3 r1 t0 t1 z) Q := w_un (fun _ _ => rfl) H
theorem u_X13_writheOf_1 {x1 : Int32} {x2 : Int32} {r0 : Nat} {t0 : Int32} {t1 : Int32} {z : ow_MS} {Q : (Int32 × ow_MS) → Prop} (H : Tt (fun K k => qm_X13_writheOf_1 K (q_X13_writheOf K k) x1 x2 r0 t0 t1 z) Q) : Tt (fun K k => q_X13_writheOf K k 1 x1 x2 r0 t0 t1 z) Q := w_un (fun _ _ => rfl) H
theorem u_X13_writheOf_2 {x1 : Int32} {x2 : Int32} {r0 : Nat} {t0 : Int32} {t1 : Int32} {z : ow_MS} {Q : (Int32 × ow_MS) → Prop} (H : Tt (fun K k => qm_X13_writheOf_2 K (q_X13_writheOf K k) x1 x2 r0 t0 t1 z) Q) : Tt (fun K k => q_X13_writheOf K k 2 x1 x2 r0 t0 t1 z) Q := w_un (fun _ _ => rfl) H
theorem e_X13_writheOf {r0 : Nat} {z : ow_MS} {Q : (Int32 × ow_MS) → Prop} (H : Tt (fun K k => q_X13_writheOf K k 0 0 0 r0 0 0 z) Q) : Te (fun K => qe_X13_writheOf K r0 z) Q := w_te H
theorem u_X13_writheOf_0 {x1 : Int32} {x2 : Int32} {r0 : Nat} {t0 : Int32} {t1 : Int32} {z : ow_MS} {Q : (Int32 × ow_MS) → Prop} (H : Tt (fun K k => qm_X13_writheOf_0 K (q_X13_writheOf K k) x1 x2 r0 t0 t1 z) Q) : Tt (fun K k => q_X13_writheOf K k 0 x1 x2 r0 t0 t1 z) Q := w_un (fun _ _ => rfl) H
theorem e_X13_figure {x1 : Int32} {x2 : Int32} {z : ow_MS} {Q : (Int32 × ow_MS) → Prop} (H : Tt (fun K k => q_X13_figure K k 0 x1 x2 0 z) Q) : Te (fun K => qe_X13_figure K x1 x2 z) Q := w_te H
theorem u_X13_figure_0 {x1 : Int32} {x2 : Int32} {x3 : Int32} {z : ow_MS} {Q : (Int32 × ow_MS) → Prop} (H : Tt (fun K k => qm_X13_figure_0 K (q_X13_figure K k) x1 x2 x3 z) Q) : Tt (fun K k => q_X13_figure K k 0 x1 x2 x3 z) Q := w_un (fun _ _ => rfl) H
theorem u_X13_figure_1 {x1 : Int32} {x2 : Int32} {x3 : Int32} {z : ow_MS} {Q : (Int32 × ow_MS) → Prop} (H : Tt (fun K k => qm_X13_figure_1 K (q_X13_figure K k) x1 x2 x3 z) Q) : Tt (fun K k => q_X13_figure K k 1 x1 x2 x3 z) Q := w_un (fun _ _ => rfl) H
theorem u_X13_figure_2 {x1 : Int32} {x2 : Int32} {x3 : Int32} {z : ow_MS} {Q : (Int32 × ow_MS) → Prop} (H : Tt (fun K k => qm_X13_figure_2 K (q_X13_figure K k) x1 x2 x3 z) Q) : Tt (fun K k => q_X13_figure K k 2 x1 x2 x3 z) Q := w_un (fun _ _ => rfl) H
theorem e_X13_visit {x1 : Int32} {x2 : Int32} {x3 : Int32} {z : ow_MS} {Q : (Int32 × ow_MS) → Prop} (H : Tt (fun K k => q_X13_visit K k 0 x1 x2 x3 z) Q) : Te (fun K => qe_X13_visit K x1 x2 x3 z) Q := w_te H
theorem u_X13_visit_0 {x1 : Int32} {x2 : Int32} {x3 : Int32} {z : ow_MS} {Q : (Int32 × ow_MS) → Prop} (H : Tt (fun K k => qm_X13_visit_0 K (q_X13_visit K k) x1 x2 x3 z) Q) : Tt (fun K k => q_X13_visit K k 0 x1 x2 x3 z) Q := w_un (fun _ _ => rfl) H
theorem u_X13_visit_1 {x1 : Int32} {x2 : Int32} {x3 : Int32} {z : ow_MS} {Q : (Int32 × ow_MS) → Prop} (H : Tt (fun K k => qm_X13_visit_1 K (q_X13_visit K k) x1 x2 x3 z) Q) : Tt (fun K k => q_X13_visit K k 1 x1 x2 x3 z) Q := w_un (fun _ _ => rfl) H
theorem e_X13_linking {x1 : Int32} {x2 : Int32} {x3 : Int32} {z : ow_MS} {Q : (Int32 × ow_MS) → Prop} (H : Tt (fun K k => q_X13_linking K k 0 x1 x2 x3 0 0 z) Q) : Te (fun K => qe_X13_linking K x1 x2 x3 z) Q := w_te H
theorem u_X13_linking_0 {x1 : Int32} {x2 : Int32} {x3 : Int32} {x4 : Int32} {x5 : Int32} {z : ow_MS} {Q : (Int32 × ow_MS) → Prop} (H : Tt (fun K k => qm_X13_linking_0 K (q_X13_linking K k) x1 x2 x3 x4 x5 z) Q) : Tt (fun K k => q_X13_linking K k 0 x1 x2 x3 x4 x5 z) Q := w_un (fun _ _ => rfl) H
theorem u_X13_linking_1 {x1 : Int32} {x2 : Int32} {x3 : Int32} {x4 : Int32} {x5 : Int32} {z : ow_MS} {Q : (Int32 × ow_MS) → Prop} (H : Tt (fun K k => qm_X13_linking_1 K (q_X13_linking K k) x1 x2 x3 x4 x5 z) Q) : Tt (fun K k => q_X13_linking K k 1 x1 x2 x3 x4 x5 z) Q := w_un (fun _ _ => rfl) H
theorem u_X13_linking_2 {x1 : Int32} {x2 : Int32} {x3 : Int32} {x4 : Int32} {x5 : Int32} {z : ow_MS} {Q : (Int32 × ow_MS) → Prop} (H : Tt (fun K k => qm_X13_linking_2 K (q_X13_linking K k) x1 x2 x3 x4 x5 z) Q) : Tt (fun K k => q_X13_linking K k 2 x1 x2 x3 x4 x5 z) Q := w_un (fun _ _ => rfl) H
theorem u_X13_linking_3 {x1 : Int32} {x2 : Int32} {x3 : Int32} {x4 : Int32} {x5 : Int32} {z : ow_MS} {Q : (Int32 × ow_MS) → Prop} (H : Tt (fun K k => qm_X13_linking_3 K (q_X13_linking K k) x1 x2 x3 x4 x5 z) Q) : Tt (fun K k => q_X13_linking K k 3 x1 x2 x3 x4 x5 z) Q := w_un (fun _ _ => rfl) H
theorem e_X13_alike {x1 : Int32} {x2 : Int32} {z : ow_MS} {Q : (Int32 × ow_MS) → Prop} (H : Tt (fun K _ => qm_X13_alike_0 K x1 x2 z) Q) : Te (fun K => qe_X13_alike K x1 x2 z) Q := w_te0 H
end PUBA
end
section
/-! 99zzn.pubB -/
/-! public methods of the reference: mirror .. join -/
def flp (b : Nat → Bool) (p : Nat × Nat) : Nat × Nat := if b p.1 then (p.1, 1 - p.2) else p
theorem flp_1 {b : Nat → Bool} {p : Nat × Nat} : (flp b p).1 = p.1 := by
  unfold flp
  by_cases h : b p.1 = true
  · rw [if_pos h]
  · rw [if_neg h]
theorem flp_2 {b : Nat → Bool} {p : Nat × Nat} : (flp b p).2 = if b p.1 then 1 - p.2 else p.2 := by
  unfold flp
  by_cases h : b p.1 = true
  · rw [if_pos h, if_pos h]
  · rw [if_neg h, if_neg h]
theorem wkF_flp {F : List (Nat × Nat)} {b : Nat → Bool} (h : wkF F) : wkF (F.map (flp b)) := by
  refine ⟨nodup_map h.1 (fun p q hp hq e => ?_), fun p hp => ?_⟩
  · have e1 := congrArg Prod.fst e
    have e2 := congrArg Prod.snd e
    rw [flp_1, flp_1] at e1
    rw [flp_2, flp_2, e1] at e2
    have p2 := (h.2 p hp).2.1
    have q2 := (h.2 q hq).2.1
    refine Prod.ext e1 ?_
    by_cases hb : b q.1 = true
    · rw [if_pos hb, if_pos hb] at e2; omega
    · rw [if_neg hb, if_neg hb] at e2; exact e2
  · obtain ⟨q, hq, e⟩ := List.mem_map.mp hp
    obtain ⟨h1, h2, h3⟩ := h.2 q hq
    rw [← e]
    refine ⟨by rw [flp_1]; exact h1, ?_, List.mem_map.mpr ⟨(q.1, 1 - q.2), h3, Prod.ext ?_ ?_⟩⟩
    · rw [flp_2]
      by_cases hb : b q.1 = true
      · rw [if_pos hb]; omega
      · rw [if_neg hb]; exact h2
    · rw [flp_1, flp_1]
    · rw [flp_2, flp_2]
      show (if b q.1 then 1 - (1 - q.2) else 1 - q.2) = 1 - if b q.1 then 1 - q.2 else q.2
      by_cases hb : b q.1 = true
      · rw [if_pos hb, if_pos hb]
      · rw [if_neg hb, if_neg hb]
theorem fl_map2 {f : Nat × Nat → Nat × Nat} : ∀ A : rn_L, (A.map (List.map f)).flatten = A.flatten.map f
  | [] => rfl
  | B :: A => by rw [List.map_cons, List.flatten_cons, fl_map2 A, List.flatten_cons, List.map_append]
/-- a net whose visits are changed in place -/
theorem At_map {z z1 : ow_MS} {n : Nat} {A : rn_L} {f : Nat × Nat → Nat × Nat} (h : rn_At z n A []) (e1 : z1.1 (n + 1) = z.1 (n + 1)) (e2 : z1.1 (n + 2) = z.1 (n + 2)) (e3 : z1.2.1 (n + 3) = z.2.1 (n + 3)) (h4 : ∀ v, v < A.flatten.length → z1.2.1 (n + 4) v = nI (f (vAt A v)).1 ∧ z1.2.1 (n + 5) v = nI (f (vAt A v)).2) : rn_At z1 n (A.map (List.map f)) [] := by
  obtain ⟨a1, a2, a3, a4⟩ := h
  refine ⟨?_, ?_, fun c hc => ?_, fun v p hv => ?_⟩
  · rw [e1, a1, List.append_nil, List.append_nil, fl_map2, List.length_map]
  · rw [e2, a2, List.length_map]
  · rw [List.length_map] at hc
    rw [e3, a3 c hc, ← List.map_take, fl_map2, List.length_map]
  · rw [List.append_nil, fl_map2, List.getElem?_map] at hv
    cases hq : A.flatten[v]? with
    | none => rw [hq] at hv; cases hv
    | some q =>
      rw [hq] at hv
      cases hv
      have := h4 v (List.getElem?_eq_some_iff.mp hq).1
      rw [vAt_eq hq] at this
      exact this
section PUBB
variable {X : (Nat → Nat → Int32) → Prop} {z : ow_MS}
theorem e_X13_mirror {x1 : Int32} {z : ow_MS} {Q : (Int32 × ow_MS) → Prop} (H : Tt (fun K k => q_X13_mirror K k 0 x1 0 z) Q) : Te (fun K => qe_X13_mirror K x1 z) Q := w_te H
theorem u_X13_mirror_0 {x1 : Int32} {x2 : Int32} {z : ow_MS} {Q : (Int32 × ow_MS) → Prop} (H : Tt (fun K k => qm_X13_mirror_0 K (q_X13_mirror K k) x1 x2 z) Q) : Tt (fun K k => q_X13_mirror K k 0 x1 x2 z) Q := w_un (fun _ _ => rfl) H
theorem u_X13_mirror_2 {x1 : Int32} {x2 : Int32} {z : ow_MS} {Q : (Int32 × ow_MS) → Prop} (H : Tt (fun K k => qm_X13_mirror_2 K (q_X13_mirror K k) x1 x2 z) Q) : Tt (fun K k => q_X13_mirror K k 2 x1 x2 z) Q := w_un (fun _ _ => rfl) H
theorem u_X13_mirror_1 {x1 : Int32} {x2 : Int32} {z : ow_MS} {Q : (Int32 × ow_MS) → Prop} (H : Tt (fun K k => qm_X13_mirror_1 K (q_X13_mirror K k) x1 x2 z) Q) : Tt (fun K k => q_X13_mirror K k 1 x1 x2 z) Q := w_un (fun _ _ => rfl) H
theorem u_X13_changeIn_1 {x1 : Int32} {x2 : Int32} {r0 : Nat} {z : ow_MS} {Q : ow_MS → Prop} (H : Tt (fun K k => qm_X13_changeIn_1 K (q_X13_changeIn K k) x1 x2 r0 z) Q) : Tt (fun K k => q_X13_changeIn K k 1 x1 x2 r0 z) Q := w_un (fun _ _ => rfl) H
theorem u_X13_changeIn_2 {x1 : Int32} {x2 : Int32} {r0 : Nat} {z : ow_MS} {Q : ow_MS → Prop} (H : Tt (fun K k => qm_X13_changeIn_2 K (q_X13_changeIn K k) x1 x2 r0 z) Q) : Tt (fun K k => q_X13_changeIn K k 2 x1 x2 r0 z) Q := w_un (fun _ _ => rfl) H
theorem e_X13_changeIn {r0 : Nat} {x1 : Int32} {z : ow_MS} {Q : ow_MS → Prop} (H : Tt (fun K k => q_X13_changeIn K k 0 x1 0 r0 z) Q) : Te (fun K => qe_X13_changeIn K r0 x1 z) Q := w_te H
theorem u_X13_changeIn_0 {x1 : Int32} {x2 : Int32} {r0 : Nat} {z : ow_MS} {Q : ow_MS → Prop} (H : Tt (fun K k => qm_X13_changeIn_0 K (q_X13_changeIn K k) x1 x2 r0 z) Q) : Tt (fun K k => q_X13_changeIn K k 0 x1 x2 r0 z) Q := w_un (fun _ _ => rfl) H
theorem tp_changeIn {n x : Nat} {A : rn_L} (hn : mw_net n) (hl : A.flatten.length ≤ 40) (hx : x < 40) (hu2 : ∀ v, v < A.flatten.length → uns A v < 2 ∧ crs A v < 40) (hA : rn_At z n A []) : Te (fun K => qe_X13_changeIn K n (nI x) z) (fun z1 => rn_At z1 n (A.map (List.map (flp (fun y => decide (y = x))))) [] ∧ fr (fun g => g = n + 5 ∨ g = n + 6) z z1 ∧ z1.2.1 (n + 6) x = 0 - z.2.1 (n + 6) x ∧ ∀ y, y ≠ x → z1.2.1 (n + 6) y = z.2.1 (n + 6) y) := by
  have aV : ∀ {y : ow_MS}, fr (fun g => g = n + 5) z y → y.1 (n + 1) = nI A.flatten.length := fun hf => by rw [(hf (n + 1) (by omega)).1, hA.1, List.append_nil]
  have key : ∀ (k v : Nat) (z1 : ow_MS), v + k = A.flatten.length → fr (fun g => g = n + 5) z z1 → (∀ w, w < v → z1.2.1 (n + 5) w = nI (flp (fun y => decide (y = x)) (vAt A w)).2) → (∀ w, v ≤ w → z1.2.1 (n + 5) w = z.2.1 (n + 5) w) → Tt (fun K i => q_X13_changeIn K i 1 (nI x) (nI v) n z1) (fun z1 => rn_At z1 n (A.map (List.map (flp (fun y => decide (y = x))))) [] ∧ fr (fun g => g = n + 5 ∨ g = n + 6) z z1 ∧ z1.2.1 (n + 6) x = 0 - z.2.1 (n + 6) x ∧ ∀ y, y ≠ x → z1.2.1 (n + 6) y = z.2.1 (n + 6) y) := by
    intro k
    induction k with
    | zero =>
      intro v z1 hv hf hu hu9
      have e6 := (hf (n + 6) (by omega)).2.1
      refine u_X13_changeIn_1 ?_; unfold qm_X13_changeIn_1
      refine w_rdF (aV hf) (w_leT (by omega) (by omega) (w_rdI (pl6 hn) rfl hx rfl (w_wrI (pl6 hn) rfl hx (w_some ⟨?_, fr_I2 (fr_mono (fun g hg => Or.inl hg) hf) (Or.inr rfl), by rw [po_usI_at, e6], fun y hy => by rw [po_usI_ne hy, e6]⟩))))
      refine At_map hA (hf (n + 1) (by omega)).1 (hf (n + 2) (by omega)).1 (by rw [po_usI_ot (by omega)]; exact (hf (n + 3) (by omega)).2.1) (fun w hw => ⟨rd_ot (by omega) ?_, rd_ot (by omega) (hu w (by omega))⟩)
      rw [(hf (n + 4) (by omega)).2.1, flp_1]
      exact (hA.2.2.2 w _ (by rw [List.append_nil]; exact vAt_of hw)).1
    | succ k ih =>
      intro v z1 hv hf hu hu9
      have hvl : v < A.flatten.length := by omega
      obtain ⟨u1, u2⟩ := hu2 v hvl
      obtain ⟨c4, c5⟩ := hA.2.2.2 v _ (by rw [List.append_nil]; exact vAt_of hvl)
      have c4' : z1.2.1 (n + 4) v = nI (crs A v) := by rw [(hf (n + 4) (by omega)).2.1]; exact c4
      have c5' : z1.2.1 (n + 5) v = nI (uns A v) := by rw [hu9 v (Nat.le_refl _)]; exact c5
      refine u_X13_changeIn_1 ?_; unfold qm_X13_changeIn_1
      refine w_rdF (aV hf) (w_leF (by omega) hvl (w_rdI (pl4 hn) rfl (by omega) c4' (w_eqN (by omega) (by omega) (fun h9 => w_rdI (pl5 hn) rfl (by omega) c5' (w_wrI (pl5 hn) rfl (by omega) ?_)) (fun h9 => ?_))))
      · refine u_X13_changeIn_2 ?_; unfold qm_X13_changeIn_2
        rw [nI_1, show (1 : Int32) - nI (uns A v) = nI (1 - uns A v) from pk_sub (a := 1) (by omega)]
        refine ih (v + 1) _ (by omega) (fr_I2 hf rfl) (fun w hw => ?_) (fun w hw => rd_ne (by omega) (hu9 w (by omega)))
        by_cases hwv : w = v
        · rw [hwv, po_usI_at, flp_2]
          show _ = nI (if decide (crs A v = x) = true then 1 - uns A v else uns A v)
          rw [decide_eq_true h9]
          rfl
        · exact rd_ne hwv (hu w (by omega))
      · refine u_X13_changeIn_2 ?_; unfold qm_X13_changeIn_2
        rw [nI_1]
        refine ih (v + 1) z1 (by omega) hf (fun w hw => ?_) (fun w hw => hu9 w (by omega))
        by_cases hwv : w = v
        · rw [hwv, c5', flp_2]
          show _ = nI (if decide (crs A v = x) = true then 1 - uns A v else uns A v)
          rw [decide_eq_false h9]
          rfl
        · exact hu w (by omega)
  refine e_X13_changeIn ?_
  refine u_X13_changeIn_0 ?_; unfold qm_X13_changeIn_0
  exact key _ 0 z (Nat.zero_add _) fr_rf (fun w hw => by omega) (fun w _ => rfl)
theorem e_X13_change {x1 : Int32} {x2 : Int32} {z : ow_MS} {Q : (Int32 × ow_MS) → Prop} (H : Tt (fun K k => q_X13_change K k 0 x1 x2 z) Q) : Te (fun K => qe_X13_change K x1 x2 z) Q := w_te H
theorem u_X13_change_0 {x1 : Int32} {x2 : Int32} {z : ow_MS} {Q : (Int32 × ow_MS) → Prop} (H : Tt (fun K k => qm_X13_change_0 K (q_X13_change K k) x1 x2 z) Q) : Tt (fun K k => q_X13_change K k 0 x1 x2 z) Q := w_un (fun _ _ => rfl) H
theorem u_X13_change_1 {x1 : Int32} {x2 : Int32} {z : ow_MS} {Q : (Int32 × ow_MS) → Prop} (H : Tt (fun K k => qm_X13_change_1 K (q_X13_change K k) x1 x2 z) Q) : Tt (fun K k => q_X13_change K k 1 x1 x2 z) Q := w_un (fun _ _ => rfl) H
theorem e_X13_reverse {x1 : Int32} {x2 : Int32} {z : ow_MS} {Q : (Int32 × ow_MS) → Prop} (H : Tt (fun K k => q_X13_reverse K k 0 x1 x2 0 0 0 0 0 z) Q) : Te (fun K => qe_X13_reverse K x1 x2 z) Q := w_te H
theorem u_X13_reverse_0 {x1 : Int32} {x2 : Int32} {x3 : Int32} {x4 : Int32} {x5 : Int32} {x6 : Int32} {t0 : Int32} {z : ow_MS} {Q : (Int32 × ow_MS) → Prop} (H : Tt (fun K k => qm_X13_reverse_0 K (q_X13_reverse K k) x1 x2 x3 x4 x5 x6 t0 z) Q) : Tt (fun K k => q_X13_reverse K k 0 x1 x2 x3 x4 x5 x6 t0 z) Q := w_un (fun _ _ => rfl) H
theorem u_X13_reverse_1 {x1 : Int32} {x2 : Int32} {x3 : Int32} {x4 : Int32} {x5 : Int32} {x6 : Int32} {t0 : Int32} {z : ow_MS} {Q : (Int32 × ow_MS) → Prop} (H : Tt (fun K k => qm_X13_reverse_1 K (q_X13_reverse K k) x1 x2 x3 x4 x5 x6 t0 z) Q) : Tt (fun K k => q_X13_reverse K k 1 x1 x2 x3 x4 x5 x6 t0 z) Q := w_un (fun _ _ => rfl) H
theorem u_X13_reverse_2 {x1 : Int32} {x2 : Int32} {x3 : Int32} {x4 : Int32} {x5 : Int32} {x6 : Int32} {t0 : Int32} {z : ow_MS} {Q : (Int32 × ow_MS) → Prop} (H : Tt (fun K k => qm_X13_reverse_2 K (q_X13_reverse K k) x1 x2 x3 x4 x5 x6 t0 z) Q) : Tt (fun K k => q_X13_reverse K k 2 x1 x2 x3 x4 x5 x6 t0 z) Q := w_un (fun _ _ => rfl) H
theorem u_X13_reverse_5 {x1 : Int32} {x2 : Int32} {x3 : Int32} {x4 : Int32} {x5 : Int32} {x6 : Int32} {t0 : Int32} {z : ow_MS} {Q : (Int32 × ow_MS) → Prop} (H : Tt (fun K k => qm_X13_reverse_5 K (q_X13_reverse K k) x1 x2 x3 x4 x5 x6 t0 z) Q) : Tt (fun K k => q_X13_reverse K k 5 x1 x2 x3 x4 x5 x6 t0 z) Q := w_un (fun _ _ => rfl) H
theorem u_X13_reverse_7 {x1 : Int32} {x2 : Int32} {x3 : Int32} {x4 : Int32} {x5 : Int32} {x6 : Int32} {t0 : Int32} {z : ow_MS} {Q : (Int32 × ow_MS) → Prop} (H : Tt (fun K k => qm_X13_reverse_7 K (q_X13_reverse K k) x1 x2 x3 x4 x5 x6 t0 z) Q) : Tt (fun K k => q_X13_reverse K k 7 x1 x2 x3 x4 x5 x6 t0 z) Q := w_un (fun _ _ => rfl) H
theorem u_X13_reverse_6 {x1 : Int32} {x2 : Int32} {x3 : Int32} {x4 : Int32} {x5 : Int32} {x6 : Int32} {t0 : Int32} {z : ow_MS} {Q : (Int32 × ow_MS) → Prop} (H : Tt (fun K k => qm_X13_reverse_6 K (q_X13_reverse K k) x1 x2 x3 x4 x5 x6 t0 z) Q) : Tt (fun K k => q_X13_reverse K k 6 x1 x2 x3 x4 x5 x6 t0 z) Q := w_un (fun _ _ => rfl) H
theorem u_X13_reverse_4 {x1 : Int32} {x2 : Int32} {x3 : Int32} {x4 : Int32} {x5 : Int32} {x6 : Int32} {t0 : Int32} {z : ow_MS} {Q : (Int32 × ow_MS) → Prop} (H : Tt (fun K k => qm_X13_reverse_4 K (q_X13_reverse K k) x1 x2 x3 x4 x5 x6 t0 z) Q) : Tt (fun K k => q_X13_reverse K k 4 x1 x2 x3 x4 x5 x6 t0 z) Q := w_un (fun _ _ => rfl) H
theorem u_X13_reverse_3 {x1 : Int32} {x2 : Int32} {x3 : Int32} {x4 : Int32} {x5 : Int32} {x6 : Int32} {t0 : Int32} {z : ow_MS} {Q : (Int32 × ow_MS) → Prop} (H : Tt (fun K k => qm_X13_reverse_3 K (q_X13_reverse K k) x1 x2 x3 x4 x5 x6 t0 z) Q) : Tt (fun K k => q_X13_reverse K k 3 x1 x2 x3 x4 x5 x6 t0 z) Q := w_un (fun _ _ => rfl) H
end PUBB
end
section
/-! 99zzo.smooth -/
/-! smoothing, and nets side by side -/
theorem rn_b_mono2 {A : rn_L} {a c : Nat} (h : a ≤ c) : rn_b A a ≤ rn_b A c := by
  obtain ⟨d, rfl⟩ : ∃ d, c = a + d := ⟨c - a, by omega⟩
  induction d with
  | zero => exact Nat.le_refl _
  | succ d ih => exact Nat.le_trans (ih (by omega)) (rn_b_mono A (a + d))
theorem at_cu {z : ow_MS} {n i : Nat} {A : rn_L} (h : rn_At z n A []) (hi : i < A.flatten.length) : z.2.1 (n + 4) i = nI (crs A i) ∧ z.2.1 (n + 5) i = nI (uns A i) := h.2.2.2 i _ (by rw [List.append_nil]; exact vAt_of hi)
theorem u_X13_smoothIn_13 {x1 : Int32} {x2 : Int32} {x3 : Int32} {x5 : Int32} {x6 : Int32} {x7 : Int32} {x8 : Int32} {r0 : Nat} {r4 : Nat} {t0 : Int32} {z : ow_MS} {Q : ow_MS → Prop} (H : Tt (fun K k => qm_X13_smoothIn_13 K (q_X13_smoothIn K k) x1 x2 x3 x5 x6 x7 x8 r0 r4 t0 z) Q) : Tt (fun K k => q_X13_smoothIn K k 13 x1 x2 x3 x5 x6 x7 x8 r0 r4 t0 z) Q := w_un (fun _ _ => rfl) H
theorem u_X13_smoothIn_11 {x1 : Int32} {x2 : Int32} {x3 : Int32} {x5 : Int32} {x6 : Int32} {x7 : Int32} {x8 : Int32} {r0 : Nat} {r4 : Nat} {t0 : Int32} {z : ow_MS} {Q : ow_MS → Prop} (H : Tt (fun K k => qm_X13_smoothIn_11 K (q_X13_smoothIn K k) x1 x2 x3 x5 x6 x7 x8 r0 r4 t0 z) Q) : Tt (fun K k => q_X13_smoothIn K k 11 x1 x2 x3 x5 x6 x7 x8 r0 r4 t0 z) Q := w_un (fun _ _ => rfl) H
theorem u_X13_smoothIn_10 {x1 : Int32} {x2 : Int32} {x3 : Int32} {x5 : Int32} {x6 : Int32} {x7 : Int32} {x8 : Int32} {r0 : Nat} {r4 : Nat} {t0 : Int32} {z : ow_MS} {Q : ow_MS → Prop} (H : Tt (fun K k => qm_X13_smoothIn_10 K (q_X13_smoothIn K k) x1 x2 x3 x5 x6 x7 x8 r0 r4 t0 z) Q) : Tt (fun K k => q_X13_smoothIn K k 10 x1 x2 x3 x5 x6 x7 x8 r0 r4 t0 z) Q := w_un (fun _ _ => rfl) H
theorem u_X13_smoothIn_2 {x1 : Int32} {x2 : Int32} {x3 : Int32} {x5 : Int32} {x6 : Int32} {x7 : Int32} {x8 : Int32} {r0 : Nat} {r4 : Nat} {t0 : Int32} {z : ow_MS} {Q : ow_MS → Prop} (H : Tt (fun K k => qm_X13_smoothIn_2 K (q_X13_smoothIn K k) x1 x2 x3 x5 x6 x7 x8 r0 r4 t0 z) Q) : Tt (fun K k => q_X13_smoothIn K k 2 x1 x2 x3 x5 x6 x7 x8 r0 r4 t0 z) Q := w_un (fun _ _ => rfl) H
theorem u_X13_smoothIn_12 {x1 : Int32} {x2 : Int32} {x3 : Int32} {x5 : Int32} {x6 : Int32} {x7 : Int32} {x8 : Int32} {r0 : Nat} {r4 : Nat} {t0 : Int32} {z : ow_MS} {Q : ow_MS → Prop} (H : Tt (fun K k => qm_X13_smoothIn_12 K (q_X13_smoothIn K k) x1 x2 x3 x5 x6 x7 x8 r0 r4 t0 z) Q) : Tt (fun K k => q_X13_smoothIn K k 12 x1 x2 x3 x5 x6 x7 x8 r0 r4 t0 z) Q := w_un (fun _ _ => rfl) H
theorem u_X13_smoothIn_4 {x1 : Int32} {x2 : Int32} {x3 : Int32} {x5 : Int32} {x6 : Int32} {x7 : Int32} {x8 : Int32} {r0 : Nat} {r4 : Nat} {t0 : Int32} {z : ow_MS} {Q : ow_MS → Prop} (H : Tt (fun K k => qm_X13_smoothIn_4 K (q_X13_smoothIn K k) x1 x2 x3 x5 x6 x7 x8 r0 r4 t0 z) Q) : Tt (fun K k => q_X13_smoothIn K k 4 x1 x2 x3 x5 x6 x7 x8 r0 r4 t0 z) Q := w_un (fun _ _ => rfl) H
theorem u_X13_smoothIn_3 {x1 : Int32} {x2 : Int32} {x3 : Int32} {x5 : Int32} {x6 : Int32} {x7 : Int32} {x8 : Int32} {r0 : Nat} {r4 : Nat} {t0 : Int32} {z : ow_MS} {Q : ow_MS → Prop} (H : Tt (fun K k => qm_X13_smoothIn_3 K (q_X13_smoothIn K k) x1 x2 x3 x5 x6 x7 x8 r0 r4 t0 z) Q) : Tt (fun K k => q_X13_smoothIn K k 3 x1 x2 x3 x5 x6 x7 x8 r0 r4 t0 z) Q := w_un (fun _ _ => rfl) H
theorem u_X13_smoothIn_9 {x1 : Int32} {x2 : Int32} {x3 : Int32} {x5 : Int32} {x6 : Int32} {x7 : Int32} {x8 : Int32} {r0 : Nat} {r4 : Nat} {t0 : Int32} {z : ow_MS} {Q : ow_MS → Prop} (H : Tt (fun K k => qm_X13_smoothIn_9 K (q_X13_smoothIn K k) x1 x2 x3 x5 x6 x7 x8 r0 r4 t0 z) Q) : Tt (fun K k => q_X13_smoothIn K k 9 x1 x2 x3 x5 x6 x7 x8 r0 r4 t0 z) Q := w_un (fun _ _ => rfl) H
theorem e_X13_smoothIn {r0 : Nat} {x1 : Int32} {x2 : Int32} {x3 : Int32} {r4 : Nat} {z : ow_MS} {Q : ow_MS → Prop} (H : Tt (fun K k => q_X13_smoothIn K k 0 x1 x2 x3 0 0 0 0 r0 r4 0 z) Q) : Te (fun K => qe_X13_smoothIn K r0 x1 x2 x3 r4 z) Q := w_te H
theorem u_X13_smoothIn_0 {x1 : Int32} {x2 : Int32} {x3 : Int32} {x5 : Int32} {x6 : Int32} {x7 : Int32} {x8 : Int32} {r0 : Nat} {r4 : Nat} {t0 : Int32} {z : ow_MS} {Q : ow_MS → Prop} (H : Tt (fun K k => qm_X13_smoothIn_0 K (q_X13_smoothIn K k) x1 x2 x3 x5 x6 x7 x8 r0 r4 t0 z) Q) : Tt (fun K k => q_X13_smoothIn K k 0 x1 x2 x3 x5 x6 x7 x8 r0 r4 t0 z) Q := w_un (fun _ _ => rfl) H
theorem u_X13_smoothIn_1 {x1 : Int32} {x2 : Int32} {x3 : Int32} {x5 : Int32} {x6 : Int32} {x7 : Int32} {x8 : Int32} {r0 : Nat} {r4 : Nat} {t0 : Int32} {z : ow_MS} {Q : ow_MS → Prop} (H : Tt (fun K k => qm_X13_smoothIn_1 K (q_X13_smoothIn K k) x1 x2 x3 x5 x6 x7 x8 r0 r4 t0 z) Q) : Tt (fun K k => q_X13_smoothIn K k 1 x1 x2 x3 x5 x6 x7 x8 r0 r4 t0 z) Q := w_un (fun _ _ => rfl) H
theorem u_X13_smoothIn_8 {x1 : Int32} {x2 : Int32} {x3 : Int32} {x5 : Int32} {x6 : Int32} {x7 : Int32} {x8 : Int32} {r0 : Nat} {r4 : Nat} {t0 : Int32} {z : ow_MS} {Q : ow_MS → Prop} (H : Tt (fun K k => qm_X13_smoothIn_8 K (q_X13_smoothIn K k) x1 x2 x3 x5 x6 x7 x8 r0 r4 t0 z) Q) : Tt (fun K k => q_X13_smoothIn K k 8 x1 x2 x3 x5 x6 x7 x8 r0 r4 t0 z) Q := w_un (fun _ _ => rfl) H
theorem u_X13_smoothIn_7 {x1 : Int32} {x2 : Int32} {x3 : Int32} {x5 : Int32} {x6 : Int32} {x7 : Int32} {x8 : Int32} {r0 : Nat} {r4 : Nat} {t0 : Int32} {z : ow_MS} {Q : ow_MS → Prop} (H : Tt (fun K k => qm_X13_smoothIn_7 K (q_X13_smoothIn K k) x1 x2 x3 x5 x6 x7 x8 r0 r4 t0 z) Q) : Tt (fun K k => q_X13_smoothIn K k 7 x1 x2 x3 x5 x6 x7 x8 r0 r4 t0 z) Q := w_un (fun _ _ => rfl) H
theorem u_X13_smoothIn_6 {x1 : Int32} {x2 : Int32} {x3 : Int32} {x5 : Int32} {x6 : Int32} {x7 : Int32} {x8 : Int32} {r0 : Nat} {r4 : Nat} {t0 : Int32} {z : ow_MS} {Q : ow_MS → Prop} (H : Tt (fun K k => qm_X13_smoothIn_6 K (q_X13_smoothIn K k) x1 x2 x3 x5 x6 x7 x8 r0 r4 t0 z) Q) : Tt (fun K k => q_X13_smoothIn K k 6 x1 x2 x3 x5 x6 x7 x8 r0 r4 t0 z) Q := w_un (fun _ _ => rfl) H
theorem u_X13_smoothIn_5 {x1 : Int32} {x2 : Int32} {x3 : Int32} {x5 : Int32} {x6 : Int32} {x7 : Int32} {x8 : Int32} {r0 : Nat} {r4 : Nat} {t0 : Int32} {z : ow_MS} {Q : ow_MS → Prop} (H : Tt (fun K k => qm_X13_smoothIn_5 K (q_X13_smoothIn K k) x1 x2 x3 x5 x6 x7 x8 r0 r4 t0 z) Q) : Tt (fun K k => q_X13_smoothIn K k 5 x1 x2 x3 x5 x6 x7 x8 r0 r4 t0 z) Q := w_un (fun _ _ => rfl) H
end
section
/-! 99zzp.pubC -/
/-! public methods of the reference: smooth, apart, join -/
section PUBC
variable {X : (Nat → Nat → Int32) → Prop} {z : ow_MS}
theorem ok_has {A : rn_L} {c x : Nat} (h : okF A.flatten c) (hx : x < c) : ∃ t, t < A.flatten.length ∧ crs A t = x := by
  have hm := (h.2 (x, 0)).mpr ⟨hx, by simp⟩
  obtain ⟨t, ht, e⟩ := List.getElem_of_mem hm
  refine ⟨t, ht, ?_⟩
  unfold crs
  rw [vAt_eq (List.getElem?_eq_getElem ht), e]
theorem crs_mtf {A : rn_L} {v : Nat} (hd : rn_ok A.flatten) (hv : v < A.flatten.length) : crs A (mtf A v) = crs A v := by
  obtain ⟨-, p, q, h1, h2, h3⟩ := mtf_mt hd hv
  unfold crs
  rw [vAt_eq h1, vAt_eq h2, h3]
theorem mtf_ne {A : rn_L} {v : Nat} (hd : rn_ok A.flatten) (hv : v < A.flatten.length) : mtf A v ≠ v := fun e => (mtf_mt hd hv).1 e.symm
theorem e_X13_smooth {x1 : Int32} {x2 : Int32} {z : ow_MS} {Q : (Int32 × ow_MS) → Prop} (H : Tt (fun K k => q_X13_smooth K k 0 x1 x2 0 z) Q) : Te (fun K => qe_X13_smooth K x1 x2 z) Q := w_te H
theorem u_X13_smooth_0 {x1 : Int32} {x2 : Int32} {x3 : Int32} {z : ow_MS} {Q : (Int32 × ow_MS) → Prop} (H : Tt (fun K k => qm_X13_smooth_0 K (q_X13_smooth K k) x1 x2 x3 z) Q) : Tt (fun K k => q_X13_smooth K k 0 x1 x2 x3 z) Q := w_un (fun _ _ => rfl) H
theorem u_X13_smooth_1 {x1 : Int32} {x2 : Int32} {x3 : Int32} {z : ow_MS} {Q : (Int32 × ow_MS) → Prop} (H : Tt (fun K k => qm_X13_smooth_1 K (q_X13_smooth K k) x1 x2 x3 z) Q) : Tt (fun K k => q_X13_smooth K k 1 x1 x2 x3 z) Q := w_un (fun _ _ => rfl) H
theorem u_X13_smooth_2 {x1 : Int32} {x2 : Int32} {x3 : Int32} {z : ow_MS} {Q : (Int32 × ow_MS) → Prop} (H : Tt (fun K k => qm_X13_smooth_2 K (q_X13_smooth K k) x1 x2 x3 z) Q) : Tt (fun K k => q_X13_smooth K k 2 x1 x2 x3 z) Q := w_un (fun _ _ => rfl) H
/-! two nets side by side -/
def A12 (A B : rn_L) (s : Nat) : rn_L := A ++ shN s B
theorem A12_len {A B : rn_L} {s : Nat} : (A12 A B s).flatten.length = A.flatten.length + B.flatten.length := by
  unfold A12
  rw [List.flatten_append, List.length_append, shN_fl, List.length_map]
theorem A12_l {A B : rn_L} {s i : Nat} (hi : i < A.flatten.length) : vAt (A12 A B s) i = vAt A i := by
  refine vAt_eq ?_
  unfold A12
  rw [List.flatten_append, List.getElem?_append_left hi]
  exact vAt_of hi
theorem A12_r {A B : rn_L} {s i : Nat} (hi : i < B.flatten.length) : vAt (A12 A B s) (A.flatten.length + i) = ((vAt B i).1 + s, (vAt B i).2) := by
  refine vAt_eq ?_
  unfold A12
  rw [List.flatten_append, List.getElem?_append_right (by omega), Nat.add_sub_cancel_left, shN_fl, List.getElem?_map, vAt_of hi]
  rfl
theorem A12_ok {A B : rn_L} {a b : Nat} (hA : okF A.flatten a) (hB : okF B.flatten b) : okF (A12 A B a).flatten (a + b) := by
  have h1 : okB A.flatten 0 a := ⟨hA.1, fun p => by rw [hA.2]; omega⟩
  have h2 : okB (shN a B).flatten (0 + a) b := by rw [Nat.zero_add]; exact okF_sh hB
  have h3 := okB_app h1 h2
  unfold A12
  rw [List.flatten_append]
  exact ⟨h3.1, fun p => by rw [h3.2]; omega⟩
theorem u_X13_addNet_3 {x2 : Int32} {x3 : Int32} {x4 : Int32} {r1 : Nat} {z : ow_MS} {Q : ow_MS → Prop} (H : Tt (fun K k => qm_X13_addNet_3 K (q_X13_addNet K k) x2 x3 x4 r1 z) Q) : Tt (fun K k => q_X13_addNet K k 3 x2 x3 x4 r1 z) Q := w_un (fun _ _ => rfl) H
theorem u_X13_addNet_1 {x2 : Int32} {x3 : Int32} {x4 : Int32} {r1 : Nat} {z : ow_MS} {Q : ow_MS → Prop} (H : Tt (fun K k => qm_X13_addNet_1 K (q_X13_addNet K k) x2 x3 x4 r1 z) Q) : Tt (fun K k => q_X13_addNet K k 1 x2 x3 x4 r1 z) Q := w_un (fun _ _ => rfl) H
theorem u_X13_addNet_2 {x2 : Int32} {x3 : Int32} {x4 : Int32} {r1 : Nat} {z : ow_MS} {Q : ow_MS → Prop} (H : Tt (fun K k => qm_X13_addNet_2 K (q_X13_addNet K k) x2 x3 x4 r1 z) Q) : Tt (fun K k => q_X13_addNet K k 2 x2 x3 x4 r1 z) Q := w_un (fun _ _ => rfl) H
theorem e_X13_addNet {r1 : Nat} {x2 : Int32} {z : ow_MS} {Q : ow_MS → Prop} (H : Tt (fun K k => q_X13_addNet K k 0 x2 0 0 r1 z) Q) : Te (fun K => qe_X13_addNet K r1 x2 z) Q := w_te H
theorem u_X13_addNet_0 {x2 : Int32} {x3 : Int32} {x4 : Int32} {r1 : Nat} {z : ow_MS} {Q : ow_MS → Prop} (H : Tt (fun K k => qm_X13_addNet_0 K (q_X13_addNet K k) x2 x3 x4 r1 z) Q) : Tt (fun K k => q_X13_addNet K k 0 x2 x3 x4 r1 z) Q := w_un (fun _ _ => rfl) H
theorem u_X13_apart_1 {x1 : Int32} {x2 : Int32} {z : ow_MS} {Q : (Int32 × ow_MS) → Prop} (H : Tt (fun K k => qm_X13_apart_1 K (q_X13_apart K k) x1 x2 z) Q) : Tt (fun K k => q_X13_apart K k 1 x1 x2 z) Q := w_un (fun _ _ => rfl) H
theorem u_X13_apart_2 {x1 : Int32} {x2 : Int32} {z : ow_MS} {Q : (Int32 × ow_MS) → Prop} (H : Tt (fun K k => qm_X13_apart_2 K (q_X13_apart K k) x1 x2 z) Q) : Tt (fun K k => q_X13_apart K k 2 x1 x2 z) Q := w_un (fun _ _ => rfl) H
theorem e_X13_apart {x1 : Int32} {x2 : Int32} {z : ow_MS} {Q : (Int32 × ow_MS) → Prop} (H : Tt (fun K k => q_X13_apart K k 0 x1 x2 z) Q) : Te (fun K => qe_X13_apart K x1 x2 z) Q := w_te H
theorem u_X13_apart_0 {x1 : Int32} {x2 : Int32} {z : ow_MS} {Q : (Int32 × ow_MS) → Prop} (H : Tt (fun K k => qm_X13_apart_0 K (q_X13_apart K k) x1 x2 z) Q) : Tt (fun K k => q_X13_apart K k 0 x1 x2 z) Q := w_un (fun _ _ => rfl) H
end PUBC
end
section
/-! 99zzq.join -/
/-! join -/
theorem rv_len {A : rn_L} {s : Nat} (hs : s < A.flatten.length) : rv A s (rlen A (rn_c A s)) = s := by
  obtain ⟨h1, h2, h3⟩ := rn_c_in A s hs
  unfold rv
  unfold rlen
  rw [if_neg (by omega)]
  omega
section PUBJ
variable {X : (Nat → Nat → Int32) → Prop} {z : ow_MS}
theorem u_X13_join_1 {x1 : Int32} {x2 : Int32} {x3 : Int32} {x4 : Int32} {x5 : Int32} {x6 : Int32} {x7 : Int32} {x8 : Int32} {t0 : Int32} {t1 : Int32} {z : ow_MS} {Q : (Int32 × ow_MS) → Prop} (H : Tt (fun K k => qm_X13_join_1 K (q_X13_join K k) x1 x2 x3 x4 x5 x6 x7 x8 t0 t1 z) Q) : Tt (fun K k => q_X13_join K k 1 x1 x2 x3 x4 x5 x6 x7 x8 t0 t1 z) Q := w_un (fun _ _ => rfl) H
theorem u_X13_join_2 {x1 : Int32} {x2 : Int32} {x3 : Int32} {x4 : Int32} {x5 : Int32} {x6 : Int32} {x7 : Int32} {x8 : Int32} {t0 : Int32} {t1 : Int32} {z : ow_MS} {Q : (Int32 × ow_MS) → Prop} (H : Tt (fun K k => qm_X13_join_2 K (q_X13_join K k) x1 x2 x3 x4 x5 x6 x7 x8 t0 t1 z) Q) : Tt (fun K k => q_X13_join K k 2 x1 x2 x3 x4 x5 x6 x7 x8 t0 t1 z) Q := w_un (fun _ _ => rfl) H
theorem u_X13_join_3 {x1 : Int32} {x2 : Int32} {x3 : Int32} {x4 : Int32} {x5 : Int32} {x6 : Int32} {x7 : Int32} {x8 : Int32} {t0 : Int32} {t1 : Int32} {z : ow_MS} {Q : (Int32 × ow_MS) → Prop} (H : Tt (fun K k => qm_X13_join_3 K (q_X13_join K k) x1 x2 x3 x4 x5 x6 x7 x8 t0 t1 z) Q) : Tt (fun K k => q_X13_join K k 3 x1 x2 x3 x4 x5 x6 x7 x8 t0 t1 z) Q := w_un (fun _ _ => rfl) H
theorem e_X13_join {x1 : Int32} {x2 : Int32} {x3 : Int32} {x4 : Int32} {z : ow_MS} {Q : (Int32 × ow_MS) → Prop} (H : Tt (fun K k => q_X13_join K k 0 x1 x2 x3 x4 0 0 0 0 0 0 z) Q) : Te (fun K => qe_X13_join K x1 x2 x3 x4 z) Q := w_te H
theorem u_X13_join_0 {x1 : Int32} {x2 : Int32} {x3 : Int32} {x4 : Int32} {x5 : Int32} {x6 : Int32} {x7 : Int32} {x8 : Int32} {t0 : Int32} {t1 : Int32} {z : ow_MS} {Q : (Int32 × ow_MS) → Prop} (H : Tt (fun K k => qm_X13_join_0 K (q_X13_join K k) x1 x2 x3 x4 x5 x6 x7 x8 t0 t1 z) Q) : Tt (fun K k => q_X13_join K k 0 x1 x2 x3 x4 x5 x6 x7 x8 t0 t1 z) Q := w_un (fun _ _ => rfl) H
theorem u_X13_join_11 {x1 : Int32} {x2 : Int32} {x3 : Int32} {x4 : Int32} {x5 : Int32} {x6 : Int32} {x7 : Int32} {x8 : Int32} {t0 : Int32} {t1 : Int32} {z : ow_MS} {Q : (Int32 × ow_MS) → Prop} (H : Tt (fun K k => qm_X13_join_11 K (q_X13_join K k) x1 x2 x3 x4 x5 x6 x7 x8 t0 t1 z) Q) : Tt (fun K k => q_X13_join K k 11 x1 x2 x3 x4 x5 x6 x7 x8 t0 t1 z) Q := w_un (fun _ _ => rfl) H
theorem u_X13_join_12 {x1 : Int32} {x2 : Int32} {x3 : Int32} {x4 : Int32} {x5 : Int32} {x6 : Int32} {x7 : Int32} {x8 : Int32} {t0 : Int32} {t1 : Int32} {z : ow_MS} {Q : (Int32 × ow_MS) → Prop} (H : Tt (fun K k => qm_X13_join_12 K (q_X13_join K k) x1 x2 x3 x4 x5 x6 x7 x8 t0 t1 z) Q) : Tt (fun K k => q_X13_join K k 12 x1 x2 x3 x4 x5 x6 x7 x8 t0 t1 z) Q := w_un (fun _ _ => rfl) H
theorem u_X13_join_8 {x1 : Int32} {x2 : Int32} {x3 : Int32} {x4 : Int32} {x5 : Int32} {x6 : Int32} {x7 : Int32} {x8 : Int32} {t0 : Int32} {t1 : Int32} {z : ow_MS} {Q : (Int32 × ow_MS) → Prop} (H : Tt (fun K k => qm_X13_join_8 K (q_X13_join K k) x1 x2 x3 x4 x5 x6 x7 x8 t0 t1 z) Q) : Tt (fun K k => q_X13_join K k 8 x1 x2 x3 x4 x5 x6 x7 x8 t0 t1 z) Q := w_un (fun _ _ => rfl) H
theorem u_X13_join_10 {x1 : Int32} {x2 : Int32} {x3 : Int32} {x4 : Int32} {x5 : Int32} {x6 : Int32} {x7 : Int32} {x8 : Int32} {t0 : Int32} {t1 : Int32} {z : ow_MS} {Q : (Int32 × ow_MS) → Prop} (H : Tt (fun K k => qm_X13_join_10 K (q_X13_join K k) x1 x2 x3 x4 x5 x6 x7 x8 t0 t1 z) Q) : Tt (fun K k => q_X13_join K k 10 x1 x2 x3 x4 x5 x6 x7 x8 t0 t1 z) Q := w_un (fun _ _ => rfl) H
theorem u_X13_join_9 {x1 : Int32} {x2 : Int32} {x3 : Int32} {x4 : Int32} {x5 : Int32} {x6 : Int32} {x7 : Int32} {x8 : Int32} {t0 : Int32} {t1 : Int32} {z : ow_MS} {Q : (Int32 × ow_MS) → Prop} (H : Tt (fun K k => qm_X13_join_9 K (q_X13_join K k) x1 x2 x3 x4 x5 x6 x7 x8 t0 t1 z) Q) : Tt (fun K k => q_X13_join K k 9 x1 x2 x3 x4 x5 x6 x7 x8 t0 t1 z) Q := w_un (fun _ _ => rfl) H
theorem u_X13_join_4 {x1 : Int32} {x2 : Int32} {x3 : Int32} {x4 : Int32} {x5 : Int32} {x6 : Int32} {x7 : Int32} {x8 : Int32} {t0 : Int32} {t1 : Int32} {z : ow_MS} {Q : (Int32 × ow_MS) → Prop} (H : Tt (fun K k => qm_X13_join_4 K (q_X13_join K k) x1 x2 x3 x4 x5 x6 x7 x8 t0 t1 z) Q) : Tt (fun K k => q_X13_join K k 4 x1 x2 x3 x4 x5 x6 x7 x8 t0 t1 z) Q := w_un (fun _ _ => rfl) H
theorem u_X13_join_5 {x1 : Int32} {x2 : Int32} {x3 : Int32} {x4 : Int32} {x5 : Int32} {x6 : Int32} {x7 : Int32} {x8 : Int32} {t0 : Int32} {t1 : Int32} {z : ow_MS} {Q : (Int32 × ow_MS) → Prop} (H : Tt (fun K k => qm_X13_join_5 K (q_X13_join K k) x1 x2 x3 x4 x5 x6 x7 x8 t0 t1 z) Q) : Tt (fun K k => q_X13_join K k 5 x1 x2 x3 x4 x5 x6 x7 x8 t0 t1 z) Q := w_un (fun _ _ => rfl) H
theorem u_X13_join_6 {x1 : Int32} {x2 : Int32} {x3 : Int32} {x4 : Int32} {x5 : Int32} {x6 : Int32} {x7 : Int32} {x8 : Int32} {t0 : Int32} {t1 : Int32} {z : ow_MS} {Q : (Int32 × ow_MS) → Prop} (H : Tt (fun K k => qm_X13_join_6 K (q_X13_join K k) x1 x2 x3 x4 x5 x6 x7 x8 t0 t1 z) Q) : Tt (fun K k => q_X13_join K k 6 x1 x2 x3 x4 x5 x6 x7 x8 t0 t1 z) Q := w_un (fun _ _ => rfl) H
theorem u_X13_join_7 {x1 : Int32} {x2 : Int32} {x3 : Int32} {x4 : Int32} {x5 : Int32} {x6 : Int32} {x7 : Int32} {x8 : Int32} {t0 : Int32} {t1 : Int32} {z : ow_MS} {Q : (Int32 × ow_MS) → Prop} (H : Tt (fun K k => qm_X13_join_7 K (q_X13_join K k) x1 x2 x3 x4 x5 x6 x7 x8 t0 t1 z) Q) : Tt (fun K k => q_X13_join K k 7 x1 x2 x3 x4 x5 x6 x7 x8 t0 t1 z) Q := w_un (fun _ _ => rfl) H
end PUBJ
end
section
/-! 99zzr.offer -/
/-! offers: a made net goes into a list -/
def gNear (b : Nat) (z : ow_MS) : Prop := ∃ N, (b ≤ N ∧ N ≤ 1000) ∧ z.1 24 = nI N ∧ ∀ j, j < N → dRow z 23 (32 * j)
def gSeen (b : Nat) (z : ow_MS) : Prop := ∃ N, (b ≤ N ∧ N ≤ 310) ∧ z.1 26 = nI N ∧ ∀ j, j < N → dRow z 25 (32 * j)
def gTarg (z : ow_MS) : Prop := (∃ T, rc_At z 28 0 T) ∧ (z.1 29 = 0 ∨ z.1 29 = 1)
/-- what an offer of kind m (asks) needs; L bounds the list -/
def oF (X : (Nat → Nat → Int32) → Prop) (b m L : Nat) (z : ow_MS) : Prop := gI X z ∧ z.1 30 = nI m ∧ m ≤ 3 ∧ (m = 0 → ∃ l, l ≤ L ∧ z.1 22 = nI l) ∧ (m = 1 → gTarg z ∧ gNear b z) ∧ (m = 2 → gNear b z) ∧ (m = 3 → gSeen b z)
/-- a row is copied out of fresh -/
theorem dRow_cp {z z1 : ow_MS} {h o : Nat} {A : rn_L} {sg : Nat → Bool} (hv : vRow z 27 0 A sg) (hc : ∀ i, i < (tk sg A).length + 1 → z1.2.1 h (o + i) = z.2.1 27 i) : dRow z1 h o := by
  refine ⟨A, sg, ⟨hv.1.1, hv.1.2.1, ?_, fun i t hi => ?_⟩, hv.2⟩
  · have := hc 0 (by omega)
    rw [Nat.add_zero] at this
    rw [this]
    exact hv.1.2.2.1
  · have := (List.getElem?_eq_some_iff.mp hi).1
    rw [hc (i + 1) (by omega)]
    have := hv.1.2.2.2 i t hi
    rw [Nat.zero_add] at this
    exact this
theorem u_X13_offerRow_2 {x2 : Int32} {x3 : Int32} {x4 : Int32} {r1 : Nat} {z : ow_MS} {Q : (Int32 × ow_MS) → Prop} (H : Tt (fun K k => qm_X13_offerRow_2 K (q_X13_offerRow K k) x2 x3 x4 r1 z) Q) : Tt (fun K k => q_X13_offerRow K k 2 x2 x3 x4 r1 z) Q := w_un (fun _ _ => rfl) H
theorem u_X13_offerRow_1 {x2 : Int32} {x3 : Int32} {x4 : Int32} {r1 : Nat} {z : ow_MS} {Q : (Int32 × ow_MS) → Prop} (H : Tt (fun K k => qm_X13_offerRow_1 K (q_X13_offerRow K k) x2 x3 x4 r1 z) Q) : Tt (fun K k => q_X13_offerRow K k 1 x2 x3 x4 r1 z) Q := w_un (fun _ _ => rfl) H
theorem e_X13_offerRow {r1 : Nat} {x2 : Int32} {x3 : Int32} {z : ow_MS} {Q : (Int32 × ow_MS) → Prop} (H : Tt (fun K k => q_X13_offerRow K k 0 x2 x3 0 r1 z) Q) : Te (fun K => qe_X13_offerRow K r1 x2 x3 z) Q := w_te H
theorem u_X13_offerRow_0 {x2 : Int32} {x3 : Int32} {x4 : Int32} {r1 : Nat} {z : ow_MS} {Q : (Int32 × ow_MS) → Prop} (H : Tt (fun K k => qm_X13_offerRow_0 K (q_X13_offerRow K k) x2 x3 x4 r1 z) Q) : Tt (fun K k => q_X13_offerRow K k 0 x2 x3 x4 r1 z) Q := w_un (fun _ _ => rfl) H
theorem u_X13_offerList_5 {x1 : Int32} {x2 : Int32} {x3 : Int32} {z : ow_MS} {Q : ow_MS → Prop} (H : Tt (fun K k => qm_X13_offerList_5 K (q_X13_offerList K k) x1 x2 x3 z) Q) : Tt (fun K k => q_X13_offerList K k 5 x1 x2 x3 z) Q := w_un (fun _ _ => rfl) H
theorem u_X13_offerList_4 {x1 : Int32} {x2 : Int32} {x3 : Int32} {z : ow_MS} {Q : ow_MS → Prop} (H : Tt (fun K k => qm_X13_offerList_4 K (q_X13_offerList K k) x1 x2 x3 z) Q) : Tt (fun K k => q_X13_offerList K k 4 x1 x2 x3 z) Q := w_un (fun _ _ => rfl) H
theorem u_X13_offerList_3 {x1 : Int32} {x2 : Int32} {x3 : Int32} {z : ow_MS} {Q : ow_MS → Prop} (H : Tt (fun K k => qm_X13_offerList_3 K (q_X13_offerList K k) x1 x2 x3 z) Q) : Tt (fun K k => q_X13_offerList K k 3 x1 x2 x3 z) Q := w_un (fun _ _ => rfl) H
theorem u_X13_offerList_1 {x1 : Int32} {x2 : Int32} {x3 : Int32} {z : ow_MS} {Q : ow_MS → Prop} (H : Tt (fun K k => qm_X13_offerList_1 K (q_X13_offerList K k) x1 x2 x3 z) Q) : Tt (fun K k => q_X13_offerList K k 1 x1 x2 x3 z) Q := w_un (fun _ _ => rfl) H
theorem u_X13_offerList_2 {x1 : Int32} {x2 : Int32} {x3 : Int32} {z : ow_MS} {Q : ow_MS → Prop} (H : Tt (fun K k => qm_X13_offerList_2 K (q_X13_offerList K k) x1 x2 x3 z) Q) : Tt (fun K k => q_X13_offerList K k 2 x1 x2 x3 z) Q := w_un (fun _ _ => rfl) H
theorem e_X13_offerList {z : ow_MS} {Q : ow_MS → Prop} (H : Tt (fun K k => q_X13_offerList K k 0 0 0 0 z) Q) : Te (fun K => qe_X13_offerList K z) Q := w_te H
theorem u_X13_offerList_0 {x1 : Int32} {x2 : Int32} {x3 : Int32} {z : ow_MS} {Q : ow_MS → Prop} (H : Tt (fun K k => qm_X13_offerList_0 K (q_X13_offerList K k) x1 x2 x3 z) Q) : Tt (fun K k => q_X13_offerList K k 0 x1 x2 x3 z) Q := w_un (fun _ _ => rfl) H
abbrev frO (g : Nat) : Prop := g < 1000 ∧ g ≠ 12 ∧ g ≠ 28 ∨ 3007 ≤ g ∧ g ≤ 3013
theorem e_X13_offer {z : ow_MS} {Q : ow_MS → Prop} (H : Tt (fun K _ => qm_X13_offer_0 K z) Q) : Te (fun K => qe_X13_offer K z) Q := w_te0 H
end
section
/-! 99zzs.moves -/
/-! the moves: without, build -/
abbrev frB (g : Nat) : Prop := g < 1000 ∧ g ≠ 12 ∧ g ≠ 28 ∨ 3001 ≤ g ∧ g ≤ 3013
theorem oNet_B {z z1 : ow_MS} {n : Nat} {A : rn_L} {sg : Nat → Bool} (hn : mw_net n) (hn3 : n ≠ 3000) (hf : fr frB z z1) (h : oNet z n A sg) : oNet z1 n A sg := oNet_fr hf (fun g hg => by
  have := net_mod hn
  unfold frB at hg
  omega) h
section MV
variable {X : (Nat → Nat → Int32) → Prop} {bb m L n : Nat} {z : ow_MS} {A : rn_L} {sg : Nat → Bool}
theorem e_X13_without {r1 : Nat} {x2 : Int32} {x3 : Int32} {z : ow_MS} {Q : ow_MS → Prop} (H : Tt (fun K k => q_X13_without K k 0 x2 x3 0 0 r1 z) Q) : Te (fun K => qe_X13_without K r1 x2 x3 z) Q := w_te H
theorem u_X13_without_0 {x2 : Int32} {x3 : Int32} {x4 : Int32} {x5 : Int32} {r1 : Nat} {z : ow_MS} {Q : ow_MS → Prop} (H : Tt (fun K k => qm_X13_without_0 K (q_X13_without K k) x2 x3 x4 x5 r1 z) Q) : Tt (fun K k => q_X13_without K k 0 x2 x3 x4 x5 r1 z) Q := w_un (fun _ _ => rfl) H
theorem u_X13_without_1 {x2 : Int32} {x3 : Int32} {x4 : Int32} {x5 : Int32} {r1 : Nat} {z : ow_MS} {Q : ow_MS → Prop} (H : Tt (fun K k => qm_X13_without_1 K (q_X13_without K k) x2 x3 x4 x5 r1 z) Q) : Tt (fun K k => q_X13_without K k 1 x2 x3 x4 x5 r1 z) Q := w_un (fun _ _ => rfl) H
theorem u_X13_without_2 {x2 : Int32} {x3 : Int32} {x4 : Int32} {x5 : Int32} {r1 : Nat} {z : ow_MS} {Q : ow_MS → Prop} (H : Tt (fun K k => qm_X13_without_2 K (q_X13_without K k) x2 x3 x4 x5 r1 z) Q) : Tt (fun K k => q_X13_without K k 2 x2 x3 x4 x5 r1 z) Q := w_un (fun _ _ => rfl) H
theorem u_X13_without_3 {x2 : Int32} {x3 : Int32} {x4 : Int32} {x5 : Int32} {r1 : Nat} {z : ow_MS} {Q : ow_MS → Prop} (H : Tt (fun K k => qm_X13_without_3 K (q_X13_without K k) x2 x3 x4 x5 r1 z) Q) : Tt (fun K k => q_X13_without K k 3 x2 x3 x4 x5 r1 z) Q := w_un (fun _ _ => rfl) H
theorem e_X13_put {x1 : Int32} {x2 : Int32} {x3 : Int32} {z : ow_MS} {Q : ow_MS → Prop} (H : Tt (fun K _ => qm_X13_put_0 K x1 x2 x3 z) Q) : Te (fun K => qe_X13_put K x1 x2 x3 z) Q := w_te0 H
theorem tp_put {i : Nat} {x u : Int32} (hi : i < 4) : Te (fun K => qe_X13_put K (nI i) x u z) (fun z1 => z1 = usI (usI z 31 i x) 32 i u) := by
  refine e_X13_put ?_; unfold qm_X13_put_0
  exact w_wrI ml31 rfl hi (w_wrI ml32 rfl hi (w_some rfl))
theorem u_X13_putAt_1 {x1 : Int32} {x2 : Int32} {x3 : Int32} {z : ow_MS} {Q : ow_MS → Prop} (H : Tt (fun K k => qm_X13_putAt_1 K (q_X13_putAt K k) x1 x2 x3 z) Q) : Tt (fun K k => q_X13_putAt K k 1 x1 x2 x3 z) Q := w_un (fun _ _ => rfl) H
theorem e_X13_putAt {x1 : Int32} {x2 : Int32} {x3 : Int32} {z : ow_MS} {Q : ow_MS → Prop} (H : Tt (fun K k => q_X13_putAt K k 0 x1 x2 x3 z) Q) : Te (fun K => qe_X13_putAt K x1 x2 x3 z) Q := w_te H
theorem u_X13_putAt_0 {x1 : Int32} {x2 : Int32} {x3 : Int32} {z : ow_MS} {Q : ow_MS → Prop} (H : Tt (fun K k => qm_X13_putAt_0 K (q_X13_putAt K k) x1 x2 x3 z) Q) : Tt (fun K k => q_X13_putAt K k 0 x1 x2 x3 z) Q := w_un (fun _ _ => rfl) H
/-- a gap: behind a visit, or on a circle -/
def isG (A : rn_L) (g : Nat) : Prop := g < A.flatten.length ∨ A.flatten.length ≤ g ∧ g - A.flatten.length < A.length ∧ rn_b A (g - A.flatten.length) = rn_b A (g - A.flatten.length + 1)
theorem u_X13_isGap_1 {x1 : Int32} {r0 : Nat} {z : ow_MS} {Q : (Int32 × ow_MS) → Prop} (H : Tt (fun K k => qm_X13_isGap_1 K (q_X13_isGap K k) x1 r0 z) Q) : Tt (fun K k => q_X13_isGap K k 1 x1 r0 z) Q := w_un (fun _ _ => rfl) H
theorem e_X13_isGap {r0 : Nat} {x1 : Int32} {z : ow_MS} {Q : (Int32 × ow_MS) → Prop} (H : Tt (fun K k => q_X13_isGap K k 0 x1 r0 z) Q) : Te (fun K => qe_X13_isGap K r0 x1 z) Q := w_te H
theorem u_X13_isGap_0 {x1 : Int32} {r0 : Nat} {z : ow_MS} {Q : (Int32 × ow_MS) → Prop} (H : Tt (fun K k => qm_X13_isGap_0 K (q_X13_isGap K k) x1 r0 z) Q) : Tt (fun K k => q_X13_isGap K k 0 x1 r0 z) Q := w_un (fun _ _ => rfl) H
theorem tp_isGap {g : Nat} (hn : mw_net n) (hO : oNet z n A sg) (hg : g < A.flatten.length + A.length) : Te (fun K => qe_X13_isGap K n (nI g) z) (fun r => r.2 = z ∧ (r.1 = 0 ∧ ¬ isG A g ∨ r.1 = 1 ∧ isG A g)) := by
  have hl := hO.len
  have hC := hO.2.2.2
  have c1 : isG A g → Tt (fun K k => q_X13_isGap K k 1 (nI g) n z) (fun r => r.2 = z ∧ (r.1 = 0 ∧ ¬ isG A g ∨ r.1 = 1 ∧ isG A g)) := by
    intro hi
    refine u_X13_isGap_1 ?_; unfold qm_X13_isGap_1
    exact w_okZ (Or.inr rfl) (w_some ⟨rfl, Or.inr ⟨rfl, hi⟩⟩)
  refine e_X13_isGap ?_
  refine u_X13_isGap_0 ?_; unfold qm_X13_isGap_0
  refine w_rdF hO.1.V (w_lt (by omega) (by omega) (fun h9 => c1 (Or.inl h9)) (fun h9 => w_rdF hO.1.V ?_))
  rw [pk_sub h9]
  refine w_cs1 (tn_circle hn (by omega) (by omega) (by omega) hO.1.1) (fun a z1 e => ?_)
  cases e
  by_cases hb : rn_b A (g - A.flatten.length) = rn_b A (g - A.flatten.length + 1)
  · rw [if_pos hb]
    exact w_ifF (by decide) (c1 (Or.inr ⟨h9, by omega, hb⟩))
  · rw [if_neg hb]
    refine w_ifT rfl (w_okZ (Or.inl rfl) (w_some ⟨rfl, Or.inl ⟨rfl, fun h8 => ?_⟩⟩))
    rcases h8 with h8 | ⟨h6, h7, h8⟩
    · omega
    · exact hb h8
theorem u_X13_build_4 {x2 : Int32} {x3 : Int32} {x4 : Int32} {x5 : Int32} {r1 : Nat} {z : ow_MS} {Q : ow_MS → Prop} (H : Tt (fun K k => qm_X13_build_4 K (q_X13_build K k) x2 x3 x4 x5 r1 z) Q) : Tt (fun K k => q_X13_build K k 4 x2 x3 x4 x5 r1 z) Q := w_un (fun _ _ => rfl) H
theorem u_X13_build_1 {x2 : Int32} {x3 : Int32} {x4 : Int32} {x5 : Int32} {r1 : Nat} {z : ow_MS} {Q : ow_MS → Prop} (H : Tt (fun K k => qm_X13_build_1 K (q_X13_build K k) x2 x3 x4 x5 r1 z) Q) : Tt (fun K k => q_X13_build K k 1 x2 x3 x4 x5 r1 z) Q := w_un (fun _ _ => rfl) H
theorem u_X13_build_3 {x2 : Int32} {x3 : Int32} {x4 : Int32} {x5 : Int32} {r1 : Nat} {z : ow_MS} {Q : ow_MS → Prop} (H : Tt (fun K k => qm_X13_build_3 K (q_X13_build K k) x2 x3 x4 x5 r1 z) Q) : Tt (fun K k => q_X13_build K k 3 x2 x3 x4 x5 r1 z) Q := w_un (fun _ _ => rfl) H
theorem u_X13_build_2 {x2 : Int32} {x3 : Int32} {x4 : Int32} {x5 : Int32} {r1 : Nat} {z : ow_MS} {Q : ow_MS → Prop} (H : Tt (fun K k => qm_X13_build_2 K (q_X13_build K k) x2 x3 x4 x5 r1 z) Q) : Tt (fun K k => q_X13_build K k 2 x2 x3 x4 x5 r1 z) Q := w_un (fun _ _ => rfl) H
theorem e_X13_build {r1 : Nat} {x2 : Int32} {x3 : Int32} {z : ow_MS} {Q : ow_MS → Prop} (H : Tt (fun K k => q_X13_build K k 0 x2 x3 0 0 r1 z) Q) : Te (fun K => qe_X13_build K r1 x2 x3 z) Q := w_te H
theorem u_X13_build_0 {x2 : Int32} {x3 : Int32} {x4 : Int32} {x5 : Int32} {r1 : Nat} {z : ow_MS} {Q : ow_MS → Prop} (H : Tt (fun K k => qm_X13_build_0 K (q_X13_build K k) x2 x3 x4 x5 r1 z) Q) : Tt (fun K k => q_X13_build K k 0 x2 x3 x4 x5 r1 z) Q := w_un (fun _ _ => rfl) H
end MV
end
section
/-! 99zzt.come -/
/-! the moves: oneComes, twoAt, twoCome, twoGo -/
section MV2
variable {X : (Nat → Nat → Int32) → Prop} {bb m L n : Nat} {z : ow_MS} {A : rn_L} {sg : Nat → Bool}
theorem neg_x3 : ∀ k : Nat, k < 100 → (nI k = (-1 : Int32) ↔ k = 1000) := fun k hk => ⟨fun e => absurd e (rn_neg1 (by omega)), fun e => by omega⟩
theorem u_X13_oneComes_1 {x2 : Int32} {x3 : Int32} {x4 : Int32} {r1 : Nat} {t0 : Int32} {t1 : Int32} {z : ow_MS} {Q : ow_MS → Prop} (H : Tt (fun K k => qm_X13_oneComes_1 K (q_X13_oneComes K k) x2 x3 x4 r1 t0 t1 z) Q) : Tt (fun K k => q_X13_oneComes K k 1 x2 x3 x4 r1 t0 t1 z) Q := w_un (fun _ _ => rfl) H
theorem u_X13_oneComes_4 {x2 : Int32} {x3 : Int32} {x4 : Int32} {r1 : Nat} {t0 : Int32} {t1 : Int32} {z : ow_MS} {Q : ow_MS → Prop} (H : Tt (fun K k => qm_X13_oneComes_4 K (q_X13_oneComes K k) x2 x3 x4 r1 t0 t1 z) Q) : Tt (fun K k => q_X13_oneComes K k 4 x2 x3 x4 r1 t0 t1 z) Q := w_un (fun _ _ => rfl) H
theorem u_X13_oneComes_2 {x2 : Int32} {x3 : Int32} {x4 : Int32} {r1 : Nat} {t0 : Int32} {t1 : Int32} {z : ow_MS} {Q : ow_MS → Prop} (H : Tt (fun K k => qm_X13_oneComes_2 K (q_X13_oneComes K k) x2 x3 x4 r1 t0 t1 z) Q) : Tt (fun K k => q_X13_oneComes K k 2 x2 x3 x4 r1 t0 t1 z) Q := w_un (fun _ _ => rfl) H
theorem u_X13_oneComes_3 {x2 : Int32} {x3 : Int32} {x4 : Int32} {r1 : Nat} {t0 : Int32} {t1 : Int32} {z : ow_MS} {Q : ow_MS → Prop} (H : Tt (fun K k => qm_X13_oneComes_3 K (q_X13_oneComes K k) x2 x3 x4 r1 t0 t1 z) Q) : Tt (fun K k => q_X13_oneComes K k 3 x2 x3 x4 r1 t0 t1 z) Q := w_un (fun _ _ => rfl) H
theorem e_X13_oneComes {r1 : Nat} {z : ow_MS} {Q : ow_MS → Prop} (H : Tt (fun K k => q_X13_oneComes K k 0 0 0 0 r1 0 0 z) Q) : Te (fun K => qe_X13_oneComes K r1 z) Q := w_te H
theorem u_X13_oneComes_0 {x2 : Int32} {x3 : Int32} {x4 : Int32} {r1 : Nat} {t0 : Int32} {t1 : Int32} {z : ow_MS} {Q : ow_MS → Prop} (H : Tt (fun K k => qm_X13_oneComes_0 K (q_X13_oneComes K k) x2 x3 x4 r1 t0 t1 z) Q) : Tt (fun K k => q_X13_oneComes K k 0 x2 x3 x4 r1 t0 t1 z) Q := w_un (fun _ _ => rfl) H
/-- the four visits of two crossings that come -/
theorem two_ok {c a b u : Nat} (ha : a < 2) (hb : b < 2) (hu : u < 2) : okB [(if u = 0 then c + a else c + b, u), (if u = 0 then 2 * c + 1 - (c + a) else 2 * c + 1 - (c + b), u), (if u = 0 then c + b else c + a, 1 - u), (if u = 0 then 2 * c + 1 - (c + b) else 2 * c + 1 - (c + a), 1 - u)] c 2 := by
  have h1 : a = 0 ∨ a = 1 := by omega
  have h2 : b = 0 ∨ b = 1 := by omega
  have h3 : u = 0 ∨ u = 1 := by omega
  refine ⟨?_, fun p => ?_⟩
  · rcases h1 with h1 | h1 <;> rcases h2 with h2 | h2 <;> rcases h3 with h3 | h3 <;> subst h1 h2 h3 <;> simp <;> omega
  · simp only [List.mem_cons, List.not_mem_nil, or_false, Prod.ext_iff]
    rcases h1 with h1 | h1 <;> rcases h2 with h2 | h2 <;> rcases h3 with h3 | h3 <;> subst h1 h2 h3 <;> simp <;> omega
theorem u_X13_twoAt_4 {x2 : Int32} {x3 : Int32} {x4 : Int32} {x5 : Int32} {x6 : Int32} {x7 : Int32} {x8 : Int32} {x9 : Int32} {x10 : Int32} {r1 : Nat} {t0 : Int32} {t1 : Int32} {z : ow_MS} {Q : ow_MS → Prop} (H : Tt (fun K k => qm_X13_twoAt_4 K (q_X13_twoAt K k) x2 x3 x4 x5 x6 x7 x8 x9 x10 r1 t0 t1 z) Q) : Tt (fun K k => q_X13_twoAt K k 4 x2 x3 x4 x5 x6 x7 x8 x9 x10 r1 t0 t1 z) Q := w_un (fun _ _ => rfl) H
theorem e_X13_twoAt {r1 : Nat} {x2 : Int32} {x3 : Int32} {x4 : Int32} {z : ow_MS} {Q : ow_MS → Prop} (H : Tt (fun K k => q_X13_twoAt K k 0 x2 x3 x4 0 0 0 0 0 0 r1 0 0 z) Q) : Te (fun K => qe_X13_twoAt K r1 x2 x3 x4 z) Q := w_te H
theorem u_X13_twoAt_0 {x2 : Int32} {x3 : Int32} {x4 : Int32} {x5 : Int32} {x6 : Int32} {x7 : Int32} {x8 : Int32} {x9 : Int32} {x10 : Int32} {r1 : Nat} {t0 : Int32} {t1 : Int32} {z : ow_MS} {Q : ow_MS → Prop} (H : Tt (fun K k => qm_X13_twoAt_0 K (q_X13_twoAt K k) x2 x3 x4 x5 x6 x7 x8 x9 x10 r1 t0 t1 z) Q) : Tt (fun K k => q_X13_twoAt K k 0 x2 x3 x4 x5 x6 x7 x8 x9 x10 r1 t0 t1 z) Q := w_un (fun _ _ => rfl) H
theorem u_X13_twoAt_1 {x2 : Int32} {x3 : Int32} {x4 : Int32} {x5 : Int32} {x6 : Int32} {x7 : Int32} {x8 : Int32} {x9 : Int32} {x10 : Int32} {r1 : Nat} {t0 : Int32} {t1 : Int32} {z : ow_MS} {Q : ow_MS → Prop} (H : Tt (fun K k => qm_X13_twoAt_1 K (q_X13_twoAt K k) x2 x3 x4 x5 x6 x7 x8 x9 x10 r1 t0 t1 z) Q) : Tt (fun K k => q_X13_twoAt K k 1 x2 x3 x4 x5 x6 x7 x8 x9 x10 r1 t0 t1 z) Q := w_un (fun _ _ => rfl) H
theorem u_X13_twoAt_2 {x2 : Int32} {x3 : Int32} {x4 : Int32} {x5 : Int32} {x6 : Int32} {x7 : Int32} {x8 : Int32} {x9 : Int32} {x10 : Int32} {r1 : Nat} {t0 : Int32} {t1 : Int32} {z : ow_MS} {Q : ow_MS → Prop} (H : Tt (fun K k => qm_X13_twoAt_2 K (q_X13_twoAt K k) x2 x3 x4 x5 x6 x7 x8 x9 x10 r1 t0 t1 z) Q) : Tt (fun K k => q_X13_twoAt K k 2 x2 x3 x4 x5 x6 x7 x8 x9 x10 r1 t0 t1 z) Q := w_un (fun _ _ => rfl) H
theorem u_X13_twoAt_3 {x2 : Int32} {x3 : Int32} {x4 : Int32} {x5 : Int32} {x6 : Int32} {x7 : Int32} {x8 : Int32} {x9 : Int32} {x10 : Int32} {r1 : Nat} {t0 : Int32} {t1 : Int32} {z : ow_MS} {Q : ow_MS → Prop} (H : Tt (fun K k => qm_X13_twoAt_3 K (q_X13_twoAt K k) x2 x3 x4 x5 x6 x7 x8 x9 x10 r1 t0 t1 z) Q) : Tt (fun K k => q_X13_twoAt K k 3 x2 x3 x4 x5 x6 x7 x8 x9 x10 r1 t0 t1 z) Q := w_un (fun _ _ => rfl) H
end MV2
end
section
/-! 99zzu.two -/
/-! the moves: twoCome, twoGo -/
abbrev frC (g : Nat) : Prop := g < 1000 ∧ g ≠ 12 ∧ g ≠ 28 ∨ 3001 ≤ g ∧ g ≤ 3016
theorem oNet_C {z z1 : ow_MS} {n : Nat} {A : rn_L} {sg : Nat → Bool} (hn : mw_net n) (hn3 : n ≠ 3000) (hf : fr frC z z1) (h : oNet z n A sg) : oNet z1 n A sg := oNet_fr hf (fun g hg => by
  have := net_mod hn
  unfold frC at hg
  omega) h
/-- how many gaps there are below k -/
def gcn (A : rn_L) : Nat → Nat
  | 0 => 0
  | k + 1 => gcn A k + if k < A.flatten.length then 1 else if rn_b A (k - A.flatten.length) = rn_b A (k - A.flatten.length + 1) then 1 else 0
theorem gcn_S (A : rn_L) (k : Nat) : gcn A (k + 1) = gcn A k + if k < A.flatten.length then 1 else if rn_b A (k - A.flatten.length) = rn_b A (k - A.flatten.length + 1) then 1 else 0 := rfl
theorem gcn_g {A : rn_L} {k : Nat} (h : isG A k) : gcn A (k + 1) = gcn A k + 1 := by
  rw [gcn_S]
  rcases h with h | ⟨h1, h2, h3⟩
  · rw [if_pos h]
  · rw [if_neg (by omega), if_pos h3]
theorem gcn_n {A : rn_L} {k : Nat} (hk : k < A.flatten.length + A.length) (h : ¬ isG A k) : gcn A (k + 1) = gcn A k := by
  rw [gcn_S]
  by_cases h1 : k < A.flatten.length
  · exact absurd (Or.inl h1) h
  · rw [if_neg h1, if_neg (fun h3 => h (Or.inr ⟨by omega, by omega, h3⟩))]
    rfl
theorem gcn_s (A : rn_L) (k : Nat) : gcn A k ≤ gcn A (k + 1) := by
  show _ ≤ gcn A k + _
  omega
theorem gcn_mono {A : rn_L} {a b : Nat} (h : a ≤ b) : gcn A a ≤ gcn A b := by
  obtain ⟨d, rfl⟩ : ∃ d, b = a + d := ⟨b - a, by omega⟩
  induction d with
  | zero => exact Nat.le_refl _
  | succ d ih => exact Nat.le_trans (ih (by omega)) (gcn_s A (a + d))
theorem gcn_le (A : rn_L) : ∀ k, gcn A k ≤ k
  | 0 => Nat.le_refl _
  | k + 1 => by
    have := gcn_le A k
    show gcn A k + _ ≤ _
    by_cases h1 : k < A.flatten.length
    · rw [if_pos h1]; omega
    · rw [if_neg h1]
      by_cases h2 : rn_b A (k - A.flatten.length) = rn_b A (k - A.flatten.length + 1)
      · rw [if_pos h2]; omega
      · rw [if_neg h2]; omega
theorem gcn_no {A : rn_L} {k0 : Nat} (h0 : k0 < A.flatten.length + A.length) (h : ¬ isG A k0) : ∀ k, k0 < k → gcn A k + 1 ≤ k
  | 0, h9 => by omega
  | k + 1, h9 => by
    by_cases hk : k0 = k
    · subst hk
      rw [gcn_n h0 h]
      have := gcn_le A k0
      omega
    · have := gcn_no h0 h k (by omega)
      have h8 : gcn A (k + 1) ≤ gcn A k + 1 := by
        show gcn A k + _ ≤ _
        by_cases h1 : k < A.flatten.length
        · rw [if_pos h1]; exact Nat.le_refl _
        · rw [if_neg h1]
          by_cases h2 : rn_b A (k - A.flatten.length) = rn_b A (k - A.flatten.length + 1)
          · rw [if_pos h2]; exact Nat.le_refl _
          · rw [if_neg h2]; omega
      omega
theorem gcn_25 {A : rn_L} (hV : A.flatten.length ≤ 20) (hC : A.length ≤ 6) : gcn A (A.flatten.length + A.length) ≤ 25 := by
  by_cases h0 : A.flatten.length = 0
  · have := gcn_le A (A.flatten.length + A.length)
    omega
  · obtain ⟨h1, h2, h3⟩ := rn_c_in A 0 (by omega)
    have := gcn_no (A := A) (k0 := A.flatten.length + rn_c A 0) (by omega) (fun h9 => by
      rcases h9 with h9 | ⟨-, -, h9⟩
      · omega
      · rw [Nat.add_sub_cancel_left] at h9
        omega) (A.flatten.length + A.length) (by omega)
    omega
section MV3
variable {X : (Nat → Nat → Int32) → Prop} {bb m n : Nat} {z : ow_MS} {A : rn_L} {sg : Nat → Bool}
theorem u_X13_twoCome_1 {x2 : Int32} {x3 : Int32} {x4 : Int32} {r1 : Nat} {t0 : Int32} {t1 : Int32} {z : ow_MS} {Q : ow_MS → Prop} (H : Tt (fun K k => qm_X13_twoCome_1 K (q_X13_twoCome K k) x2 x3 x4 r1 t0 t1 z) Q) : Tt (fun K k => q_X13_twoCome K k 1 x2 x3 x4 r1 t0 t1 z) Q := w_un (fun _ _ => rfl) H
theorem u_X13_twoCome_2 {x2 : Int32} {x3 : Int32} {x4 : Int32} {r1 : Nat} {t0 : Int32} {t1 : Int32} {z : ow_MS} {Q : ow_MS → Prop} (H : Tt (fun K k => qm_X13_twoCome_2 K (q_X13_twoCome K k) x2 x3 x4 r1 t0 t1 z) Q) : Tt (fun K k => q_X13_twoCome K k 2 x2 x3 x4 r1 t0 t1 z) Q := w_un (fun _ _ => rfl) H
theorem u_X13_twoCome_5 {x2 : Int32} {x3 : Int32} {x4 : Int32} {r1 : Nat} {t0 : Int32} {t1 : Int32} {z : ow_MS} {Q : ow_MS → Prop} (H : Tt (fun K k => qm_X13_twoCome_5 K (q_X13_twoCome K k) x2 x3 x4 r1 t0 t1 z) Q) : Tt (fun K k => q_X13_twoCome K k 5 x2 x3 x4 r1 t0 t1 z) Q := w_un (fun _ _ => rfl) H
theorem u_X13_twoCome_3 {x2 : Int32} {x3 : Int32} {x4 : Int32} {r1 : Nat} {t0 : Int32} {t1 : Int32} {z : ow_MS} {Q : ow_MS → Prop} (H : Tt (fun K k => qm_X13_twoCome_3 K (q_X13_twoCome K k) x2 x3 x4 r1 t0 t1 z) Q) : Tt (fun K k => q_X13_twoCome K k 3 x2 x3 x4 r1 t0 t1 z) Q := w_un (fun _ _ => rfl) H
theorem u_X13_twoCome_4 {x2 : Int32} {x3 : Int32} {x4 : Int32} {r1 : Nat} {t0 : Int32} {t1 : Int32} {z : ow_MS} {Q : ow_MS → Prop} (H : Tt (fun K k => qm_X13_twoCome_4 K (q_X13_twoCome K k) x2 x3 x4 r1 t0 t1 z) Q) : Tt (fun K k => q_X13_twoCome K k 4 x2 x3 x4 r1 t0 t1 z) Q := w_un (fun _ _ => rfl) H
theorem e_X13_twoCome {r1 : Nat} {z : ow_MS} {Q : ow_MS → Prop} (H : Tt (fun K k => q_X13_twoCome K k 0 0 0 0 r1 0 0 z) Q) : Te (fun K => qe_X13_twoCome K r1 z) Q := w_te H
theorem u_X13_twoCome_0 {x2 : Int32} {x3 : Int32} {x4 : Int32} {r1 : Nat} {t0 : Int32} {t1 : Int32} {z : ow_MS} {Q : ow_MS → Prop} (H : Tt (fun K k => qm_X13_twoCome_0 K (q_X13_twoCome K k) x2 x3 x4 r1 t0 t1 z) Q) : Tt (fun K k => q_X13_twoCome K k 0 x2 x3 x4 r1 t0 t1 z) Q := w_un (fun _ _ => rfl) H
theorem u_X13_twoGo_1 {x2 : Int32} {x3 : Int32} {x4 : Int32} {x5 : Int32} {r1 : Nat} {z : ow_MS} {Q : ow_MS → Prop} (H : Tt (fun K k => qm_X13_twoGo_1 K (q_X13_twoGo K k) x2 x3 x4 x5 r1 z) Q) : Tt (fun K k => q_X13_twoGo K k 1 x2 x3 x4 x5 r1 z) Q := w_un (fun _ _ => rfl) H
theorem u_X13_twoGo_3 {x2 : Int32} {x3 : Int32} {x4 : Int32} {x5 : Int32} {r1 : Nat} {z : ow_MS} {Q : ow_MS → Prop} (H : Tt (fun K k => qm_X13_twoGo_3 K (q_X13_twoGo K k) x2 x3 x4 x5 r1 z) Q) : Tt (fun K k => q_X13_twoGo K k 3 x2 x3 x4 x5 r1 z) Q := w_un (fun _ _ => rfl) H
theorem u_X13_twoGo_2 {x2 : Int32} {x3 : Int32} {x4 : Int32} {x5 : Int32} {r1 : Nat} {z : ow_MS} {Q : ow_MS → Prop} (H : Tt (fun K k => qm_X13_twoGo_2 K (q_X13_twoGo K k) x2 x3 x4 x5 r1 z) Q) : Tt (fun K k => q_X13_twoGo K k 2 x2 x3 x4 x5 r1 z) Q := w_un (fun _ _ => rfl) H
theorem e_X13_twoGo {r1 : Nat} {z : ow_MS} {Q : ow_MS → Prop} (H : Tt (fun K k => q_X13_twoGo K k 0 0 0 0 0 r1 z) Q) : Te (fun K => qe_X13_twoGo K r1 z) Q := w_te H
theorem u_X13_twoGo_0 {x2 : Int32} {x3 : Int32} {x4 : Int32} {x5 : Int32} {r1 : Nat} {z : ow_MS} {Q : ow_MS → Prop} (H : Tt (fun K k => qm_X13_twoGo_0 K (q_X13_twoGo K k) x2 x3 x4 x5 r1 z) Q) : Tt (fun K k => q_X13_twoGo K k 0 x2 x3 x4 x5 r1 z) Q := w_un (fun _ _ => rfl) H
end MV3
end
section
/-! 99zzv.three -/
/-! faces are closed under going on; threeChange -/
theorem nx_pv {A : rn_L} {v : Nat} (hv : v < A.flatten.length) : rn_nx A (rn_pv A v) = v := by
  obtain ⟨h1, h2, h3⟩ := rn_c_in A v hv
  have hc : rn_c A (rn_pv A v) = rn_c A v := by
    refine rn_c_of A _ _ ?_ ?_
    · unfold rn_pv
      by_cases h : rn_b A (rn_c A v) < v
      · rw [if_pos h]; omega
      · rw [if_neg h]; omega
    · unfold rn_pv
      by_cases h : rn_b A (rn_c A v) < v
      · rw [if_pos h]; omega
      · rw [if_neg h]; omega
  unfold rn_nx
  rw [hc]
  unfold rn_pv
  by_cases h : rn_b A (rn_c A v) < v
  · rw [if_pos h, if_pos (by omega)]; omega
  · rw [if_neg h, if_neg (by omega)]; omega
theorem pv_nx {A : rn_L} {v : Nat} (hv : v < A.flatten.length) : rn_pv A (rn_nx A v) = v := by
  obtain ⟨h1, h2, h3⟩ := rn_c_in A v hv
  have hc : rn_c A (rn_nx A v) = rn_c A v := by
    refine rn_c_of A _ _ ?_ ?_
    · unfold rn_nx
      by_cases h : v + 1 < rn_b A (rn_c A v + 1)
      · rw [if_pos h]; omega
      · rw [if_neg h]; omega
    · unfold rn_nx
      by_cases h : v + 1 < rn_b A (rn_c A v + 1)
      · rw [if_pos h]; omega
      · rw [if_neg h]; omega
  unfold rn_pv
  rw [hc]
  unfold rn_nx
  by_cases h : v + 1 < rn_b A (rn_c A v + 1)
  · rw [if_pos h, if_pos (by omega)]; omega
  · rw [if_neg h, if_neg (by omega)]; omega
/-- the visit at which a side ends, the side behind it -/
def hdv (A : rn_L) (s : Nat) : Nat := if s % 2 = 0 then rn_nx A (s / 2) else s / 2
def tlv (A : rn_L) (s : Nat) : Nat := if s % 2 = 0 then s / 2 else rn_nx A (s / 2)
def smv (A : rn_L) (sg : Nat → Bool) (v : Nat) : Bool := (decide (uns A v = 0) && !sg (crs A v)) || (decide (uns A v = 1) && sg (crs A v))
def wyv (A : rn_L) (sg : Nat → Bool) (s : Nat) : Nat := if smv A sg (hdv A s) then s % 2 else 1 - s % 2
def phi (A : rn_L) (sg : Nat → Bool) (s : Nat) : Nat := if wyv A sg s = 0 then 2 * mtf A (hdv A s) else 2 * rn_pv A (mtf A (hdv A s)) + 1
theorem hdv_lt {A : rn_L} {s : Nat} (hs : s < 2 * A.flatten.length) : hdv A s < A.flatten.length := by
  unfold hdv
  by_cases h : s % 2 = 0
  · rw [if_pos h]; exact rn_nx_lt (by omega)
  · rw [if_neg h]; omega
theorem wyv_lt {A : rn_L} {sg : Nat → Bool} {s : Nat} : wyv A sg s < 2 := by
  unfold wyv
  cases smv A sg (hdv A s) <;> simp <;> omega
theorem phi_lt {A : rn_L} {sg : Nat → Bool} {s : Nat} (hd : rn_ok A.flatten) (hs : s < 2 * A.flatten.length) : phi A sg s < 2 * A.flatten.length := by
  have h1 := mtf_lt hd (hdv_lt hs)
  have h2 := rn_pv_lt (A := A) h1
  unfold phi
  by_cases h : wyv A sg s = 0
  · rw [if_pos h]; omega
  · rw [if_neg h]; omega
theorem phi_tl {A : rn_L} {sg : Nat → Bool} {s : Nat} (hd : rn_ok A.flatten) (hs : s < 2 * A.flatten.length) : tlv A (phi A sg s) = mtf A (hdv A s) := by
  have h1 := mtf_lt hd (hdv_lt hs)
  unfold phi tlv
  by_cases h : wyv A sg s = 0
  · rw [if_pos h, if_pos (by omega)]; omega
  · rw [if_neg h, if_neg (by omega), show (2 * rn_pv A (mtf A (hdv A s)) + 1) / 2 = rn_pv A (mtf A (hdv A s)) by omega, nx_pv h1]
theorem phi_inj {A : rn_L} {sg : Nat → Bool} {s t : Nat} (hd : rn_ok A.flatten) (hs : s < 2 * A.flatten.length) (ht : t < 2 * A.flatten.length) (e : phi A sg s = phi A sg t) : s = t := by
  have e1 := phi_tl (sg := sg) hd hs
  have e2 := phi_tl (sg := sg) hd ht
  rw [e, e2] at e1
  have hh : hdv A s = hdv A t := by
    have a1 := mtf_mtf hd (hdv_lt hs)
    have a2 := mtf_mtf hd (hdv_lt ht)
    rw [← e1, a2] at a1
    exact a1.symm
  have hw : wyv A sg s = wyv A sg t := by
    have b1 := wyv_lt (A := A) (sg := sg) (s := s)
    have b2 := wyv_lt (A := A) (sg := sg) (s := t)
    unfold phi at e
    by_cases c1 : wyv A sg s = 0
    · by_cases c2 : wyv A sg t = 0
      · rw [c1, c2]
      · rw [if_pos c1, if_neg c2] at e; omega
    · by_cases c2 : wyv A sg t = 0
      · rw [if_neg c1, if_pos c2] at e; omega
      · omega
  have hp : s % 2 = t % 2 := by
    unfold wyv at hw
    rw [hh] at hw
    cases hb : smv A sg (hdv A t) with
    | true => rw [hb] at hw; exact hw
    | false =>
      rw [hb] at hw
      have : 1 - s % 2 = 1 - t % 2 := hw
      omega
  unfold hdv at hh
  rw [hp] at hh
  by_cases c : t % 2 = 0
  · rw [if_pos c, if_pos c] at hh
    have := congrArg (rn_pv A) hh
    rw [pv_nx (by omega), pv_nx (by omega)] at this
    omega
  · rw [if_neg c, if_neg c] at hh
    omega
def itf (f : Nat → Nat) : Nat → Nat → Nat
  | 0, x => x
  | t + 1, x => f (itf f t x)
/-- what the marks of the faces below f keep -/
def wkF2 (A : rn_L) (sg : Nat → Bool) (f : Nat) (M : Nat → Int32) : Prop := ∀ f', f' < f → ∀ s, s < 2 * A.flatten.length → (M s = nI f' ↔ M (phi A sg s) = nI f')
theorem tn_walk2 {n : Nat} {z : ow_MS} {A : rn_L} {sg : Nat → Bool} (hn : mw_net n) (hlen : A.flatten.length ≤ 40) (hd : rn_ok A.flatten) (hL : rn_lk z n A) (hG : rn_sg z n A.flatten sg) : Te (fun K => qe_X12_walk K n z) (fun z1 => fr (frW n) z z1 ∧ ∃ F, rn_fc z1 n A.flatten.length F ∧ wkF2 A sg F (z1.2.1 (n + 14))) := by
  have frK : ∀ {y y1 : ow_MS}, fr (frW n) y y1 → rn_lk y n A → rn_lk y1 n A := fun hf h => fr_lk hf (fun g hg => by rcases hg with hg | hg | hg <;> omega) h
  have frS : ∀ {y y1 : ow_MS}, fr (frW n) y y1 → rn_sg y n A.flatten sg → rn_sg y1 n A.flatten sg := fun hf h p hp => by
    rw [(hf (n + 6) (by omega)).2.1]
    exact h p hp
  let Q : ow_MS → Prop := fun z1 => fr (frW n) z z1 ∧ ∃ F, rn_fc z1 n A.flatten.length F ∧ wkF2 A sg F (z1.2.1 (n + 14))
  obtain ⟨V, hV⟩ : ∃ V, A.flatten.length = V := ⟨_, rfl⟩
  have V40 : V ≤ 40 := by omega
  have turn : ∀ (k0 a : Nat) (z1 : ow_MS), fr (frW n) z z1 → a < 2 * V → Tt (fun K k => q_X12_walk K k 3 (nI k0) (nI (phi A sg a)) 0 0 0 0 n 0 z1) Q → Tt (fun K k => q_X12_walk K k 4 (nI k0) (nI a) 0 0 0 0 n (nI (hdv A a)) z1) Q := by
    intro k0 a z1 hf ha hout
    have hL1 := frK hf hL
    have hv2 : hdv A a < A.flatten.length := hdv_lt (by omega)
    obtain ⟨v, hv⟩ : ∃ v, v = hdv A a := ⟨_, rfl⟩
    rw [← hv] at hv2 ⊢
    have hp := vAt_of hv2
    obtain ⟨hx, hu⟩ := hd.1.2 v _ hp
    obtain ⟨e4, e5⟩ := lk_cu hL1 hv2
    have hwl := mtf_lt hd hv2
    have e7 := lk_m hd hL1 hv2
    have e10 := lk_p hL1 hwl
    have hpv := rn_pv_lt (A := A) hwl
    have e6 : z1.2.1 (n + 6) (crs A v) = if sg (crs A v) then -1 else 1 := frS hf hG _ (List.mem_of_getElem? hp)
    have c9 : ∀ (x4 : Int32), Tt (fun K k => q_X12_walk K k 9 (nI k0) (nI a) (nI v) x4 0 0 n (nI (wyv A sg a)) z1) Q := by
      intro x4
      have hw2 := wyv_lt (A := A) (sg := sg) (s := a)
      refine u_X12_walk_9 ?_; unfold qm_X12_walk_9
      refine w_rdI (pl7 hn) rfl (by omega) e7 (w_eqN (b := 0) (by omega) (by omega) (fun h9 => ?_) (fun h9 => w_rdI (pl10 hn) rfl (by omega) e10 ?_))
      · refine u_X12_walk_10 ?_; unfold qm_X12_walk_10
        rw [rn_mul2]
        unfold phi at hout
        rw [if_pos h9, ← hv] at hout
        exact hout
      · refine u_X12_walk_10 ?_; unfold qm_X12_walk_10
        rw [rn_mul2, nI_1]
        unfold phi at hout
        rw [if_neg h9, ← hv] at hout
        exact hout
    have c8 : ∀ (b : Bool), smv A sg v = b → Tt (fun K k => q_X12_walk K k 8 (nI k0) (nI a) (nI v) 0 0 0 n (bZ b) z1) Q := by
      intro b hb
      have hwy : wyv A sg a = if b then a % 2 else 1 - a % 2 := by
        unfold wyv
        rw [← hv, hb]
      have h9 := c9 (bZ b)
      rw [hwy] at h9
      refine u_X12_walk_8 ?_; unfold qm_X12_walk_8
      rw [rn_and1 (by omega)]
      cases b with
      | false =>
        refine w_ifT rfl ?_
        rw [show (1 : Int32) - nI (a % 2) = nI (1 - a % 2) from pk_sub (a := 1) (by omega)]
        exact h9
      | true => exact w_ifF (by decide) h9
    have c6 : smv A sg v = true → Tt (fun K k => q_X12_walk K k 6 (nI k0) (nI a) (nI v) 0 0 0 n 0 z1) Q := by
      intro hb
      refine u_X12_walk_6 ?_; unfold qm_X12_walk_6
      exact c8 true hb
    have c7 : smv A sg v = false → Tt (fun K k => q_X12_walk K k 7 (nI k0) (nI a) (nI v) 0 0 0 n 0 z1) Q := by
      intro hb
      refine u_X12_walk_7 ?_; unfold qm_X12_walk_7
      exact c8 false hb
    have hu9 : uns A v < 2 := hu
    have c5 : ¬ (uns A v = 0 ∧ sg (crs A v) = false) → Tt (fun K k => q_X12_walk K k 5 (nI k0) (nI a) (nI v) 0 0 0 n 0 z1) Q := by
      intro hno
      refine u_X12_walk_5 ?_; unfold qm_X12_walk_5
      refine w_rdI (pl5 hn) rfl (by omega) e5 (w_eqN (b := 1) (by omega) (by omega) (fun h9 => w_rdI (pl4 hn) rfl (by omega) e4 (w_rdI (pl6 hn) rfl hx e6 ?_)) (fun h9 => c7 ?_))
      · cases hs : sg (crs A v) with
        | true =>
          refine w_ifF (by decide) (c6 ?_)
          unfold smv
          rw [hs, decide_eq_true h9, Bool.and_self, Bool.or_true]
        | false =>
          refine w_ifT (by decide) (c7 ?_)
          unfold smv
          rw [hs, decide_eq_false (by omega)]
          simp
      · have h0 : uns A v = 0 := by omega
        have hs : sg (crs A v) = true := by
          cases hs : sg (crs A v) with
          | true => rfl
          | false => exact absurd ⟨h0, hs⟩ hno
        unfold smv
        rw [hs, decide_eq_false h9]
        simp
    refine u_X12_walk_4 ?_; unfold qm_X12_walk_4
    refine w_rdI (pl5 hn) rfl (by omega) e5 (w_eqN (b := 0) (by omega) (by omega) (fun h9 => w_rdI (pl4 hn) rfl (by omega) e4 (w_rdI (pl6 hn) rfl hx e6 ?_)) (fun h9 => c5 (fun h8 => h9 h8.1)))
    cases hs : sg (crs A v) with
    | true => exact w_ifF (by decide) (c5 (fun h8 => by rw [hs] at h8; exact absurd h8.2 (by decide)))
    | false =>
      refine w_ifT (by decide) (c6 ?_)
      unfold smv
      rw [hs, decide_eq_true h9]
      rfl
  have inn : ∀ (k0 f : Nat), f < 80 → k0 < 2 * V → ∀ (u t : Nat) (z1 : ow_MS), rn_cU (z1.2.1 (n + 14)) (2 * V) ≤ u → fr (frW n) z z1 → z1.1 (n + 16) = nI f → wkI V f (z1.2.1 (n + 14)) (z1.2.1 (n + 15)) → wkF2 A sg f (z1.2.1 (n + 14)) → itf (phi A sg) t k0 < 2 * V → (∀ s, s < 2 * V → (z1.2.1 (n + 14) s = nI f ↔ ∃ i, i < t ∧ s = itf (phi A sg) i k0)) → (∀ i j, i < j → j < t → itf (phi A sg) i k0 ≠ itf (phi A sg) j k0) → (t = 0 → z1.2.1 (n + 14) k0 = -1) → (∀ z2, fr (frW n) z z2 → z2.1 (n + 16) = nI (f + 1) → wkI V f (z2.2.1 (n + 14)) (z2.2.1 (n + 15)) → wkF2 A sg (f + 1) (z2.2.1 (n + 14)) → z2.2.1 (n + 14) k0 ≠ -1 → (∀ s, z1.2.1 (n + 14) s ≠ -1 → z2.2.1 (n + 14) s ≠ -1) → Tt (fun K k => q_X12_walk K k 11 (nI k0) 0 0 0 0 0 n 0 z2) Q) → Tt (fun K k => q_X12_walk K k 3 (nI k0) (nI (itf (phi A sg) t k0)) 0 0 0 0 n 0 z1) Q := by
    intro k0 f hf80 hk0 u
    -- the end of a face
    have endf : ∀ (t : Nat) (z1 : ow_MS), wkI V f (z1.2.1 (n + 14)) (z1.2.1 (n + 15)) → wkF2 A sg f (z1.2.1 (n + 14)) → itf (phi A sg) t k0 < 2 * V → (∀ s, s < 2 * V → (z1.2.1 (n + 14) s = nI f ↔ ∃ i, i < t ∧ s = itf (phi A sg) i k0)) → (∀ i j, i < j → j < t → itf (phi A sg) i k0 ≠ itf (phi A sg) j k0) → (t = 0 → z1.2.1 (n + 14) k0 = -1) → z1.2.1 (n + 14) (itf (phi A sg) t k0) ≠ -1 → wkF2 A sg (f + 1) (z1.2.1 (n + 14)) ∧ z1.2.1 (n + 14) k0 ≠ -1 := by
      intro t z1 hI hW hat hmk hdi ht0 hM
      have itlt : ∀ i, itf (phi A sg) i k0 < 2 * V := by
        intro i
        induction i with
        | zero => exact hk0
        | succ i ih =>
          have := phi_lt (sg := sg) hd (s := itf (phi A sg) i k0) (by omega)
          show phi A sg (itf (phi A sg) i k0) < _
          omega
      have htp : 0 < t := by
        rcases Nat.eq_zero_or_pos t with e | e
        · exfalso
          have := ht0 e
          rw [e] at hM
          exact hM this
        · exact e
      obtain ⟨t1, rfl⟩ : ∃ t1, t = t1 + 1 := ⟨t - 1, by omega⟩
      have hlast : z1.2.1 (n + 14) (itf (phi A sg) t1 k0) = nI f := (hmk _ (itlt t1)).mpr ⟨t1, by omega, rfl⟩
      have hk : itf (phi A sg) (t1 + 1) k0 = k0 := by
        rcases hI.1 _ hat with h9 | ⟨f', h9, h8⟩
        · exact absurd h9 hM
        · by_cases hff : f' = f
          · rw [hff] at h8
            obtain ⟨i, hi, e⟩ := (hmk _ hat).mp h8
            rcases Nat.eq_zero_or_pos i with e0 | e0
            · rw [e0] at e
              exact e
            · obtain ⟨i1, rfl⟩ : ∃ i1, i = i1 + 1 := ⟨i - 1, by omega⟩
              have e : phi A sg (itf (phi A sg) t1 k0) = phi A sg (itf (phi A sg) i1 k0) := e
              have e9 := phi_inj hd (by have := itlt t1; omega) (by have := itlt i1; omega) e
              exact absurd e9.symm (hdi i1 t1 (by omega) (by omega))
          · have h7 : z1.2.1 (n + 14) (phi A sg (itf (phi A sg) t1 k0)) = nI f' := h8
            have h6 := (hW f' (by omega) _ (by have := itlt t1; omega)).mpr h7
            rw [hlast] at h6
            have := (nI_eq (by omega) (by omega)).mp h6
            omega
      refine ⟨fun f' hf' s hs => ?_, ?_⟩
      · by_cases hff : f' = f
        · subst hff
          have hs' : s < 2 * V := by omega
          have hph := phi_lt (sg := sg) hd hs
          rw [hmk s hs', hmk _ (by omega)]
          constructor
          · rintro ⟨i, hi, e⟩
            by_cases hil : i = t1
            · refine ⟨0, by omega, ?_⟩
              rw [e, hil]
              exact hk
            · exact ⟨i + 1, by omega, by rw [e]; rfl⟩
          · rintro ⟨i, hi, e⟩
            rcases Nat.eq_zero_or_pos i with e0 | e0
            · refine ⟨t1, by omega, phi_inj (sg := sg) hd hs (by have := itlt t1; omega) ?_⟩
              rw [e, e0]
              exact hk.symm
            · obtain ⟨i1, rfl⟩ : ∃ i1, i = i1 + 1 := ⟨i - 1, by omega⟩
              exact ⟨i1, by omega, phi_inj hd hs (by have := itlt i1; omega) e⟩
        · exact hW f' (by omega) s hs
      · have : z1.2.1 (n + 14) k0 = nI f := (hmk k0 hk0).mpr ⟨0, by omega, rfl⟩
        rw [this]
        exact rn_neg1 (by omega)
    induction u with
    | zero =>
      intro t z1 hu hf h16 hI hW hat hmk hdi ht0 hout
      refine u_X12_walk_3 ?_; unfold qm_X12_walk_3
      refine w_rdI (pl14 hn) rfl (by omega) rfl (w_if (fun hM => ?_) (fun hM => w_rdF h16 (w_wrF ?_)))
      · have := rn_cU_upd (M := z1.2.1 (n + 14)) (x := 0) hM (by decide) (2 * V) hat
        omega
      · rw [nI_1]
        obtain ⟨g1, g2⟩ := endf t z1 hI hW hat hmk hdi ht0 hM
        exact hout _ (fr_F2 hf (Or.inr (Or.inr rfl))) po_usF_at hI g1 g2 (fun s hs => hs)
    | succ u ih =>
      intro t z1 hu hf h16 hI hW hat hmk hdi ht0 hout
      obtain ⟨a, haE⟩ : ∃ a, a = itf (phi A sg) t k0 := ⟨_, rfl⟩
      have ha : a < 2 * V := by rw [haE]; exact hat
      refine u_X12_walk_3 ?_; unfold qm_X12_walk_3
      refine w_rdI (pl14 hn) rfl (by omega) rfl (w_if (fun hM => ?_) (fun hM => w_rdF h16 (w_wrF ?_)))
      · rw [← haE] at hM ⊢
        have hne : nI f ≠ -1 := rn_neg1 (by omega)
        have cu := rn_cU_upd (M := z1.2.1 (n + 14)) (x := nI f) hM hne (2 * V) ha
        have hf2 : fr (frW n) z (usI (usI z1 (n + 14) a (nI f)) (n + 15) f (z1.2.1 (n + 15) f + 1)) := fr_I2 (fr_I2 hf (Or.inl rfl)) (Or.inr (Or.inl rfl))
        have r14 : (usI (usI z1 (n + 14) a (nI f)) (n + 15) f (z1.2.1 (n + 15) f + 1)).2.1 (n + 14) = upd (z1.2.1 (n + 14)) a (nI f) := by
          rw [po_usI_ot (by omega), po_usI_row]
        have r15 : (usI (usI z1 (n + 14) a (nI f)) (n + 15) f (z1.2.1 (n + 15) f + 1)).2.1 (n + 15) = upd (z1.2.1 (n + 15)) f (z1.2.1 (n + 15) f + 1) := by
          rw [po_usI_row, po_usI_ot (by omega)]
        have hna : ∀ i, i < t → itf (phi A sg) i k0 ≠ a := by
          intro i hi e
          have : z1.2.1 (n + 14) a = nI f := (hmk a ha).mpr ⟨i, hi, e.symm⟩
          rw [hM] at this
          exact hne this.symm
        have hphl := phi_lt (sg := sg) hd (s := a) (by omega)
        have go4 : Tt (fun K k => q_X12_walk K k 4 (nI k0) (nI a) 0 0 0 0 n (nI (hdv A a)) (usI (usI z1 (n + 14) a (nI f)) (n + 15) f (z1.2.1 (n + 15) f + 1))) Q := by
          refine turn k0 a _ hf2 ha ?_
          have step := ih (t + 1) (usI (usI z1 (n + 14) a (nI f)) (n + 15) f (z1.2.1 (n + 15) f + 1)) (by rw [r14]; omega) hf2 h16 (by rw [r14, r15]; exact wkI_st (by omega) ha hM hI) (by
            rw [r14]
            intro f' hf' s hs
            have ne1 : nI f ≠ nI f' := fun e => by have := (nI_eq (by omega) (by omega)).mp e; omega
            by_cases hsa : s = a
            · rw [hsa, pk_us]
              have hMa : z1.2.1 (n + 14) a ≠ nI f' := by rw [hM]; exact fun e => rn_neg1 (v := f') (by omega) e.symm
              have hp2 : z1.2.1 (n + 14) (phi A sg a) ≠ nI f' := fun e => hMa ((hW f' hf' a (by omega)).mpr e)
              by_cases hpa : phi A sg a = a
              · rw [hpa, pk_us]
              · rw [pk_un hpa]
                exact ⟨fun e => absurd e ne1, fun e => absurd e hp2⟩
            · rw [pk_un hsa]
              by_cases hpa : phi A sg s = a
              · rw [hpa, pk_us]
                have hMa : z1.2.1 (n + 14) a ≠ nI f' := by rw [hM]; exact fun e => rn_neg1 (v := f') (by omega) e.symm
                have h3 := hW f' hf' s hs
                rw [hpa] at h3
                exact ⟨fun e => absurd (h3.mp e) hMa, fun e => absurd e ne1⟩
              · rw [pk_un hpa]
                exact hW f' hf' s hs) (by
            show phi A sg (itf (phi A sg) t k0) < 2 * V
            rw [← haE]
            omega) (by
            rw [r14]
            intro s hs
            by_cases hsa : s = a
            · rw [hsa, pk_us]
              exact ⟨fun _ => ⟨t, by omega, haE⟩, fun _ => rfl⟩
            · rw [pk_un hsa, hmk s hs]
              constructor
              · rintro ⟨i, hi, e⟩
                exact ⟨i, by omega, e⟩
              · rintro ⟨i, hi, e⟩
                by_cases hit : i = t
                · rw [hit, ← haE] at e
                  exact absurd e hsa
                · exact ⟨i, by omega, e⟩) (by
            intro i j hij hj
            by_cases hjt : j = t
            · rw [hjt, ← haE]
              exact hna i (by omega)
            · exact hdi i j hij (by omega)) (fun e => by omega) (fun z2 g1 g2 g3 g4 g5 g6 => by
            rw [r14] at g6
            refine hout z2 g1 g2 g3 g4 g5 (fun s hs => ?_)
            by_cases hsa : s = a
            · exact g6 s (by rw [hsa, pk_us]; exact hne)
            · exact g6 s (by rw [pk_un hsa]; exact hs))
          have e1 : itf (phi A sg) (t + 1) k0 = phi A sg a := by
            rw [haE]
            rfl
          rw [e1] at step
          exact step
        have e9 := ((frK hf2 hL).2.1 (a / 2) (by omega)).2.1
        refine w_rdF h16 (w_wrI (pl14 hn) rfl (by omega) (w_rdF h16 (w_rdI (pl15 hn) rfl hf80 (rd_ot (by omega) rfl) (w_wrI (pl15 hn) rfl hf80 ?_))))
        rw [rn_shr1 (by omega), rn_and1 (by omega)]
        refine w_eqN (b := 0) (by omega) (by omega) (fun h9 => w_rdI (pl9 hn) rfl (by omega) e9 ?_) (fun h9 => ?_)
        · unfold hdv at go4
          rw [if_pos h9] at go4
          exact go4
        · unfold hdv at go4
          rw [if_neg h9] at go4
          exact go4
      · rw [nI_1]
        obtain ⟨g1, g2⟩ := endf t z1 hI hW hat hmk hdi ht0 hM
        exact hout _ (fr_F2 hf (Or.inr (Or.inr rfl))) po_usF_at hI g1 g2 (fun s hs => hs)
  have out : ∀ (d c f : Nat) (z1 : ow_MS), c + d = 2 * V → f ≤ c → fr (frW n) z z1 → z1.1 (n + 16) = nI f → wkO V f (z1.2.1 (n + 14)) (z1.2.1 (n + 15)) → wkF2 A sg f (z1.2.1 (n + 14)) → (∀ s, s < c → z1.2.1 (n + 14) s ≠ -1) → Tt (fun K k => q_X12_walk K k 2 (nI c) 0 0 0 0 0 n 0 z1) Q := by
    intro d
    induction d with
    | zero =>
      intro c f z1 hc hfc hf h16 hO hW hm
      refine u_X12_walk_2 ?_; unfold qm_X12_walk_2
      refine w_rdF (frK hf hL).V ?_
      rw [rn_mul2]
      refine w_leT (by omega) (by omega) (w_some ⟨hf, f, ⟨h16, by omega, fun s hs => ?_, ?_⟩, hW⟩)
      · rw [hV] at hs
        exact (hO.1 s hs).resolve_left (hm s (by omega))
      · rw [hV]
        exact hO.2
    | succ d ih =>
      intro c f z1 hc hfc hf h16 hO hW hm
      refine u_X12_walk_2 ?_; unfold qm_X12_walk_2
      refine w_rdF (frK hf hL).V ?_
      rw [rn_mul2]
      refine w_leF (by omega) (by omega) (w_rdI (pl14 hn) rfl (by omega) rfl (w_if (fun c1 => w_rdF h16 (w_wrI (pl15 hn) rfl (by omega) ?_)) (fun c1 => ?_)))
      · have r14 : (usI z1 (n + 15) f 0).2.1 (n + 14) = z1.2.1 (n + 14) := po_usI_ot (by omega)
        refine inn c f (by omega) (by omega) _ 0 _ (Nat.le_refl _) (fr_I2 hf (Or.inr (Or.inl rfl))) h16 (by rw [r14, po_usI_row]; exact wkI_0 (by omega) hO) (by rw [r14]; exact hW) (show c < 2 * V by omega) (by
          rw [r14]
          intro s hs
          constructor
          · intro e
            rcases hO.1 s hs with h9 | ⟨f', h9, h8⟩
            · rw [e] at h9
              exact absurd h9 (rn_neg1 (by omega))
            · rw [e] at h8
              have := (nI_eq (by omega) (by omega)).mp h8
              omega
          · rintro ⟨i, hi, -⟩
            omega) (fun i j _ hj => by omega) (fun _ => by rw [r14]; exact c1) (fun z2 g1 g2 g3 g4 g5 g6 => ?_)
        refine u_X12_walk_11 ?_; unfold qm_X12_walk_11
        rw [nI_1]
        rw [r14] at g6
        refine ih (c + 1) (f + 1) z2 (by omega) (by omega) g1 g2 g3 g4 (fun s hs => ?_)
        by_cases hsc : s = c
        · rw [hsc]; exact g5
        · exact g6 s (hm s (by omega))
      · refine u_X12_walk_11 ?_; unfold qm_X12_walk_11
        rw [nI_1]
        refine ih (c + 1) f z1 (by omega) (by omega) hf h16 hO hW (fun s hs => ?_)
        by_cases hsc : s = c
        · rw [hsc]; exact c1
        · exact hm s (by omega)
  have zer : ∀ (d c : Nat) (z1 : ow_MS), c + d = 2 * V → fr (frW n) z z1 → (∀ s, s < c → z1.2.1 (n + 14) s = -1) → Tt (fun K k => q_X12_walk K k 1 (nI c) 0 0 0 0 0 n 0 z1) Q := by
    intro d
    induction d with
    | zero =>
      intro c z1 hc hf hm
      refine u_X12_walk_1 ?_; unfold qm_X12_walk_1
      refine w_rdF (frK hf hL).V ?_
      rw [rn_mul2]
      exact w_leT (by omega) (by omega) (w_wrF (out (2 * V) 0 0 _ (by omega) (Nat.le_refl _) (fr_F2 hf (Or.inr (Or.inr rfl))) po_usF_at ⟨fun s hs => Or.inl (hm s (by omega)), fun f hf9 => by omega⟩ (fun f hf9 => by omega) (fun s hs => by omega)))
    | succ d ih =>
      intro c z1 hc hf hm
      refine u_X12_walk_1 ?_; unfold qm_X12_walk_1
      refine w_rdF (frK hf hL).V ?_
      rw [rn_mul2]
      refine w_leF (by omega) (by omega) (w_wrI (pl14 hn) rfl (by omega) ?_)
      rw [nI_1]
      refine ih (c + 1) _ (by omega) (fr_I2 hf (Or.inl rfl)) (fun s hs => ?_)
      by_cases hsc : s = c
      · rw [hsc]; exact po_usI_at
      · exact rd_ne hsc (hm s (by omega))
  refine e_X12_walk ?_
  refine u_X12_walk_0 ?_; unfold qm_X12_walk_0
  exact zer (2 * V) 0 z (by omega) fr_rf (fun s hs => by omega)
end
section
/-! 99zzw.three2 -/
/-! threeChange -/
def rsh (A : rn_L) (G : Nat → Nat × Nat) (k : Nat) : rn_L := (List.range k).map (fun c => (List.range' (rn_b A c) (rlen A c)).map G)
theorem rsh_fl {A : rn_L} {G : Nat → Nat × Nat} : ∀ k, k ≤ A.length → (rsh A G k).flatten = (List.range (rn_b A k)).map G
  | 0, _ => by rw [rn_b0]; rfl
  | k + 1, h => by
    have ih := rsh_fl (A := A) (G := G) k (by omega)
    have hm := rn_b_mono A k
    unfold rsh at ih ⊢
    rw [List.range_succ, List.map_append, List.flatten_append, ih]
    have e : List.range (rn_b A (k + 1)) = List.range (rn_b A k) ++ List.range' (rn_b A k) (rlen A k) := by
      have h1 : rn_b A (k + 1) = rn_b A k + rlen A k := by unfold rlen; omega
      rw [h1, List.range_eq_range', List.range_eq_range']
      have := List.range'_append (s := 0) (m := rn_b A k) (n := rlen A k) (step := 1)
      rw [Nat.zero_add, Nat.one_mul] at this
      exact this.symm
    rw [e, List.map_append]
    simp
theorem rsh_take {A : rn_L} {G : Nat → Nat × Nat} {k c : Nat} (h : c ≤ k) : (rsh A G k).take c = rsh A G c := by
  unfold rsh
  rw [← List.map_take, List.take_range, Nat.min_eq_left h]
theorem At_rsh {z z1 : ow_MS} {n : Nat} {A : rn_L} {G : Nat → Nat × Nat} (h : rn_At z n A []) (e1 : z1.1 (n + 1) = z.1 (n + 1)) (e2 : z1.1 (n + 2) = z.1 (n + 2)) (e3 : z1.2.1 (n + 3) = z.2.1 (n + 3)) (h4 : ∀ v, v < A.flatten.length → z1.2.1 (n + 4) v = nI (G v).1 ∧ z1.2.1 (n + 5) v = nI (G v).2) : rn_At z1 n (rsh A G A.length) [] := by
  obtain ⟨a1, a2, a3, a4⟩ := h
  have hl : (rsh A G A.length).length = A.length := by unfold rsh; rw [List.length_map, List.length_range]
  have hf := rsh_fl (A := A) (G := G) A.length (Nat.le_refl _)
  rw [rn_b_len] at hf
  refine ⟨?_, ?_, fun c hc => ?_, fun v p hv => ?_⟩
  · rw [e1, a1, List.append_nil, List.append_nil, hf, List.length_map, List.length_range]
  · rw [e2, a2, hl]
  · rw [hl] at hc
    rw [e3, a3 c hc, rsh_take hc, rsh_fl c hc, List.length_map, List.length_range]
    rfl
  · rw [List.append_nil, hf, List.getElem?_map] at hv
    by_cases hvl : v < A.flatten.length
    · rw [List.getElem?_range hvl] at hv
      cases hv
      exact h4 v hvl
    · rw [List.getElem?_eq_none (by rw [List.length_range]; omega)] at hv
      cases hv
/-- visits that change places in pairs -/
theorem wkF_sw {A : rn_L} {s : Nat → Nat} (hF : wkF A.flatten) (h1 : ∀ v, v < A.flatten.length → s v < A.flatten.length) (h2 : ∀ v, v < A.flatten.length → s (s v) = v) : wkF (rsh A (fun v => vAt A (s v)) A.length).flatten := by
  have hf := rsh_fl (A := A) (G := fun v => vAt A (s v)) A.length (Nat.le_refl _)
  rw [rn_b_len] at hf
  rw [hf]
  have mem : ∀ p, p ∈ (List.range A.flatten.length).map (fun v => vAt A (s v)) ↔ p ∈ A.flatten := by
    intro p
    rw [List.mem_map]
    constructor
    · rintro ⟨v, hv, e⟩
      rw [← e]
      exact List.mem_of_getElem? (vAt_of (h1 v (List.mem_range.mp hv)))
    · intro hp
      obtain ⟨v, hv, e⟩ := List.getElem_of_mem hp
      refine ⟨s v, List.mem_range.mpr (h1 v hv), ?_⟩
      show vAt A (s (s v)) = p
      rw [h2 v hv, vAt_eq (List.getElem?_eq_getElem hv), e]
  refine ⟨nodup_map List.nodup_range (fun a b ha hb e => ?_), fun p hp => ?_⟩
  · have ha := List.mem_range.mp ha
    have hb := List.mem_range.mp hb
    have := nodup_at hF.1 (vAt_of (h1 a ha)) (by rw [show vAt A (s a) = vAt A (s b) from e]; exact vAt_of (h1 b hb))
    have h9 := congrArg s this
    rw [h2 a ha, h2 b hb] at h9
    exact h9
  · obtain ⟨g1, g2, g3⟩ := hF.2 p ((mem p).mp hp)
    exact ⟨g1, g2, (mem _).mpr g3⟩
def sw2 (a b p : Nat) : Nat := if p = a then b else if p = b then a else p
theorem sw2_inv {a b p : Nat} : sw2 a b (sw2 a b p) = p := by
  unfold sw2
  repeat' split
  all_goals omega
theorem sw2_comm {a b c d p : Nat} (h1 : a ≠ c) (h2 : a ≠ d) (h3 : b ≠ c) (h4 : b ≠ d) : sw2 a b (sw2 c d p) = sw2 c d (sw2 a b p) := by
  unfold sw2
  repeat' split
  all_goals omega
theorem sw2_lt {a b p V : Nat} (h1 : a < V) (h2 : b < V) (h3 : p < V) : sw2 a b p < V := by
  unfold sw2
  repeat' split
  all_goals omega
/-- three pairs, six visits -/
theorem sw_three {v0 w0 v1 w1 v2 w2 V : Nat} (h : v0 < V ∧ w0 < V ∧ v1 < V ∧ w1 < V ∧ v2 < V ∧ w2 < V) (h01 : v0 ≠ v1 ∧ v0 ≠ w1 ∧ w0 ≠ v1 ∧ w0 ≠ w1) (h12 : v1 ≠ v2 ∧ v1 ≠ w2 ∧ w1 ≠ v2 ∧ w1 ≠ w2) (h20 : v2 ≠ v0 ∧ v2 ≠ w0 ∧ w2 ≠ v0 ∧ w2 ≠ w0) : (∀ p, p < V → sw2 v0 w0 (sw2 v1 w1 (sw2 v2 w2 p)) < V) ∧ ∀ p, p < V → sw2 v0 w0 (sw2 v1 w1 (sw2 v2 w2 (sw2 v0 w0 (sw2 v1 w1 (sw2 v2 w2 p))))) = p := by
  refine ⟨fun p hp => sw2_lt h.1 h.2.1 (sw2_lt h.2.2.1 h.2.2.2.1 (sw2_lt h.2.2.2.2.1 h.2.2.2.2.2 hp)), fun p _ => ?_⟩
  rw [sw2_comm (a := v2) (b := w2) (c := v0) (d := w0) h20.1 h20.2.1 h20.2.2.1 h20.2.2.2]
  rw [sw2_comm (a := v1) (b := w1) (c := v0) (d := w0) (fun e => h01.1 e.symm) (fun e => h01.2.2.1 e.symm) (fun e => h01.2.1 e.symm) (fun e => h01.2.2.2 e.symm)]
  rw [sw2_inv]
  rw [sw2_comm (a := v2) (b := w2) (c := v1) (d := w1) (fun e => h12.1 e.symm) (fun e => h12.2.2.1 e.symm) (fun e => h12.2.1 e.symm) (fun e => h12.2.2.2 e.symm)]
  rw [sw2_inv, sw2_inv]
/-- the sides of a face below s -/
def fl (M : Nat → Int32) (f s : Nat) : List Nat := (List.range s).filter (fun t => decide (M t = nI f))
theorem fl_s {M : Nat → Int32} {f s : Nat} : fl M f (s + 1) = fl M f s ++ if M s = nI f then [s] else [] := by
  unfold fl
  rw [List.range_succ, List.filter_append]
  by_cases h : M s = nI f <;> simp [h]
theorem fl_len {M : Nat → Int32} {f : Nat} : ∀ s, (fl M f s).length = cE M (nI f) s
  | 0 => rfl
  | s + 1 => by
    rw [fl_s, List.length_append, fl_len s]
    show _ = cE M (nI f) s + if M s = nI f then 1 else 0
    by_cases h : M s = nI f
    · rw [if_pos h, if_pos h]; rfl
    · rw [if_neg h, if_neg h]; rfl
theorem cE_mono {M : Nat → Int32} {x : Int32} {a b : Nat} (h : a ≤ b) : cE M x a ≤ cE M x b := by
  obtain ⟨d, rfl⟩ : ∃ d, b = a + d := ⟨b - a, by omega⟩
  induction d with
  | zero => exact Nat.le_refl _
  | succ d ih =>
    have := ih (by omega)
    show _ ≤ cE M x (a + d) + _
    omega
/-- a triangle whose corners differ has six visits -/
theorem tri_six {A : rn_L} {sg : Nat → Bool} {s0 s1 s2 : Nat} (hd : rn_ok A.flatten) (h : s0 < 2 * A.flatten.length ∧ s1 < 2 * A.flatten.length ∧ s2 < 2 * A.flatten.length) (hne : s0 ≠ s1 ∧ s0 ≠ s2 ∧ s1 ≠ s2) (hcl : ∀ s, (s = s0 ∨ s = s1 ∨ s = s2) → phi A sg s = s0 ∨ phi A sg s = s1 ∨ phi A sg s = s2) (c01 : crs A (hdv A s0) ≠ crs A (hdv A s1)) (c02 : crs A (hdv A s0) ≠ crs A (hdv A s2)) (c12 : crs A (hdv A s1) ≠ crs A (hdv A s2)) : ∀ i j, (i = s0 ∨ i = s1 ∨ i = s2) → (j = s0 ∨ j = s1 ∨ j = s2) → (i ≠ j → hdv A i ≠ hdv A j ∧ tlv A i ≠ tlv A j) ∧ hdv A i ≠ tlv A j := by
  have lt : ∀ i, (i = s0 ∨ i = s1 ∨ i = s2) → i < 2 * A.flatten.length := fun i hi => by omega
  have cne : ∀ i j, (i = s0 ∨ i = s1 ∨ i = s2) → (j = s0 ∨ j = s1 ∨ j = s2) → i ≠ j → crs A (hdv A i) ≠ crs A (hdv A j) := by
    intro i j hi hj hij
    rcases hi with e | e | e <;> rcases hj with e2 | e2 | e2 <;> rw [e, e2] <;> first | exact absurd (e.trans e2.symm) hij | exact c01 | exact c02 | exact c12 | exact c01.symm | exact c02.symm | exact c12.symm
  have i01 : phi A sg s0 ≠ phi A sg s1 := fun e => hne.1 (phi_inj hd h.1 h.2.1 e)
  have i02 : phi A sg s0 ≠ phi A sg s2 := fun e => hne.2.1 (phi_inj hd h.1 h.2.2 e)
  have i12 : phi A sg s1 ≠ phi A sg s2 := fun e => hne.2.2 (phi_inj hd h.2.1 h.2.2 e)
  have p0 := hcl s0 (Or.inl rfl)
  have p1 := hcl s1 (Or.inr (Or.inl rfl))
  have p2 := hcl s2 (Or.inr (Or.inr rfl))
  have pre : ∀ j, (j = s0 ∨ j = s1 ∨ j = s2) → ∃ i, (i = s0 ∨ i = s1 ∨ i = s2) ∧ phi A sg i = j := by
    intro j hj
    by_cases e0 : phi A sg s0 = j
    · exact ⟨s0, Or.inl rfl, e0⟩
    · by_cases e1 : phi A sg s1 = j
      · exact ⟨s1, Or.inr (Or.inl rfl), e1⟩
      · refine ⟨s2, Or.inr (Or.inr rfl), ?_⟩
        omega
  intro i j hi hj
  obtain ⟨a, ha, ea⟩ := pre i hi
  obtain ⟨b, hb, eb⟩ := pre j hj
  have ti : tlv A i = mtf A (hdv A a) := by rw [← ea]; exact phi_tl hd (lt a ha)
  have tj : tlv A j = mtf A (hdv A b) := by rw [← eb]; exact phi_tl hd (lt b hb)
  have hai := hdv_lt (lt a ha)
  have hbj := hdv_lt (lt b hb)
  refine ⟨fun hij => ⟨fun e => cne i j hi hj hij (by rw [e]), fun e => ?_⟩, fun e => ?_⟩
  · rw [ti, tj] at e
    have hab : a ≠ b := fun e9 => hij (by rw [← ea, ← eb, e9])
    have := congrArg (crs A) e
    rw [crs_mtf hd hai, crs_mtf hd hbj] at this
    exact cne a b ha hb hab this
  · rw [tj] at e
    by_cases hib : i = b
    · rw [hib] at e
      exact mtf_ne hd hbj e.symm
    · have := congrArg (crs A) e
      rw [crs_mtf hd hbj] at this
      exact cne i b hi hb hib this
def ne2 (a b : Nat) : Prop := a ≠ b
def dj4 (a b c d : Nat) : Prop := a ≠ c ∧ a ≠ d ∧ b ≠ c ∧ b ≠ d
theorem tri_pairs {A : rn_L} {sg : Nat → Bool} {s0 s1 s2 : Nat} (hd : rn_ok A.flatten) (h : s0 < 2 * A.flatten.length ∧ s1 < 2 * A.flatten.length ∧ s2 < 2 * A.flatten.length) (hne : s0 ≠ s1 ∧ s0 ≠ s2 ∧ s1 ≠ s2) (hcl : ∀ s, (s = s0 ∨ s = s1 ∨ s = s2) → phi A sg s = s0 ∨ phi A sg s = s1 ∨ phi A sg s = s2) (c01 : crs A (hdv A s0) ≠ crs A (hdv A s1)) (c02 : crs A (hdv A s0) ≠ crs A (hdv A s2)) (c12 : crs A (hdv A s1) ≠ crs A (hdv A s2)) : ne2 (s0 / 2) (rn_nx A (s0 / 2)) ∧ ne2 (s1 / 2) (rn_nx A (s1 / 2)) ∧ ne2 (s2 / 2) (rn_nx A (s2 / 2)) ∧ dj4 (s0 / 2) (rn_nx A (s0 / 2)) (s1 / 2) (rn_nx A (s1 / 2)) ∧ dj4 (s1 / 2) (rn_nx A (s1 / 2)) (s2 / 2) (rn_nx A (s2 / 2)) ∧ dj4 (s2 / 2) (rn_nx A (s2 / 2)) (s0 / 2) (rn_nx A (s0 / 2)) := by
  have six := tri_six (sg := sg) hd h hne hcl c01 c02 c12
  have pr : ∀ s, (s / 2 = hdv A s ∧ rn_nx A (s / 2) = tlv A s ∨ s / 2 = tlv A s ∧ rn_nx A (s / 2) = hdv A s) := by
    intro s
    unfold hdv tlv
    by_cases c : s % 2 = 0
    · rw [if_pos c, if_pos c]; exact Or.inr ⟨rfl, rfl⟩
    · rw [if_neg c, if_neg c]; exact Or.inl ⟨rfl, rfl⟩
  have one : ∀ i, (i = s0 ∨ i = s1 ∨ i = s2) → ne2 (i / 2) (rn_nx A (i / 2)) := by
    intro i hi
    have a3 := (six i i hi hi).2
    unfold ne2
    rcases pr i with ⟨e1, e2⟩ | ⟨e1, e2⟩ <;> rw [e2, e1]
    · exact a3
    · exact fun e => a3 e.symm
  have two : ∀ i j, (i = s0 ∨ i = s1 ∨ i = s2) → (j = s0 ∨ j = s1 ∨ j = s2) → i ≠ j → dj4 (i / 2) (rn_nx A (i / 2)) (j / 2) (rn_nx A (j / 2)) := by
    intro i j hi hj hij
    obtain ⟨b1, b2⟩ := (six i j hi hj).1 hij
    have b3 := (six i j hi hj).2
    have b4 := (six j i hj hi).2
    unfold dj4
    rcases pr i with ⟨e1, e2⟩ | ⟨e1, e2⟩ <;> rcases pr j with ⟨e3, e4⟩ | ⟨e3, e4⟩ <;> rw [e2, e4, e1, e3]
    · exact ⟨b1, b3, fun e => b4 e.symm, b2⟩
    · exact ⟨b3, b1, b2, fun e => b4 e.symm⟩
    · exact ⟨fun e => b4 e.symm, b2, b1, b3⟩
    · exact ⟨b2, fun e => b4 e.symm, b3, b1⟩
  exact ⟨one s0 (Or.inl rfl), one s1 (Or.inr (Or.inl rfl)), one s2 (Or.inr (Or.inr rfl)), two s0 s1 (Or.inl rfl) (Or.inr (Or.inl rfl)) hne.1, two s1 s2 (Or.inr (Or.inl rfl)) (Or.inr (Or.inr rfl)) hne.2.2, two s2 s0 (Or.inr (Or.inr rfl)) (Or.inl rfl) (fun e => hne.2.1 e.symm)⟩
theorem sw2_ne {a b c d p : Nat} (h : dj4 a b c d) (hp : p = c ∨ p = d) : sw2 a b p = p := by
  obtain ⟨h1, h2, h3, h4⟩ := h
  unfold sw2
  rcases hp with hp | hp <;> subst hp
  · rw [if_neg (fun e => h1 e.symm), if_neg (fun e => h3 e.symm)]
  · rw [if_neg (fun e => h2 e.symm), if_neg (fun e => h4 e.symm)]
theorem dj4_sy {a b c d : Nat} (h : dj4 a b c d) : dj4 c d a b := ⟨fun e => h.1 e.symm, fun e => h.2.2.1 e.symm, fun e => h.2.1 e.symm, fun e => h.2.2.2 e.symm⟩
section MV4
variable {X : (Nat → Nat → Int32) → Prop} {bb m n : Nat} {z : ow_MS} {A : rn_L} {sg : Nat → Bool}
theorem u_X13_threeChange_7 {x2 : Int32} {x3 : Int32} {x4 : Int32} {x5 : Int32} {x6 : Int32} {r1 : Nat} {t0 : Int32} {t1 : Int32} {t2 : Int32} {z : ow_MS} {Q : ow_MS → Prop} (H : Tt (fun K k => qm_X13_threeChange_7 K (q_X13_threeChange K k) x2 x3 x4 x5 x6 r1 t0 t1 t2 z) Q) : Tt (fun K k => q_X13_threeChange K k 7 x2 x3 x4 x5 x6 r1 t0 t1 t2 z) Q := w_un (fun _ _ => rfl) H
/-- two visits change places -/
theorem tri_step {Q : ow_MS → Prop} {i s : Nat} {x2 x3 x4 : Int32} {G : Nat → Nat × Nat} {y1 y2 : ow_MS} (hn : mw_net n) (hn3 : n ≠ 3000) (hl : A.flatten.length ≤ 24) (hi : i < 3) (hs9 : s < 2 * A.flatten.length) (h33 : y2.2.1 33 i = nI (s / 2)) (hne2 : ne2 (s / 2) (rn_nx A (s / 2))) (hG1 : G (s / 2) = vAt A (s / 2)) (hG2 : G (rn_nx A (s / 2)) = vAt A (rn_nx A (s / 2))) (o1 : rn_lk y1 n A) (hfy : fr (fun g => 3004 ≤ g ∧ g ≤ 3005) y1 y2) (hGv : ∀ v, v < A.flatten.length → y2.2.1 3004 v = nI (G v).1 ∧ y2.2.1 3005 v = nI (G v).2) (hout : ∀ y3 : ow_MS, fr (fun g => 3004 ≤ g ∧ g ≤ 3005) y1 y3 → (∀ v, v < A.flatten.length → y3.2.1 3004 v = nI (G (sw2 (s / 2) (rn_nx A (s / 2)) v)).1 ∧ y3.2.1 3005 v = nI (G (sw2 (s / 2) (rn_nx A (s / 2)) v)).2) → Tt (fun K i9 => q_X13_threeChange K i9 7 x2 x3 x4 (nI (i + 1)) 0 n 0 0 0 y3) Q) : Tt (fun K i9 => q_X13_threeChange K i9 7 x2 x3 x4 (nI i) 0 n 0 0 0 y2) Q := by
  have hmn := net_mod hn
  have hsl : s / 2 < A.flatten.length := by omega
  have hnl := rn_nx_lt (A := A) hsl
  have o3 : rn_lk y2 n A := fr_lk hfy (fun g hg => by omega) o1
  obtain ⟨v, hv⟩ : ∃ v, v = s / 2 := ⟨_, rfl⟩
  obtain ⟨w, hw⟩ : ∃ w, w = rn_nx A (s / 2) := ⟨_, rfl⟩
  rw [← hw, ← hv] at hne2
  rw [← hw] at hnl hG2 hout
  rw [← hv] at hsl h33 hG1 hout
  have ew : rn_nx A v = w := by rw [hv, hw]
  have hvw : v ≠ w := hne2
  obtain ⟨a4, a5⟩ := lk_cu o3 hsl
  obtain ⟨b4, b5⟩ := lk_cu o3 hnl
  refine u_X13_threeChange_7 ?_; unfold qm_X13_threeChange_7
  rw [nI_1]
  refine w_leF (a := 3) (by omega) (by omega) (w_rdI ml33 rfl (by omega) h33 (w_rdI (pl9 hn) rfl (by omega) ((lk_n o3 hsl).trans (by rw [ew])) (w_rdI (pl4 hn) rfl (by omega) b4 (w_wrI (pl4 pn3) rfl (by omega) (w_rdI (pl5 hn) rfl (by omega) (rd_ot (by omega) b5) (w_wrI (pl5 pn3) rfl (by omega) (w_rdI (pl4 hn) rfl (by omega) (rd_ot (by omega) (rd_ot (by omega) a4)) (w_wrI (pl4 pn3) rfl (by omega) (w_rdI (pl5 hn) rfl (by omega) (rd_ot (by omega) (rd_ot (by omega) (rd_ot (by omega) a5))) (w_wrI (pl5 pn3) rfl (by omega) (hout _ (fr_I2 (fr_I2 (fr_I2 (fr_I2 hfy (by omega)) (by omega)) (by omega)) (by omega)) (fun p hp => ?_))))))))))))
  show (usI (usI (usI (usI y2 3004 v (nI (crs A w))) 3005 v (nI (uns A w))) 3004 w (nI (crs A v))) 3005 w (nI (uns A v))).2.1 3004 p = _ ∧ (usI (usI (usI (usI y2 3004 v (nI (crs A w))) 3005 v (nI (uns A w))) 3004 w (nI (crs A v))) 3005 w (nI (uns A v))).2.1 3005 p = _
  unfold sw2
  by_cases c1 : p = v
  · rw [if_pos c1, hG2, c1]
    exact ⟨rd_ot (by decide) (rd_ne hvw (rd_ot (by decide) po_usI_at)), rd_ne hvw (rd_ot (by decide) po_usI_at)⟩
  · rw [if_neg c1]
    by_cases c2 : p = w
    · rw [if_pos c2, hG1, c2]
      exact ⟨rd_ot (by decide) po_usI_at, po_usI_at⟩
    · rw [if_neg c2]
      exact ⟨rd_ot (by decide) (rd_ne c2 (rd_ot (by decide) (rd_ne c1 (hGv p hp).1))), rd_ne c2 (rd_ot (by decide) (rd_ne c1 (rd_ot (by decide) (hGv p hp).2)))⟩
theorem e_X13_threeChange {r1 : Nat} {z : ow_MS} {Q : ow_MS → Prop} (H : Tt (fun K k => q_X13_threeChange K k 0 0 0 0 0 0 r1 0 0 0 z) Q) : Te (fun K => qe_X13_threeChange K r1 z) Q := w_te H
theorem u_X13_threeChange_0 {x2 : Int32} {x3 : Int32} {x4 : Int32} {x5 : Int32} {x6 : Int32} {r1 : Nat} {t0 : Int32} {t1 : Int32} {t2 : Int32} {z : ow_MS} {Q : ow_MS → Prop} (H : Tt (fun K k => qm_X13_threeChange_0 K (q_X13_threeChange K k) x2 x3 x4 x5 x6 r1 t0 t1 t2 z) Q) : Tt (fun K k => q_X13_threeChange K k 0 x2 x3 x4 x5 x6 r1 t0 t1 t2 z) Q := w_un (fun _ _ => rfl) H
theorem u_X13_threeChange_1 {x2 : Int32} {x3 : Int32} {x4 : Int32} {x5 : Int32} {x6 : Int32} {r1 : Nat} {t0 : Int32} {t1 : Int32} {t2 : Int32} {z : ow_MS} {Q : ow_MS → Prop} (H : Tt (fun K k => qm_X13_threeChange_1 K (q_X13_threeChange K k) x2 x3 x4 x5 x6 r1 t0 t1 t2 z) Q) : Tt (fun K k => q_X13_threeChange K k 1 x2 x3 x4 x5 x6 r1 t0 t1 t2 z) Q := w_un (fun _ _ => rfl) H
theorem u_X13_threeChange_8 {x2 : Int32} {x3 : Int32} {x4 : Int32} {x5 : Int32} {x6 : Int32} {r1 : Nat} {t0 : Int32} {t1 : Int32} {t2 : Int32} {z : ow_MS} {Q : ow_MS → Prop} (H : Tt (fun K k => qm_X13_threeChange_8 K (q_X13_threeChange K k) x2 x3 x4 x5 x6 r1 t0 t1 t2 z) Q) : Tt (fun K k => q_X13_threeChange K k 8 x2 x3 x4 x5 x6 r1 t0 t1 t2 z) Q := w_un (fun _ _ => rfl) H
theorem u_X13_threeChange_2 {x2 : Int32} {x3 : Int32} {x4 : Int32} {x5 : Int32} {x6 : Int32} {r1 : Nat} {t0 : Int32} {t1 : Int32} {t2 : Int32} {z : ow_MS} {Q : ow_MS → Prop} (H : Tt (fun K k => qm_X13_threeChange_2 K (q_X13_threeChange K k) x2 x3 x4 x5 x6 r1 t0 t1 t2 z) Q) : Tt (fun K k => q_X13_threeChange K k 2 x2 x3 x4 x5 x6 r1 t0 t1 t2 z) Q := w_un (fun _ _ => rfl) H
theorem u_X13_threeChange_6 {x2 : Int32} {x3 : Int32} {x4 : Int32} {x5 : Int32} {x6 : Int32} {r1 : Nat} {t0 : Int32} {t1 : Int32} {t2 : Int32} {z : ow_MS} {Q : ow_MS → Prop} (H : Tt (fun K k => qm_X13_threeChange_6 K (q_X13_threeChange K k) x2 x3 x4 x5 x6 r1 t0 t1 t2 z) Q) : Tt (fun K k => q_X13_threeChange K k 6 x2 x3 x4 x5 x6 r1 t0 t1 t2 z) Q := w_un (fun _ _ => rfl) H
theorem u_X13_threeChange_5 {x2 : Int32} {x3 : Int32} {x4 : Int32} {x5 : Int32} {x6 : Int32} {r1 : Nat} {t0 : Int32} {t1 : Int32} {t2 : Int32} {z : ow_MS} {Q : ow_MS → Prop} (H : Tt (fun K k => qm_X13_threeChange_5 K (q_X13_threeChange K k) x2 x3 x4 x5 x6 r1 t0 t1 t2 z) Q) : Tt (fun K k => q_X13_threeChange K k 5 x2 x3 x4 x5 x6 r1 t0 t1 t2 z) Q := w_un (fun _ _ => rfl) H
theorem u_X13_threeChange_4 {x2 : Int32} {x3 : Int32} {x4 : Int32} {x5 : Int32} {x6 : Int32} {r1 : Nat} {t0 : Int32} {t1 : Int32} {t2 : Int32} {z : ow_MS} {Q : ow_MS → Prop} (H : Tt (fun K k => qm_X13_threeChange_4 K (q_X13_threeChange K k) x2 x3 x4 x5 x6 r1 t0 t1 t2 z) Q) : Tt (fun K k => q_X13_threeChange K k 4 x2 x3 x4 x5 x6 r1 t0 t1 t2 z) Q := w_un (fun _ _ => rfl) H
theorem u_X13_threeChange_3 {x2 : Int32} {x3 : Int32} {x4 : Int32} {x5 : Int32} {x6 : Int32} {r1 : Nat} {t0 : Int32} {t1 : Int32} {t2 : Int32} {z : ow_MS} {Q : ow_MS → Prop} (H : Tt (fun K k => qm_X13_threeChange_3 K (q_X13_threeChange K k) x2 x3 x4 x5 x6 r1 t0 t1 t2 z) Q) : Tt (fun K k => q_X13_threeChange K k 3 x2 x3 x4 x5 x6 r1 t0 t1 t2 z) Q := w_un (fun _ _ => rfl) H
end MV4
end
section
/-! 99zzx.try -/
/-! tryMoves, moves, moved, simplify, way -/
section MV5
variable {X : (Nat → Nat → Int32) → Prop} {bb m n : Nat} {z : ow_MS} {A : rn_L} {sg : Nat → Bool}
abbrev frT (n g : Nat) : Prop := g < 1000 ∧ g ≠ 12 ∧ g ≠ 28 ∨ 3001 ≤ g ∧ g ≤ 3016 ∨ n + 12 ≤ g ∧ g ≤ n + 16
theorem u_X13_tryMoves_1 {x2 : Int32} {x3 : Int32} {r1 : Nat} {z : ow_MS} {Q : ow_MS → Prop} (H : Tt (fun K k => qm_X13_tryMoves_1 K (q_X13_tryMoves K k) x2 x3 r1 z) Q) : Tt (fun K k => q_X13_tryMoves K k 1 x2 x3 r1 z) Q := w_un (fun _ _ => rfl) H
theorem u_X13_tryMoves_2 {x2 : Int32} {x3 : Int32} {r1 : Nat} {z : ow_MS} {Q : ow_MS → Prop} (H : Tt (fun K k => qm_X13_tryMoves_2 K (q_X13_tryMoves K k) x2 x3 r1 z) Q) : Tt (fun K k => q_X13_tryMoves K k 2 x2 x3 r1 z) Q := w_un (fun _ _ => rfl) H
theorem e_X13_tryMoves {r1 : Nat} {x2 : Int32} {z : ow_MS} {Q : ow_MS → Prop} (H : Tt (fun K k => q_X13_tryMoves K k 0 x2 0 r1 z) Q) : Te (fun K => qe_X13_tryMoves K r1 x2 z) Q := w_te H
theorem u_X13_tryMoves_0 {x2 : Int32} {x3 : Int32} {r1 : Nat} {z : ow_MS} {Q : ow_MS → Prop} (H : Tt (fun K k => qm_X13_tryMoves_0 K (q_X13_tryMoves K k) x2 x3 r1 z) Q) : Tt (fun K k => q_X13_tryMoves K k 0 x2 x3 r1 z) Q := w_un (fun _ _ => rfl) H
/-- out of a row of diagrams into cur -/
theorem to_unpack {h o la : Nat} (hh : h < 1000) (hla : (mX.2 h).2.1 = la) (ha : la < 2 ^ 30) (ho : o + 32 ≤ la) (hv : vRow z h o A sg) : Te (fun K => qe_X13_unpack K h (nI o) 1000 z) (fun z1 => rn_At z1 1000 A [] ∧ rn_sg z1 1000 A.flatten sg ∧ fr (fun g => 1001 ≤ g ∧ g ≤ 1006) z z1) := by
  obtain ⟨h1, ⟨c, h2, h3⟩, h4⟩ := hv
  have hl := okF_len h2
  have hll := h1.1
  have hw := okF_wk (by omega) h2
  exact w_monoE (tr_unpack pn1 hh hla ha (by omega) (by omega) (by omega) (fun p hp => ⟨(hw.2 p hp).1, (hw.2 p hp).2.1⟩) h1) (fun z1 ⟨g1, g2, g3⟩ => ⟨g1, g2, fr_mono (fun g hg => by omega) g3⟩)
theorem to_link {z0 : ow_MS} {h o : Nat} (hv : vRow z0 h o A sg) (h1 : rn_At z 1000 A []) (h2 : rn_sg z 1000 A.flatten sg) : Te (fun K => qe_X12_link K 1000 z) (fun z1 => oNet z1 1000 A sg ∧ fr (fun g => 1007 ≤ g ∧ g ≤ 1011) z z1) := by
  obtain ⟨-, ⟨c, h5, h3⟩, h4⟩ := hv
  have hl := okF_len h5
  have hw := okF_wk (by omega) h5
  refine w_monoE (tn_link pn1 (by omega) (by omega) (wkF_ok hw).1 h1) (fun z1 ⟨f1, f2, f3⟩ => ⟨⟨⟨f2, f3⟩, fun p hp => ?_, ⟨c, h5, h3⟩, h4⟩, fr_mono (fun g hg => by have := hg.1; have := hg.2; omega) f1⟩)
  rw [(f1 (1000 + 6) (fun h9 => by have := h9.1; omega)).2.1]
  exact h2 p hp
theorem u_X13_moves_1 {x1 : Int32} {x2 : Int32} {z : ow_MS} {Q : (Int32 × ow_MS) → Prop} (H : Tt (fun K k => qm_X13_moves_1 K (q_X13_moves K k) x1 x2 z) Q) : Tt (fun K k => q_X13_moves K k 1 x1 x2 z) Q := w_un (fun _ _ => rfl) H
theorem e_X13_moves {x1 : Int32} {x2 : Int32} {z : ow_MS} {Q : (Int32 × ow_MS) → Prop} (H : Tt (fun K k => q_X13_moves K k 0 x1 x2 z) Q) : Te (fun K => qe_X13_moves K x1 x2 z) Q := w_te H
theorem u_X13_moves_0 {x1 : Int32} {x2 : Int32} {z : ow_MS} {Q : (Int32 × ow_MS) → Prop} (H : Tt (fun K k => qm_X13_moves_0 K (q_X13_moves K k) x1 x2 z) Q) : Tt (fun K k => q_X13_moves K k 0 x1 x2 z) Q := w_un (fun _ _ => rfl) H
theorem u_X13_moved_1 {x1 : Int32} {z : ow_MS} {Q : (Int32 × ow_MS) → Prop} (H : Tt (fun K k => qm_X13_moved_1 K (q_X13_moved K k) x1 z) Q) : Tt (fun K k => q_X13_moved K k 1 x1 z) Q := w_un (fun _ _ => rfl) H
theorem e_X13_moved {x1 : Int32} {z : ow_MS} {Q : (Int32 × ow_MS) → Prop} (H : Tt (fun K k => q_X13_moved K k 0 x1 z) Q) : Te (fun K => qe_X13_moved K x1 z) Q := w_te H
theorem u_X13_moved_0 {x1 : Int32} {z : ow_MS} {Q : (Int32 × ow_MS) → Prop} (H : Tt (fun K k => qm_X13_moved_0 K (q_X13_moved K k) x1 z) Q) : Tt (fun K k => q_X13_moved K k 0 x1 z) Q := w_un (fun _ _ => rfl) H
/-- a row is copied out of the places -/
theorem cp_row {z1 : ow_MS} {h d : Nat} (hv : vRow z 12 (32 * d) A sg) (hc : ∀ i, i < (tk sg A).length + 1 → z1.2.1 h i = z.2.1 12 (32 * d + i)) : vRow z1 h 0 A sg := by
  refine ⟨⟨hv.1.1, hv.1.2.1, ?_, fun i t hi => ?_⟩, hv.2⟩
  · have := hc 0 (by omega)
    rw [Nat.add_zero] at this
    rw [this]
    exact hv.1.2.2.1
  · have := (List.getElem?_eq_some_iff.mp hi).1
    rw [Nat.zero_add, hc (i + 1) (by omega)]
    exact hv.1.2.2.2 i t hi
theorem e_X13_simplify {x1 : Int32} {z : ow_MS} {Q : (Int32 × ow_MS) → Prop} (H : Tt (fun K k => q_X13_simplify K k 0 x1 0 0 0 z) Q) : Te (fun K => qe_X13_simplify K x1 z) Q := w_te H
theorem u_X13_simplify_0 {x1 : Int32} {x2 : Int32} {x3 : Int32} {x4 : Int32} {z : ow_MS} {Q : (Int32 × ow_MS) → Prop} (H : Tt (fun K k => qm_X13_simplify_0 K (q_X13_simplify K k) x1 x2 x3 x4 z) Q) : Tt (fun K k => q_X13_simplify K k 0 x1 x2 x3 x4 z) Q := w_un (fun _ _ => rfl) H
theorem u_X13_simplify_5 {x1 : Int32} {x2 : Int32} {x3 : Int32} {x4 : Int32} {z : ow_MS} {Q : (Int32 × ow_MS) → Prop} (H : Tt (fun K k => qm_X13_simplify_5 K (q_X13_simplify K k) x1 x2 x3 x4 z) Q) : Tt (fun K k => q_X13_simplify K k 5 x1 x2 x3 x4 z) Q := w_un (fun _ _ => rfl) H
theorem u_X13_simplify_2 {x1 : Int32} {x2 : Int32} {x3 : Int32} {x4 : Int32} {z : ow_MS} {Q : (Int32 × ow_MS) → Prop} (H : Tt (fun K k => qm_X13_simplify_2 K (q_X13_simplify K k) x1 x2 x3 x4 z) Q) : Tt (fun K k => q_X13_simplify K k 2 x1 x2 x3 x4 z) Q := w_un (fun _ _ => rfl) H
theorem u_X13_simplify_4 {x1 : Int32} {x2 : Int32} {x3 : Int32} {x4 : Int32} {z : ow_MS} {Q : (Int32 × ow_MS) → Prop} (H : Tt (fun K k => qm_X13_simplify_4 K (q_X13_simplify K k) x1 x2 x3 x4 z) Q) : Tt (fun K k => q_X13_simplify K k 4 x1 x2 x3 x4 z) Q := w_un (fun _ _ => rfl) H
theorem u_X13_simplify_3 {x1 : Int32} {x2 : Int32} {x3 : Int32} {x4 : Int32} {z : ow_MS} {Q : (Int32 × ow_MS) → Prop} (H : Tt (fun K k => qm_X13_simplify_3 K (q_X13_simplify K k) x1 x2 x3 x4 z) Q) : Tt (fun K k => q_X13_simplify K k 3 x1 x2 x3 x4 z) Q := w_un (fun _ _ => rfl) H
theorem u_X13_simplify_1 {x1 : Int32} {x2 : Int32} {x3 : Int32} {x4 : Int32} {z : ow_MS} {Q : (Int32 × ow_MS) → Prop} (H : Tt (fun K k => qm_X13_simplify_1 K (q_X13_simplify K k) x1 x2 x3 x4 z) Q) : Tt (fun K k => q_X13_simplify K k 1 x1 x2 x3 x4 z) Q := w_un (fun _ _ => rfl) H
theorem u_X13_way_1 {x1 : Int32} {x2 : Int32} {x3 : Int32} {x4 : Int32} {x5 : Int32} {x6 : Int32} {t0 : Int32} {z : ow_MS} {Q : (Int32 × ow_MS) → Prop} (H : Tt (fun K k => qm_X13_way_1 K (q_X13_way K k) x1 x2 x3 x4 x5 x6 t0 z) Q) : Tt (fun K k => q_X13_way K k 1 x1 x2 x3 x4 x5 x6 t0 z) Q := w_un (fun _ _ => rfl) H
theorem u_X13_way_2 {x1 : Int32} {x2 : Int32} {x3 : Int32} {x4 : Int32} {x5 : Int32} {x6 : Int32} {t0 : Int32} {z : ow_MS} {Q : (Int32 × ow_MS) → Prop} (H : Tt (fun K k => qm_X13_way_2 K (q_X13_way K k) x1 x2 x3 x4 x5 x6 t0 z) Q) : Tt (fun K k => q_X13_way K k 2 x1 x2 x3 x4 x5 x6 t0 z) Q := w_un (fun _ _ => rfl) H
theorem e_X13_way {x1 : Int32} {x2 : Int32} {z : ow_MS} {Q : (Int32 × ow_MS) → Prop} (H : Tt (fun K k => q_X13_way K k 0 x1 x2 0 0 0 0 0 z) Q) : Te (fun K => qe_X13_way K x1 x2 z) Q := w_te H
theorem u_X13_way_0 {x1 : Int32} {x2 : Int32} {x3 : Int32} {x4 : Int32} {x5 : Int32} {x6 : Int32} {t0 : Int32} {z : ow_MS} {Q : (Int32 × ow_MS) → Prop} (H : Tt (fun K k => qm_X13_way_0 K (q_X13_way K k) x1 x2 x3 x4 x5 x6 t0 z) Q) : Tt (fun K k => q_X13_way K k 0 x1 x2 x3 x4 x5 x6 t0 z) Q := w_un (fun _ _ => rfl) H
theorem u_X13_way_9 {x1 : Int32} {x2 : Int32} {x3 : Int32} {x4 : Int32} {x5 : Int32} {x6 : Int32} {t0 : Int32} {z : ow_MS} {Q : (Int32 × ow_MS) → Prop} (H : Tt (fun K k => qm_X13_way_9 K (q_X13_way K k) x1 x2 x3 x4 x5 x6 t0 z) Q) : Tt (fun K k => q_X13_way K k 9 x1 x2 x3 x4 x5 x6 t0 z) Q := w_un (fun _ _ => rfl) H
theorem u_X13_way_6 {x1 : Int32} {x2 : Int32} {x3 : Int32} {x4 : Int32} {x5 : Int32} {x6 : Int32} {t0 : Int32} {z : ow_MS} {Q : (Int32 × ow_MS) → Prop} (H : Tt (fun K k => qm_X13_way_6 K (q_X13_way K k) x1 x2 x3 x4 x5 x6 t0 z) Q) : Tt (fun K k => q_X13_way K k 6 x1 x2 x3 x4 x5 x6 t0 z) Q := w_un (fun _ _ => rfl) H
theorem u_X13_way_7 {x1 : Int32} {x2 : Int32} {x3 : Int32} {x4 : Int32} {x5 : Int32} {x6 : Int32} {t0 : Int32} {z : ow_MS} {Q : (Int32 × ow_MS) → Prop} (H : Tt (fun K k => qm_X13_way_7 K (q_X13_way K k) x1 x2 x3 x4 x5 x6 t0 z) Q) : Tt (fun K k => q_X13_way K k 7 x1 x2 x3 x4 x5 x6 t0 z) Q := w_un (fun _ _ => rfl) H
theorem u_X13_way_8 {x1 : Int32} {x2 : Int32} {x3 : Int32} {x4 : Int32} {x5 : Int32} {x6 : Int32} {t0 : Int32} {z : ow_MS} {Q : (Int32 × ow_MS) → Prop} (H : Tt (fun K k => qm_X13_way_8 K (q_X13_way K k) x1 x2 x3 x4 x5 x6 t0 z) Q) : Tt (fun K k => q_X13_way K k 8 x1 x2 x3 x4 x5 x6 t0 z) Q := w_un (fun _ _ => rfl) H
theorem u_X13_way_5 {x1 : Int32} {x2 : Int32} {x3 : Int32} {x4 : Int32} {x5 : Int32} {x6 : Int32} {t0 : Int32} {z : ow_MS} {Q : (Int32 × ow_MS) → Prop} (H : Tt (fun K k => qm_X13_way_5 K (q_X13_way K k) x1 x2 x3 x4 x5 x6 t0 z) Q) : Tt (fun K k => q_X13_way K k 5 x1 x2 x3 x4 x5 x6 t0 z) Q := w_un (fun _ _ => rfl) H
theorem u_X13_way_4 {x1 : Int32} {x2 : Int32} {x3 : Int32} {x4 : Int32} {x5 : Int32} {x6 : Int32} {t0 : Int32} {z : ow_MS} {Q : (Int32 × ow_MS) → Prop} (H : Tt (fun K k => qm_X13_way_4 K (q_X13_way K k) x1 x2 x3 x4 x5 x6 t0 z) Q) : Tt (fun K k => q_X13_way K k 4 x1 x2 x3 x4 x5 x6 t0 z) Q := w_un (fun _ _ => rfl) H
theorem u_X13_way_3 {x1 : Int32} {x2 : Int32} {x3 : Int32} {x4 : Int32} {x5 : Int32} {x6 : Int32} {t0 : Int32} {z : ow_MS} {Q : (Int32 × ow_MS) → Prop} (H : Tt (fun K k => qm_X13_way_3 K (q_X13_way K k) x1 x2 x3 x4 x5 x6 t0 z) Q) : Tt (fun K k => q_X13_way K k 3 x1 x2 x3 x4 x5 x6 t0 z) Q := w_un (fun _ _ => rfl) H
end MV5
end
