/-! nets that are built out of visits of a list A: P says which visits are in, q how many components are closed -/
def bm (z : ow_MS) (n : Nat) (A : rn_L) (P : Nat → Prop) (q : Nat) : Prop := ∃ (C : List (List Nat)) (l : List Nat), C.length = q ∧ rn_At z n (C.map (List.map (vAt A))) (l.map (vAt A)) ∧ (C.flatten ++ l).Nodup ∧ ∀ j, j ∈ C.flatten ++ l ↔ P j
def bmE (z : ow_MS) (n : Nat) (A : rn_L) (P : Nat → Prop) (q : Nat) : Prop := ∃ (C : List (List Nat)), C.length = q ∧ rn_At z n (C.map (List.map (vAt A))) [] ∧ C.flatten.Nodup ∧ ∀ j, j ∈ C.flatten ↔ P j
theorem fl_map {A : rn_L} : ∀ C : List (List Nat), (C.map (List.map (vAt A))).flatten = C.flatten.map (vAt A)
  | [] => rfl
  | B :: C => by rw [List.map_cons, List.flatten_cons, fl_map C, List.flatten_cons, List.map_append]
theorem bmE.b {z : ow_MS} {n q : Nat} {A : rn_L} {P : Nat → Prop} (h : bmE z n A P q) : bm z n A P q := by
  obtain ⟨C, h1, h2, h3, h4⟩ := h
  exact ⟨C, [], h1, h2, by rw [List.append_nil]; exact h3, by rw [List.append_nil]; exact h4⟩
theorem bm_eq {z : ow_MS} {n q : Nat} {A : rn_L} {P P2 : Nat → Prop} (h : bm z n A P q) (he : ∀ j, P j ↔ P2 j) : bm z n A P2 q := by
  obtain ⟨C, l, h1, h2, h3, h4⟩ := h
  exact ⟨C, l, h1, h2, h3, fun j => (h4 j).trans (he j)⟩
theorem bmE_eq {z : ow_MS} {n q : Nat} {A : rn_L} {P P2 : Nat → Prop} (h : bmE z n A P q) (he : ∀ j, P j ↔ P2 j) : bmE z n A P2 q := by
  obtain ⟨C, h1, h2, h3, h4⟩ := h
  exact ⟨C, h1, h2, h3, fun j => (h4 j).trans (he j)⟩
theorem bm_fr {F : Nat → Prop} {z z1 : ow_MS} {n q : Nat} {A : rn_L} {P : Nat → Prop} (hf : fr F z z1) (hF : ∀ g, F g → g < n + 1 ∨ n + 5 < g) (h : bm z n A P q) : bm z1 n A P q := by
  obtain ⟨C, l, h1, h2, h3⟩ := h
  exact ⟨C, l, h1, fr_At hf hF h2, h3⟩
theorem bmE_fr {F : Nat → Prop} {z z1 : ow_MS} {n q : Nat} {A : rn_L} {P : Nat → Prop} (hf : fr F z z1) (hF : ∀ g, F g → g < n + 1 ∨ n + 5 < g) (h : bmE z n A P q) : bmE z1 n A P q := by
  obtain ⟨C, h1, h2, h3⟩ := h
  exact ⟨C, h1, fr_At hf hF h2, h3⟩
theorem bm_clear {n : Nat} {z : ow_MS} {A : rn_L} (hn : mw_net n) : Te (fun K => qe_X12_clear K n z) (fun z1 => bmE z1 n A (fun _ => False) 0 ∧ fr (fun g => g = n + 1 ∨ g = n + 2 ∨ g = n + 3) z z1) := by
  refine w_monoE (tn_clear hn) (fun z1 ⟨h1, h2⟩ => ⟨⟨[], rfl, h1, List.nodup_nil, fun j => by simp⟩, h2⟩)
theorem bm_len {z : ow_MS} {n q : Nat} {A : rn_L} {P : Nat → Prop} (h : bm z n A P q) (hP : ∀ j, P j → j < A.flatten.length) : ∃ (C : List (List Nat)) (l : List Nat), C.length = q ∧ rn_At z n (C.map (List.map (vAt A))) (l.map (vAt A)) ∧ (C.flatten ++ l).Nodup ∧ (∀ j, j ∈ C.flatten ++ l ↔ P j) ∧ ((C.map (List.map (vAt A))).flatten ++ l.map (vAt A)).length ≤ A.flatten.length := by
  obtain ⟨C, l, h1, h2, h3, h4⟩ := h
  refine ⟨C, l, h1, h2, h3, h4, ?_⟩
  rw [fl_map, ← List.map_append, List.length_map]
  have := nodup_le (C.flatten ++ l) (List.range A.flatten.length) h3 (fun j hj => List.mem_range.mpr (hP j ((h4 j).mp hj)))
  rw [List.length_range] at this
  exact this
theorem bm_add {n q i : Nat} {x u : Int32} {z : ow_MS} {A : rn_L} {P : Nat → Prop} (hn : mw_net n) (hV : A.flatten.length < 40) (hP : ∀ j, P j → j < A.flatten.length) (hi : ¬ P i) (hx : x = nI (crs A i)) (hu : u = nI (uns A i)) (h : bm z n A P q) : Te (fun K => qe_X12_add K n x u z) (fun z1 => bm z1 n A (fun j => P j ∨ j = i) q ∧ fr (fun g => g = n + 1 ∨ g = n + 4 ∨ g = n + 5) z z1) := by
  obtain ⟨C, l, h1, h2, h3, h4, h5⟩ := bm_len h hP
  rw [hx, hu]
  refine w_monoE (tn_add hn h2 (by omega)) (fun z1 ⟨g1, g2⟩ => ⟨⟨C, l ++ [i], h1, by rw [List.map_append]; exact g1, ?_, fun j => ?_⟩, g2⟩)
  · rw [← List.append_assoc, List.nodup_append]
    refine ⟨h3, by simp, fun a ha b hb e => hi ((h4 i).mp ?_)⟩
    have : b = i := by simpa using hb
    rw [← this, ← e]
    exact ha
  · rw [← List.append_assoc, List.mem_append, h4 j, List.mem_singleton]
theorem bm_end {n q : Nat} {z : ow_MS} {A : rn_L} {P : Nat → Prop} (hn : mw_net n) (hq : q < 39) (h : bm z n A P q) : Te (fun K => qe_X12_end K n z) (fun z1 => bmE z1 n A P (q + 1) ∧ fr (fun g => g = n + 2 ∨ g = n + 3) z z1) := by
  obtain ⟨C, l, h1, h2, h3, h4⟩ := h
  have e : (C ++ [l]).flatten = C.flatten ++ l := by rw [List.flatten_append]; simp
  refine w_monoE (tn_end hn h2 (by rw [List.length_map]; omega)) (fun z1 ⟨g1, g2⟩ => ⟨⟨C ++ [l], by rw [List.length_append, h1]; rfl, by rw [List.map_append]; exact g1, by rw [e]; exact h3, fun j => by rw [e]; exact h4 j⟩, g2⟩)
/-- what is closed under mates may be kept -/
def s1 (x : Int32) : Prop := x = 1 ∨ x = -1
theorem s1_neg {x : Int32} (h : s1 x) : s1 (0 - x) := by
  rcases h with h | h <;> rw [h]
  · exact Or.inr (by decide)
  · exact Or.inl (by decide)
theorem s1_if {b : Bool} {x : Int32} (h : x = if b then -1 else 1) : s1 x := by
  cases b
  · exact Or.inl h
  · exact Or.inr h
theorem s1_sg {x : Int32} (h : s1 x) : x = if decide (x = -1) then -1 else 1 := by
  rcases h with h | h <;> rw [h] <;> decide
theorem bmE_net {z : ow_MS} {n q : Nat} {A : rn_L} {P : Nat → Prop} (hF : wkF A.flatten) (hl : A.flatten.length ≤ 24) (hq : q ≤ 6) (hP : ∀ j, P j → j < A.flatten.length) (hc : ∀ j, P j → P (mtf A j)) (hs : ∀ j, P j → s1 (z.2.1 (n + 6) (crs A j))) (h : bmE z n A P q) : mNet z n := by
  obtain ⟨C, h1, h2, h3, h4⟩ := h
  have hd := wkF_ok hF
  have inj : ∀ i j, i < A.flatten.length → j < A.flatten.length → vAt A i = vAt A j → i = j := fun i j hi hj e => nodup_at hF.1 (vAt_of hi) (by rw [e]; exact vAt_of hj)
  have hlen : C.flatten.length ≤ A.flatten.length := by
    have := nodup_le C.flatten (List.range A.flatten.length) h3 (fun j hj => List.mem_range.mpr (hP j ((h4 j).mp hj)))
    rw [List.length_range] at this
    exact this
  refine ⟨C.map (List.map (vAt A)), fun x => decide (z.2.1 (n + 6) x = -1), h2, fun p hp => ?_, ⟨?_, fun p hp => ?_⟩, ?_, ?_⟩
  · rw [fl_map] at hp
    obtain ⟨j, hj, e⟩ := List.mem_map.mp hp
    rw [← e]
    exact s1_sg (hs j ((h4 j).mp hj))
  · rw [fl_map]
    exact nodup_map h3 (fun i j hi hj e => inj i j (hP i ((h4 i).mp hi)) (hP j ((h4 j).mp hj)) e)
  · rw [fl_map] at hp ⊢
    obtain ⟨j, hj, e⟩ := List.mem_map.mp hp
    have hjP := (h4 j).mp hj
    have hjl := hP j hjP
    obtain ⟨g1, g2, -⟩ := hF.2 _ (List.mem_of_getElem? (vAt_of hjl))
    rw [← e]
    refine ⟨g1, g2, ?_⟩
    have hm := mtf_mt hd hjl
    obtain ⟨n1, p1, p2, a1, a2, a3⟩ := hm
    rw [vAt_of hjl] at a1
    cases a1
    have hml := hP _ (hc j hjP)
    have e2 := vAt_eq a2
    obtain ⟨-, k2, -⟩ := hF.2 _ (List.mem_of_getElem? a2)
    refine List.mem_map.mpr ⟨mtf A j, (h4 _).mpr (hc j hjP), ?_⟩
    have hne : (vAt A j).2 ≠ p2.2 := fun e9 => n1 (inj j (mtf A j) hjl hml (by rw [e2]; exact Prod.ext a3 e9))
    rw [e2]
    exact Prod.ext a3.symm (by show p2.2 = 1 - (vAt A j).2; omega)
  · rw [fl_map, List.length_map]
    omega
  · rw [List.length_map]
    omega
theorem mtf_mtf {A : rn_L} {v : Nat} (hd : rn_ok A.flatten) (hv : v < A.flatten.length) : mtf A (mtf A v) = v := mtf_eq hd (mtf_mt hd hv).symm
theorem mtf_lt {A : rn_L} {v : Nat} (hd : rn_ok A.flatten) (hv : v < A.flatten.length) : mtf A v < A.flatten.length := (rn_mt_lt (mtf_mt hd hv)).2
/-! what a linked net says of a visit -/
theorem lk_cu {z : ow_MS} {n i : Nat} {A : rn_L} (h : rn_lk z n A) (hi : i < A.flatten.length) : z.2.1 (n + 4) i = nI (crs A i) ∧ z.2.1 (n + 5) i = nI (uns A i) := h.1.2.2.2 i _ (by rw [List.append_nil]; exact vAt_of hi)
theorem lk_b {z : ow_MS} {n c : Nat} {A : rn_L} (h : rn_lk z n A) (hc : c ≤ A.length) : z.2.1 (n + 3) c = nI (rn_b A c) := h.1.2.2.1 c hc
theorem lk_c {z : ow_MS} {n i : Nat} {A : rn_L} (h : rn_lk z n A) (hi : i < A.flatten.length) : z.2.1 (n + 8) i = nI (rn_c A i) := (h.2.1 i hi).1
theorem lk_n {z : ow_MS} {n i : Nat} {A : rn_L} (h : rn_lk z n A) (hi : i < A.flatten.length) : z.2.1 (n + 9) i = nI (rn_nx A i) := (h.2.1 i hi).2.1
theorem lk_p {z : ow_MS} {n i : Nat} {A : rn_L} (h : rn_lk z n A) (hi : i < A.flatten.length) : z.2.1 (n + 10) i = nI (rn_pv A i) := (h.2.1 i hi).2.2
theorem lk_m {z : ow_MS} {n i : Nat} {A : rn_L} (hd : rn_ok A.flatten) (h : rn_lk z n A) (hi : i < A.flatten.length) : z.2.1 (n + 7) i = nI (mtf A i) := h.2.2.2 i _ hi (mtf_lt hd hi) (mtf_mt hd hi)
theorem lk_C {z : ow_MS} {n : Nat} {A : rn_L} (h : rn_lk z n A) : z.1 (n + 2) = nI A.length := h.1.2.1
/-- an opened net -/
def oNet (z : ow_MS) (n : Nat) (A : rn_L) (sg : Nat → Bool) : Prop := rn_lk z n A ∧ rn_sg z n A.flatten sg ∧ (∃ c, okF A.flatten c ∧ c ≤ 12) ∧ A.length ≤ 6
theorem oNet_fr {F : Nat → Prop} {z z1 : ow_MS} {n : Nat} {A : rn_L} {sg : Nat → Bool} (hf : fr F z z1) (hF : ∀ g, F g → g < n + 1 ∨ n + 11 < g) (h : oNet z n A sg) : oNet z1 n A sg := by
  obtain ⟨h1, h2, h3⟩ := h
  refine ⟨fr_lk hf (fun g hg => by have := hF g hg; omega) h1, fun p hp => ?_, h3⟩
  rw [(hf (n + 6) (fun h9 => by have := hF _ h9; omega)).2.1]
  exact h2 p hp
theorem oNet.wk {z : ow_MS} {n : Nat} {A : rn_L} {sg : Nat → Bool} (h : oNet z n A sg) : wkF A.flatten := by
  obtain ⟨-, -, ⟨c, h1, h2⟩, -⟩ := h
  exact okF_wk (by omega) h1
theorem oNet.len {z : ow_MS} {n : Nat} {A : rn_L} {sg : Nat → Bool} (h : oNet z n A sg) : A.flatten.length ≤ 24 := by
  obtain ⟨-, -, ⟨c, h1, h2⟩, -⟩ := h
  have := okF_len h1
  omega
theorem oNet.cx {z : ow_MS} {n i : Nat} {A : rn_L} {sg : Nat → Bool} (h : oNet z n A sg) (hi : i < A.flatten.length) : crs A i < 12 ∧ uns A i < 2 ∧ z.2.1 (n + 6) (crs A i) = if sg (crs A i) then -1 else 1 := by
  obtain ⟨-, h2, ⟨c, h1, h3⟩, -⟩ := h
  have hm := List.mem_of_getElem? (vAt_of hi)
  obtain ⟨a1, a2⟩ := (h1.2 _).mp hm
  have a1 : crs A i < c := a1
  exact ⟨by omega, a2, h2 _ hm⟩
theorem oNet_net {z : ow_MS} {n : Nat} {A : rn_L} {sg : Nat → Bool} (h : oNet z n A sg) : mNet z n := ⟨A, sg, h.1.1, h.2.1, h.wk, h.len, h.2.2.2⟩
theorem to_open {z : ow_MS} {n d : Nat} {A : rn_L} {sg : Nat → Bool} (hn : mw_net n) (hd : d < 40) (hv : vRow z 12 (32 * d) A sg) : Te (fun K => qe_X13_open K (nI d) n z) (fun z1 => oNet z1 n A sg ∧ fr (fun g => n + 1 ≤ g ∧ g ≤ n + 11) z z1) := w_monoE (tm_open hn hd hv) (fun _ ⟨h1, h2, h3⟩ => ⟨⟨h1, h2, hv.2.1, hv.2.2⟩, h3⟩)
section PUB
variable {X : (Nat → Nat → Int32) → Prop} {z z1 : ow_MS}
theorem gI_1 {c : Int32} (h : gI X z) : gI X (usF z 1 c) := gI_fr (P := fun g => g = 1) (fr_F rfl) (fun g hg => by rw [hg]; decide) h
theorem w_fail {c : Int32} (h : gI X z) : Tt (fun K _ => cs1 (qe_X13_fails K c z) fun v z1 => some (v, z1)) (fun r => gI X r.2) := w_cs1 tm_fails (fun a z1 e => by
  cases e
  exact w_some (gI_1 h))
theorem gI_net {n : Nat} (hn : mw_net n) {P : Nat → Prop} (hf : fr P z z1) (hP : ∀ g, P g → n + 1 ≤ g ∧ g ≤ n + 20) (h : gI X z) : gI X z1 := gI_fr hf (fun g hg => by
  have := hP g hg
  have := net_mod hn
  unfold per
  omega) h
end PUB
