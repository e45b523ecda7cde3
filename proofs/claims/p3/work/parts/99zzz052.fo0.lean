section
/-! 99zzzzzzzzzzzzia.fo0 -/
/-! which handles a method of the reference may change, read off its text -/
abbrev pf (L R : List Nat) (g : Nat) : Prop := g ∈ L ∨ g ∈ R ∨ 1000 ≤ g
def Fo {O : Type} (st : O → ow_MS) (P : Nat → Prop) (z0 : ow_MS) (e : Option O) : Prop := ∀ r, e = some r → fr P z0 (st r)
section FOB
variable {O α : Type} {st : O → ow_MS} {P P' : Nat → Prop} {z0 z : ow_MS} {h : Nat} {i x : Int32} {y : Int64} {X : ow_Tb}
theorem fo_none : Fo st P z0 (none : Option O) := fun _ h => by cases h
theorem fo_some {r : O} (h : fr P z0 (st r)) : Fo st P z0 (some r) := fun _ e => by cases e; exact h
theorem fo_if {c : Prop} [Decidable c] {a b : Option O} (h1 : Fo st P z0 a) (h2 : Fo st P z0 b) : Fo st P z0 (if c then a else b) := by
  by_cases h : c
  · rw [if_pos h]; exact h1
  · rw [if_neg h]; exact h2
theorem fo_rdF {f : Int32 → Option O} (H : ∀ v, Fo st P z0 (f v)) : Fo st P z0 (rdF z h f) := H _
theorem fo_rdI {f : Int32 → Option O} (H : ∀ v, Fo st P z0 (f v)) : Fo st P z0 (rdI X z h i f) := fo_if fo_none (H _)
theorem fo_rdJ {f : Int64 → Option O} (H : ∀ v, Fo st P z0 (f v)) : Fo st P z0 (rdJ X z h i f) := fo_if fo_none (H _)
theorem fo_rdN {f : Nat → Option O} (H : ∀ n, 1000 ≤ n → Fo st P z0 (f n)) : Fo st P z0 (rdN i f) := fo_if fo_none (H _ (by omega))
theorem fo_nzI {e : Option O} (H : Fo st P z0 e) : Fo st P z0 (nzI x e) := fo_if fo_none H
theorem fo_nzJ {e : Option O} (H : Fo st P z0 e) : Fo st P z0 (nzJ y e) := fo_if fo_none H
theorem fo_okZ {e : Option O} (H : Fo st P z0 e) : Fo st P z0 (okZ x e) := fo_if H fo_none
theorem fo_wrF {f : ow_MS → Option O} (hP : P h) (hz : fr P z0 z) (H : ∀ z1, fr P z0 z1 → Fo st P z0 (f z1)) : Fo st P z0 (wrF z h x f) := H _ (fr_F2 hz hP)
theorem fo_wrI {f : ow_MS → Option O} (hP : P h) (hz : fr P z0 z) (H : ∀ z1, fr P z0 z1 → Fo st P z0 (f z1)) : Fo st P z0 (wrI X z h i x f) := fo_if fo_none (H _ (fr_I2 hz hP))
theorem fo_wrZ {f : ow_MS → Option O} (hP : P h) (hz : fr P z0 z) (H : ∀ z1, fr P z0 z1 → Fo st P z0 (f z1)) : Fo st P z0 (wrZ X z h i x f) := fo_if fo_none (H _ (fr_I2 hz hP))
theorem fo_wrB {f : ow_MS → Option O} (hP : P h) (hz : fr P z0 z) (H : ∀ z1, fr P z0 z1 → Fo st P z0 (f z1)) : Fo st P z0 (wrB X z h i x f) := fo_if fo_none (H _ (fr_I2 hz hP))
theorem fo_wrJ {f : ow_MS → Option O} (hP : P h) (hz : fr P z0 z) (H : ∀ z1, fr P z0 z1 → Fo st P z0 (f z1)) : Fo st P z0 (wrJ X z h i y f) := fo_if fo_none (H _ (fr_J2 hz hP))
theorem fo_cs0 {o : Option ow_MS} {f : ow_MS → Option O} (hc : Fo id P' z o) (hs : ∀ g, P' g → P g) (hz : fr P z0 z) (H : ∀ z1, fr P z0 z1 → Fo st P z0 (f z1)) : Fo st P z0 (cs0 o f) := by
  cases o with
  | none => exact fo_none
  | some r => exact H r (fr_tr hz (fr_mono hs (hc r rfl)))
theorem fo_cs1 {o : Option (α × ow_MS)} {f : α → ow_MS → Option O} (hc : Fo Prod.snd P' z o) (hs : ∀ g, P' g → P g) (hz : fr P z0 z) (H : ∀ a z1, fr P z0 z1 → Fo st P z0 (f a z1)) : Fo st P z0 (cs1 o f) := by
  cases o with
  | none => exact fo_none
  | some r => exact H r.1 r.2 (fr_tr hz (fr_mono hs (hc r rfl)))
theorem fo_ss0 {o : Option ow_MS} {f : ow_MS → Option O} (hc : Fo id P z0 o) (H : ∀ z1, fr P z0 z1 → Fo st P z0 (f z1)) : Fo st P z0 (cs0 o f) := by
  cases o with
  | none => exact fo_none
  | some r => exact H r (hc r rfl)
theorem fo_ss1 {o : Option (α × ow_MS)} {f : α → ow_MS → Option O} (hc : Fo Prod.snd P z0 o) (H : ∀ a z1, fr P z0 z1 → Fo st P z0 (f a z1)) : Fo st P z0 (cs1 o f) := by
  cases o with
  | none => exact fo_none
  | some r => exact H r.1 r.2 (hc r rfl)
theorem pf_sub {L L' R R' : List Nat} (h1 : (L'.all (fun g => L.contains g)) = true) (h2 : ∀ g, g ∈ R' → pf L R g) : ∀ g, pf L' R' g → pf L R g := by
  rintro g (h | h | h)
  · have := List.all_eq_true.mp h1 g h
    exact Or.inl (List.contains_iff_mem.mp this)
  · exact h2 g h
  · exact Or.inr (Or.inr h)
theorem pf_0 {L R : List Nat} : ∀ g, g ∈ ([] : List Nat) → pf L R g := fun _ h => absurd h List.not_mem_nil
theorem pf_1 {L R : List Nat} {a : Nat} (h : pf L R a) : ∀ g, g ∈ [a] → pf L R g := fun g hg => by rw [List.mem_singleton.mp hg]; exact h
/-- a run that ends, and what it may change -/
theorem te_fo {f : Nat → Option O} {Q : O → Prop} (h : Te f Q) (hf : ∀ K, Fo st P z0 (f K)) : Te f (fun r => Q r ∧ fr P z0 (st r)) := by
  obtain ⟨r, ⟨K, hK⟩, hQ⟩ := h
  exact ⟨r, ⟨K, hK⟩, hQ, hf K r (hK K (Nat.le_refl _))⟩
end FOB
theorem ff_X13_fails {K : Nat} {x1 : Int32} {z : ow_MS}  : Fo Prod.snd (pf [1] []) z (qe_X13_fails K x1 z) := by
  unfold qe_X13_fails qm_X13_fails_0
  exact (fo_wrF (Or.inl (by decide)) fr_rf (fun z1 h_z1 => (fo_some h_z1)))
theorem fb_X13_feed_0 {K : Nat} {z0 z : ow_MS}  {go : Nat → Int32 → Int32 → Int32 → Int32 → Int32 → Int32 → Int32 → ow_MS → Option (Int32 × ow_MS)} {x1 : Int32} {x2 : Int32} {x3 : Int32} {x4 : Int32} {x5 : Int32} {x6 : Int32} {t0 : Int32}  (hgo : ∀ (L : Nat) (x1 : Int32) (x2 : Int32) (x3 : Int32) (x4 : Int32) (x5 : Int32) (x6 : Int32) (t0 : Int32) (z : ow_MS), fr (pf [1, 10, 11] []) z0 z → Fo Prod.snd (pf [1, 10, 11] []) z0 (go L x1 x2 x3 x4 x5 x6 t0 z)) (hz : fr (pf [1, 10, 11] []) z0 z)  : Fo Prod.snd (pf [1, 10, 11] []) z0 (qm_X13_feed_0 K go x1 x2 x3 x4 x5 x6 t0 z) := by
  unfold qm_X13_feed_0
  exact (fo_wrF (Or.inl (by decide)) hz (fun z1 h_z1 => (fo_rdF (fun v2 => (fo_if (hgo 1 _ _ _ _ _ _ _ z1 h_z1) (fo_cs1 (ff_X13_fails) (pf_sub (by decide) pf_0) h_z1 (fun v4 z3 h_z3 => (fo_some h_z3))))))))
theorem fb_X13_feed_1 {K : Nat} {z0 z : ow_MS}  {go : Nat → Int32 → Int32 → Int32 → Int32 → Int32 → Int32 → Int32 → ow_MS → Option (Int32 × ow_MS)} {x1 : Int32} {x2 : Int32} {x3 : Int32} {x4 : Int32} {x5 : Int32} {x6 : Int32} {t0 : Int32}  (hgo : ∀ (L : Nat) (x1 : Int32) (x2 : Int32) (x3 : Int32) (x4 : Int32) (x5 : Int32) (x6 : Int32) (t0 : Int32) (z : ow_MS), fr (pf [1, 10, 11] []) z0 z → Fo Prod.snd (pf [1, 10, 11] []) z0 (go L x1 x2 x3 x4 x5 x6 t0 z)) (hz : fr (pf [1, 10, 11] []) z0 z)  : Fo Prod.snd (pf [1, 10, 11] []) z0 (qm_X13_feed_1 K go x1 x2 x3 x4 x5 x6 t0 z) := by
  unfold qm_X13_feed_1
  exact (fo_if (fo_rdF (fun v5 => (fo_some hz))) (fo_if (fo_if (fo_if (fo_if (hgo 2 _ _ _ _ _ _ _ z hz) (hgo 2 _ _ _ _ _ _ _ z hz)) (hgo 2 _ _ _ _ _ _ _ z hz)) (hgo 2 _ _ _ _ _ _ _ z hz)) (hgo 2 _ _ _ _ _ _ _ z hz)))
theorem fb_X13_feed_2 {K : Nat} {z0 z : ow_MS}  {go : Nat → Int32 → Int32 → Int32 → Int32 → Int32 → Int32 → Int32 → ow_MS → Option (Int32 × ow_MS)} {x1 : Int32} {x2 : Int32} {x3 : Int32} {x4 : Int32} {x5 : Int32} {x6 : Int32} {t0 : Int32}  (hgo : ∀ (L : Nat) (x1 : Int32) (x2 : Int32) (x3 : Int32) (x4 : Int32) (x5 : Int32) (x6 : Int32) (t0 : Int32) (z : ow_MS), fr (pf [1, 10, 11] []) z0 z → Fo Prod.snd (pf [1, 10, 11] []) z0 (go L x1 x2 x3 x4 x5 x6 t0 z)) (hz : fr (pf [1, 10, 11] []) z0 z)  : Fo Prod.snd (pf [1, 10, 11] []) z0 (qm_X13_feed_2 K go x1 x2 x3 x4 x5 x6 t0 z) := by
  unfold qm_X13_feed_2
  exact (fo_rdF (fun v6 => (fo_wrB (Or.inl (by decide)) hz (fun z7 h_z7 => (fo_rdF (fun v8 => (fo_wrF (Or.inl (by decide)) h_z7 (fun z9 h_z9 => (hgo 1 _ _ _ _ _ _ _ z9 h_z9)))))))))
theorem fq_X13_feed {K : Nat} {z0 : ow_MS}   : ∀ (k L : Nat) (x1 : Int32) (x2 : Int32) (x3 : Int32) (x4 : Int32) (x5 : Int32) (x6 : Int32) (t0 : Int32) (z : ow_MS), fr (pf [1, 10, 11] []) z0 z → Fo Prod.snd (pf [1, 10, 11] []) z0 (q_X13_feed K k L x1 x2 x3 x4 x5 x6 t0 z)
  | 0 => by
    intros
    exact fo_none
  | k + 1 => by
    intro L x1 x2 x3 x4 x5 x6 t0 z hz 
    show Fo Prod.snd (pf [1, 10, 11] []) z0 (qb_X13_feed K (q_X13_feed K k) L x1 x2 x3 x4 x5 x6 t0 z)
    unfold qb_X13_feed
    split
    · exact fb_X13_feed_0 (fq_X13_feed k) hz 
    · exact fb_X13_feed_1 (fq_X13_feed k) hz 
    · exact fb_X13_feed_2 (fq_X13_feed k) hz 
    · exact fo_none
theorem ff_X13_feed {K : Nat} {x1 : Int32} {x2 : Int32} {x3 : Int32} {x4 : Int32} {x5 : Int32} {z : ow_MS}  : Fo Prod.snd (pf [1, 10, 11] []) z (qe_X13_feed K x1 x2 x3 x4 x5 z) := fq_X13_feed K 0 _ _ _ _ _ _ _ z fr_rf 
theorem fb_X13_end_0 {K : Nat} {z0 z : ow_MS}  {go : Nat → Int32 → ow_MS → Option ow_MS} {x1 : Int32}  (hgo : ∀ (L : Nat) (x1 : Int32) (z : ow_MS), fr (pf [1, 11] []) z0 z → Fo id (pf [1, 11] []) z0 (go L x1 z)) (hz : fr (pf [1, 11] []) z0 z)  : Fo id (pf [1, 11] []) z0 (qm_X13_end_0 K go x1 z) := by
  unfold qm_X13_end_0
  exact (fo_wrF (Or.inl (by decide)) hz (fun z1 h_z1 => (fo_if (hgo 1 _ z1 h_z1) (fo_rdF (fun v2 => (fo_if (fo_wrF (Or.inl (by decide)) h_z1 (fun z3 h_z3 => (fo_some h_z3))) (hgo 1 _ z1 h_z1)))))))
theorem fb_X13_end_1 {K : Nat} {z0 z : ow_MS}  {go : Nat → Int32 → ow_MS → Option ow_MS} {x1 : Int32}  (hgo : ∀ (L : Nat) (x1 : Int32) (z : ow_MS), fr (pf [1, 11] []) z0 z → Fo id (pf [1, 11] []) z0 (go L x1 z)) (hz : fr (pf [1, 11] []) z0 z)  : Fo id (pf [1, 11] []) z0 (qm_X13_end_1 K go x1 z) := by
  unfold qm_X13_end_1
  exact (fo_cs1 (ff_X13_fails) (pf_sub (by decide) pf_0) hz (fun v5 z4 h_z4 => (fo_some h_z4)))
theorem fq_X13_end {K : Nat} {z0 : ow_MS}   : ∀ (k L : Nat) (x1 : Int32) (z : ow_MS), fr (pf [1, 11] []) z0 z → Fo id (pf [1, 11] []) z0 (q_X13_end K k L x1 z)
  | 0 => by
    intros
    exact fo_none
  | k + 1 => by
    intro L x1 z hz 
    show Fo id (pf [1, 11] []) z0 (qb_X13_end K (q_X13_end K k) L x1 z)
    unfold qb_X13_end
    split
    · exact fb_X13_end_0 (fq_X13_end k) hz 
    · exact fb_X13_end_1 (fq_X13_end k) hz 
    · exact fo_none
theorem ff_X13_end {K : Nat} {x1 : Int32} {z : ow_MS}  : Fo id (pf [1, 11] []) z (qe_X13_end K x1 z) := fq_X13_end K 0 _ z fr_rf 
theorem fb_X13_free_0 {K : Nat} {z0 z : ow_MS}  {go : Nat → Int32 → ow_MS → Option (Int32 × ow_MS)} {x1 : Int32}  (hgo : ∀ (L : Nat) (x1 : Int32) (z : ow_MS), fr (pf [] []) z0 z → Fo Prod.snd (pf [] []) z0 (go L x1 z)) (hz : fr (pf [] []) z0 z)  : Fo Prod.snd (pf [] []) z0 (qm_X13_free_0 K go x1 z) := by
  unfold qm_X13_free_0
  exact (hgo 1 _ z hz)
theorem fb_X13_free_1 {K : Nat} {z0 z : ow_MS}  {go : Nat → Int32 → ow_MS → Option (Int32 × ow_MS)} {x1 : Int32}  (hgo : ∀ (L : Nat) (x1 : Int32) (z : ow_MS), fr (pf [] []) z0 z → Fo Prod.snd (pf [] []) z0 (go L x1 z)) (hz : fr (pf [] []) z0 z)  : Fo Prod.snd (pf [] []) z0 (qm_X13_free_1 K go x1 z) := by
  unfold qm_X13_free_1
  exact (fo_if (hgo 2 _ z hz) (fo_rdI (fun v1 => (fo_if (hgo 2 _ z hz) (hgo 1 _ z hz)))))
theorem fb_X13_free_2 {K : Nat} {z0 z : ow_MS}  {go : Nat → Int32 → ow_MS → Option (Int32 × ow_MS)} {x1 : Int32}  (hgo : ∀ (L : Nat) (x1 : Int32) (z : ow_MS), fr (pf [] []) z0 z → Fo Prod.snd (pf [] []) z0 (go L x1 z)) (hz : fr (pf [] []) z0 z)  : Fo Prod.snd (pf [] []) z0 (qm_X13_free_2 K go x1 z) := by
  unfold qm_X13_free_2
  exact (fo_if (fo_some hz) (fo_some hz))
theorem fq_X13_free {K : Nat} {z0 : ow_MS}   : ∀ (k L : Nat) (x1 : Int32) (z : ow_MS), fr (pf [] []) z0 z → Fo Prod.snd (pf [] []) z0 (q_X13_free K k L x1 z)
  | 0 => by
    intros
    exact fo_none
  | k + 1 => by
    intro L x1 z hz 
    show Fo Prod.snd (pf [] []) z0 (qb_X13_free K (q_X13_free K k) L x1 z)
    unfold qb_X13_free
    split
    · exact fb_X13_free_0 (fq_X13_free k) hz 
    · exact fb_X13_free_1 (fq_X13_free k) hz 
    · exact fb_X13_free_2 (fq_X13_free k) hz 
    · exact fo_none
theorem ff_X13_free {K : Nat} {z : ow_MS}  : Fo Prod.snd (pf [] []) z (qe_X13_free K z) := fq_X13_free K 0 _ z fr_rf 
theorem ff_X12_clear {K : Nat} {r0 : Nat} {z : ow_MS} (hr0 : 1000 ≤ r0) : Fo id (pf [] []) z (qe_X12_clear K r0 z) := by
  unfold qe_X12_clear qm_X12_clear_0
  exact (fo_wrF (Or.inr (Or.inr (by omega))) fr_rf (fun z1 h_z1 => (fo_wrF (Or.inr (Or.inr (by omega))) h_z1 (fun z2 h_z2 => (fo_wrI (Or.inr (Or.inr (by omega))) h_z2 (fun z3 h_z3 => (fo_some h_z3)))))))
theorem ff_X12_end {K : Nat} {r0 : Nat} {z : ow_MS} (hr0 : 1000 ≤ r0) : Fo id (pf [] []) z (qe_X12_end K r0 z) := by
  unfold qe_X12_end qm_X12_end_0
  exact (fo_rdF (fun v1 => (fo_wrF (Or.inr (Or.inr (by omega))) fr_rf (fun z2 h_z2 => (fo_rdF (fun v3 => (fo_rdF (fun v4 => (fo_wrI (Or.inr (Or.inr (by omega))) h_z2 (fun z5 h_z5 => (fo_some h_z5)))))))))))
theorem ff_X13_byteAt {K : Nat} {x1 : Int32} {z : ow_MS}  : Fo Prod.snd (pf [] []) z (qe_X13_byteAt K x1 z) := by
  unfold qe_X13_byteAt qm_X13_byteAt_0
  exact (fo_rdF (fun v1 => (fo_if (fo_some fr_rf) (fo_rdI (fun v2 => (fo_some fr_rf))))))
theorem ff_X12_add {K : Nat} {r0 : Nat} {x1 : Int32} {x2 : Int32} {z : ow_MS} (hr0 : 1000 ≤ r0) : Fo id (pf [] []) z (qe_X12_add K r0 x1 x2 z) := by
  unfold qe_X12_add qm_X12_add_0
  exact (fo_rdF (fun v1 => (fo_wrI (Or.inr (Or.inr (by omega))) fr_rf (fun z2 h_z2 => (fo_rdF (fun v3 => (fo_wrI (Or.inr (Or.inr (by omega))) h_z2 (fun z4 h_z4 => (fo_rdF (fun v5 => (fo_wrF (Or.inr (Or.inr (by omega))) h_z4 (fun z6 h_z6 => (fo_some h_z6)))))))))))))
theorem fb_X12_link_0 {K : Nat} {z0 z : ow_MS}  {go : Nat → Int32 → Int32 → Int32 → Nat → Int32 → Int32 → ow_MS → Option ow_MS} {x1 : Int32} {x2 : Int32} {x3 : Int32} {r0 : Nat} {t0 : Int32} {t1 : Int32}  (hgo : ∀ (L : Nat) (x1 : Int32) (x2 : Int32) (x3 : Int32) (r0 : Nat) (t0 : Int32) (t1 : Int32) (z : ow_MS), fr (pf [] []) z0 z → (L = 0 ∨ L = 1 ∨ L = 2 ∨ L = 3 ∨ L = 4 ∨ L = 5 ∨ L = 6 → 1000 ≤ r0) → Fo id (pf [] []) z0 (go L x1 x2 x3 r0 t0 t1 z)) (hz : fr (pf [] []) z0 z) (hr0 : 1000 ≤ r0) : Fo id (pf [] []) z0 (qm_X12_link_0 K go x1 x2 x3 r0 t0 t1 z) := by
  unfold qm_X12_link_0
  exact (hgo 1 _ _ _ _ _ _ z hz (fun _ => (by first | omega | decide)))
theorem fb_X12_link_1 {K : Nat} {z0 z : ow_MS}  {go : Nat → Int32 → Int32 → Int32 → Nat → Int32 → Int32 → ow_MS → Option ow_MS} {x1 : Int32} {x2 : Int32} {x3 : Int32} {r0 : Nat} {t0 : Int32} {t1 : Int32}  (hgo : ∀ (L : Nat) (x1 : Int32) (x2 : Int32) (x3 : Int32) (r0 : Nat) (t0 : Int32) (t1 : Int32) (z : ow_MS), fr (pf [] []) z0 z → (L = 0 ∨ L = 1 ∨ L = 2 ∨ L = 3 ∨ L = 4 ∨ L = 5 ∨ L = 6 → 1000 ≤ r0) → Fo id (pf [] []) z0 (go L x1 x2 x3 r0 t0 t1 z)) (hz : fr (pf [] []) z0 z) (hr0 : 1000 ≤ r0) : Fo id (pf [] []) z0 (qm_X12_link_1 K go x1 x2 x3 r0 t0 t1 z) := by
  unfold qm_X12_link_1
  exact (fo_if (hgo 2 _ _ _ _ _ _ z hz (fun _ => (by first | omega | decide))) (fo_wrI (Or.inr (Or.inr (by omega))) hz (fun z1 h_z1 => (hgo 1 _ _ _ _ _ _ z1 h_z1 (fun _ => (by first | omega | decide))))))
theorem fb_X12_link_2 {K : Nat} {z0 z : ow_MS}  {go : Nat → Int32 → Int32 → Int32 → Nat → Int32 → Int32 → ow_MS → Option ow_MS} {x1 : Int32} {x2 : Int32} {x3 : Int32} {r0 : Nat} {t0 : Int32} {t1 : Int32}  (hgo : ∀ (L : Nat) (x1 : Int32) (x2 : Int32) (x3 : Int32) (r0 : Nat) (t0 : Int32) (t1 : Int32) (z : ow_MS), fr (pf [] []) z0 z → (L = 0 ∨ L = 1 ∨ L = 2 ∨ L = 3 ∨ L = 4 ∨ L = 5 ∨ L = 6 → 1000 ≤ r0) → Fo id (pf [] []) z0 (go L x1 x2 x3 r0 t0 t1 z)) (hz : fr (pf [] []) z0 z) (hr0 : 1000 ≤ r0) : Fo id (pf [] []) z0 (qm_X12_link_2 K go x1 x2 x3 r0 t0 t1 z) := by
  unfold qm_X12_link_2
  exact (fo_rdF (fun v2 => (fo_if (fo_some hz) (fo_rdI (fun v3 => (hgo 3 _ _ _ _ _ _ z hz (fun _ => (by first | omega | decide))))))))
theorem fb_X12_link_3 {K : Nat} {z0 z : ow_MS}  {go : Nat → Int32 → Int32 → Int32 → Nat → Int32 → Int32 → ow_MS → Option ow_MS} {x1 : Int32} {x2 : Int32} {x3 : Int32} {r0 : Nat} {t0 : Int32} {t1 : Int32}  (hgo : ∀ (L : Nat) (x1 : Int32) (x2 : Int32) (x3 : Int32) (r0 : Nat) (t0 : Int32) (t1 : Int32) (z : ow_MS), fr (pf [] []) z0 z → (L = 0 ∨ L = 1 ∨ L = 2 ∨ L = 3 ∨ L = 4 ∨ L = 5 ∨ L = 6 → 1000 ≤ r0) → Fo id (pf [] []) z0 (go L x1 x2 x3 r0 t0 t1 z)) (hz : fr (pf [] []) z0 z) (hr0 : 1000 ≤ r0) : Fo id (pf [] []) z0 (qm_X12_link_3 K go x1 x2 x3 r0 t0 t1 z) := by
  unfold qm_X12_link_3
  exact (fo_rdI (fun v4 => (fo_if (hgo 2 _ _ _ _ _ _ z hz (fun _ => (by first | omega | decide))) (fo_wrI (Or.inr (Or.inr (by omega))) hz (fun z5 h_z5 => (fo_rdI (fun v6 => (fo_if (fo_rdI (fun v7 => (hgo 4 _ _ _ _ _ _ z5 h_z5 (fun _ => (by first | omega | decide))))) (hgo 4 _ _ _ _ _ _ z5 h_z5 (fun _ => (by first | omega | decide)))))))))))
theorem fb_X12_link_4 {K : Nat} {z0 z : ow_MS}  {go : Nat → Int32 → Int32 → Int32 → Nat → Int32 → Int32 → ow_MS → Option ow_MS} {x1 : Int32} {x2 : Int32} {x3 : Int32} {r0 : Nat} {t0 : Int32} {t1 : Int32}  (hgo : ∀ (L : Nat) (x1 : Int32) (x2 : Int32) (x3 : Int32) (r0 : Nat) (t0 : Int32) (t1 : Int32) (z : ow_MS), fr (pf [] []) z0 z → (L = 0 ∨ L = 1 ∨ L = 2 ∨ L = 3 ∨ L = 4 ∨ L = 5 ∨ L = 6 → 1000 ≤ r0) → Fo id (pf [] []) z0 (go L x1 x2 x3 r0 t0 t1 z)) (hz : fr (pf [] []) z0 z) (hr0 : 1000 ≤ r0) : Fo id (pf [] []) z0 (qm_X12_link_4 K go x1 x2 x3 r0 t0 t1 z) := by
  unfold qm_X12_link_4
  exact (fo_wrI (Or.inr (Or.inr (by omega))) hz (fun z8 h_z8 => (fo_rdI (fun v9 => (fo_if (fo_rdI (fun v10 => (hgo 5 _ _ _ _ _ _ z8 h_z8 (fun _ => (by first | omega | decide))))) (hgo 5 _ _ _ _ _ _ z8 h_z8 (fun _ => (by first | omega | decide))))))))
theorem fb_X12_link_5 {K : Nat} {z0 z : ow_MS}  {go : Nat → Int32 → Int32 → Int32 → Nat → Int32 → Int32 → ow_MS → Option ow_MS} {x1 : Int32} {x2 : Int32} {x3 : Int32} {r0 : Nat} {t0 : Int32} {t1 : Int32}  (hgo : ∀ (L : Nat) (x1 : Int32) (x2 : Int32) (x3 : Int32) (r0 : Nat) (t0 : Int32) (t1 : Int32) (z : ow_MS), fr (pf [] []) z0 z → (L = 0 ∨ L = 1 ∨ L = 2 ∨ L = 3 ∨ L = 4 ∨ L = 5 ∨ L = 6 → 1000 ≤ r0) → Fo id (pf [] []) z0 (go L x1 x2 x3 r0 t0 t1 z)) (hz : fr (pf [] []) z0 z) (hr0 : 1000 ≤ r0) : Fo id (pf [] []) z0 (qm_X12_link_5 K go x1 x2 x3 r0 t0 t1 z) := by
  unfold qm_X12_link_5
  exact (fo_wrI (Or.inr (Or.inr (by omega))) hz (fun z11 h_z11 => (fo_rdI (fun v12 => (fo_rdI (fun v13 => (fo_if (fo_wrI (Or.inr (Or.inr (by omega))) h_z11 (fun z18 h_z18 => (hgo 6 _ _ _ _ _ _ z18 h_z18 (fun _ => (by first | omega | decide))))) (fo_rdI (fun v14 => (fo_wrI (Or.inr (Or.inr (by omega))) h_z11 (fun z15 h_z15 => (fo_rdI (fun v16 => (fo_wrI (Or.inr (Or.inr (by omega))) h_z15 (fun z17 h_z17 => (hgo 6 _ _ _ _ _ _ z17 h_z17 (fun _ => (by first | omega | decide))))))))))))))))))
theorem fb_X12_link_6 {K : Nat} {z0 z : ow_MS}  {go : Nat → Int32 → Int32 → Int32 → Nat → Int32 → Int32 → ow_MS → Option ow_MS} {x1 : Int32} {x2 : Int32} {x3 : Int32} {r0 : Nat} {t0 : Int32} {t1 : Int32}  (hgo : ∀ (L : Nat) (x1 : Int32) (x2 : Int32) (x3 : Int32) (r0 : Nat) (t0 : Int32) (t1 : Int32) (z : ow_MS), fr (pf [] []) z0 z → (L = 0 ∨ L = 1 ∨ L = 2 ∨ L = 3 ∨ L = 4 ∨ L = 5 ∨ L = 6 → 1000 ≤ r0) → Fo id (pf [] []) z0 (go L x1 x2 x3 r0 t0 t1 z)) (hz : fr (pf [] []) z0 z) (hr0 : 1000 ≤ r0) : Fo id (pf [] []) z0 (qm_X12_link_6 K go x1 x2 x3 r0 t0 t1 z) := by
  unfold qm_X12_link_6
  exact (hgo 3 _ _ _ _ _ _ z hz (fun _ => (by first | omega | decide)))
theorem fq_X12_link {K : Nat} {z0 : ow_MS}   : ∀ (k L : Nat) (x1 : Int32) (x2 : Int32) (x3 : Int32) (r0 : Nat) (t0 : Int32) (t1 : Int32) (z : ow_MS), fr (pf [] []) z0 z → (L = 0 ∨ L = 1 ∨ L = 2 ∨ L = 3 ∨ L = 4 ∨ L = 5 ∨ L = 6 → 1000 ≤ r0) → Fo id (pf [] []) z0 (q_X12_link K k L x1 x2 x3 r0 t0 t1 z)
  | 0 => by
    intros
    exact fo_none
  | k + 1 => by
    intro L x1 x2 x3 r0 t0 t1 z hz h9_r0
    show Fo id (pf [] []) z0 (qb_X12_link K (q_X12_link K k) L x1 x2 x3 r0 t0 t1 z)
    unfold qb_X12_link
    split
    · exact fb_X12_link_0 (fq_X12_link k) hz (h9_r0 (by decide))
    · exact fb_X12_link_1 (fq_X12_link k) hz (h9_r0 (by decide))
    · exact fb_X12_link_2 (fq_X12_link k) hz (h9_r0 (by decide))
    · exact fb_X12_link_3 (fq_X12_link k) hz (h9_r0 (by decide))
    · exact fb_X12_link_4 (fq_X12_link k) hz (h9_r0 (by decide))
    · exact fb_X12_link_5 (fq_X12_link k) hz (h9_r0 (by decide))
    · exact fb_X12_link_6 (fq_X12_link k) hz (h9_r0 (by decide))
    · exact fo_none
theorem ff_X12_link {K : Nat} {r0 : Nat} {z : ow_MS} (hr0 : 1000 ≤ r0) : Fo id (pf [] []) z (qe_X12_link K r0 z) := fq_X12_link K 0 _ _ _ _ _ _ z fr_rf (fun _ => (by first | omega | decide))
theorem fb_X12_split_0 {K : Nat} {z0 z : ow_MS}  {go : Nat → Int32 → Int32 → Int32 → Nat → ow_MS → Option ow_MS} {x1 : Int32} {x2 : Int32} {x3 : Int32} {r0 : Nat}  (hgo : ∀ (L : Nat) (x1 : Int32) (x2 : Int32) (x3 : Int32) (r0 : Nat) (z : ow_MS), fr (pf [] []) z0 z → (L = 0 ∨ L = 1 ∨ L = 2 ∨ L = 3 ∨ L = 4 ∨ L = 5 ∨ L = 6 → 1000 ≤ r0) → Fo id (pf [] []) z0 (go L x1 x2 x3 r0 z)) (hz : fr (pf [] []) z0 z) (hr0 : 1000 ≤ r0) : Fo id (pf [] []) z0 (qm_X12_split_0 K go x1 x2 x3 r0 z) := by
  unfold qm_X12_split_0
  exact (hgo 1 _ _ _ _ z hz (fun _ => (by first | omega | decide)))
theorem fb_X12_split_1 {K : Nat} {z0 z : ow_MS}  {go : Nat → Int32 → Int32 → Int32 → Nat → ow_MS → Option ow_MS} {x1 : Int32} {x2 : Int32} {x3 : Int32} {r0 : Nat}  (hgo : ∀ (L : Nat) (x1 : Int32) (x2 : Int32) (x3 : Int32) (r0 : Nat) (z : ow_MS), fr (pf [] []) z0 z → (L = 0 ∨ L = 1 ∨ L = 2 ∨ L = 3 ∨ L = 4 ∨ L = 5 ∨ L = 6 → 1000 ≤ r0) → Fo id (pf [] []) z0 (go L x1 x2 x3 r0 z)) (hz : fr (pf [] []) z0 z) (hr0 : 1000 ≤ r0) : Fo id (pf [] []) z0 (qm_X12_split_1 K go x1 x2 x3 r0 z) := by
  unfold qm_X12_split_1
  exact (fo_rdF (fun v1 => (fo_if (fo_wrF (Or.inr (Or.inr (by omega))) hz (fun z2 h_z2 => (hgo 2 _ _ _ _ z2 h_z2 (fun _ => (by first | omega | decide))))) (fo_wrI (Or.inr (Or.inr (by omega))) hz (fun z3 h_z3 => (hgo 1 _ _ _ _ z3 h_z3 (fun _ => (by first | omega | decide))))))))
theorem fb_X12_split_2 {K : Nat} {z0 z : ow_MS}  {go : Nat → Int32 → Int32 → Int32 → Nat → ow_MS → Option ow_MS} {x1 : Int32} {x2 : Int32} {x3 : Int32} {r0 : Nat}  (hgo : ∀ (L : Nat) (x1 : Int32) (x2 : Int32) (x3 : Int32) (r0 : Nat) (z : ow_MS), fr (pf [] []) z0 z → (L = 0 ∨ L = 1 ∨ L = 2 ∨ L = 3 ∨ L = 4 ∨ L = 5 ∨ L = 6 → 1000 ≤ r0) → Fo id (pf [] []) z0 (go L x1 x2 x3 r0 z)) (hz : fr (pf [] []) z0 z) (hr0 : 1000 ≤ r0) : Fo id (pf [] []) z0 (qm_X12_split_2 K go x1 x2 x3 r0 z) := by
  unfold qm_X12_split_2
  exact (fo_rdF (fun v4 => (fo_if (fo_some hz) (fo_rdI (fun v5 => (fo_if (fo_rdF (fun v6 => (fo_wrI (Or.inr (Or.inr (by omega))) hz (fun z7 h_z7 => (hgo 3 _ _ _ _ z7 h_z7 (fun _ => (by first | omega | decide))))))) (hgo 6 _ _ _ _ z hz (fun _ => (by first | omega | decide)))))))))
theorem fb_X12_split_3 {K : Nat} {z0 z : ow_MS}  {go : Nat → Int32 → Int32 → Int32 → Nat → ow_MS → Option ow_MS} {x1 : Int32} {x2 : Int32} {x3 : Int32} {r0 : Nat}  (hgo : ∀ (L : Nat) (x1 : Int32) (x2 : Int32) (x3 : Int32) (r0 : Nat) (z : ow_MS), fr (pf [] []) z0 z → (L = 0 ∨ L = 1 ∨ L = 2 ∨ L = 3 ∨ L = 4 ∨ L = 5 ∨ L = 6 → 1000 ≤ r0) → Fo id (pf [] []) z0 (go L x1 x2 x3 r0 z)) (hz : fr (pf [] []) z0 z) (hr0 : 1000 ≤ r0) : Fo id (pf [] []) z0 (qm_X12_split_3 K go x1 x2 x3 r0 z) := by
  unfold qm_X12_split_3
  exact (fo_if (fo_rdF (fun v8 => (fo_wrF (Or.inr (Or.inr (by omega))) hz (fun z9 h_z9 => (hgo 6 _ _ _ _ z9 h_z9 (fun _ => (by first | omega | decide))))))) (hgo 4 _ _ _ _ z hz (fun _ => (by first | omega | decide))))
theorem fb_X12_split_4 {K : Nat} {z0 z : ow_MS}  {go : Nat → Int32 → Int32 → Int32 → Nat → ow_MS → Option ow_MS} {x1 : Int32} {x2 : Int32} {x3 : Int32} {r0 : Nat}  (hgo : ∀ (L : Nat) (x1 : Int32) (x2 : Int32) (x3 : Int32) (r0 : Nat) (z : ow_MS), fr (pf [] []) z0 z → (L = 0 ∨ L = 1 ∨ L = 2 ∨ L = 3 ∨ L = 4 ∨ L = 5 ∨ L = 6 → 1000 ≤ r0) → Fo id (pf [] []) z0 (go L x1 x2 x3 r0 z)) (hz : fr (pf [] []) z0 z) (hr0 : 1000 ≤ r0) : Fo id (pf [] []) z0 (qm_X12_split_4 K go x1 x2 x3 r0 z) := by
  unfold qm_X12_split_4
  exact (fo_rdF (fun v10 => (fo_if (hgo 3 _ _ _ _ z hz (fun _ => (by first | omega | decide))) (fo_rdI (fun v11 => (fo_rdI (fun v12 => (fo_rdF (fun v13 => (fo_if (fo_rdI (fun v14 => (fo_rdI (fun v15 => (fo_rdI (fun v16 => (fo_if (fo_rdI (fun v17 => (fo_rdI (fun v18 => (fo_rdF (fun v19 => (fo_wrI (Or.inr (Or.inr (by omega))) hz (fun z20 h_z20 => (hgo 5 _ _ _ _ z20 h_z20 (fun _ => (by first | omega | decide))))))))))) (hgo 5 _ _ _ _ z hz (fun _ => (by first | omega | decide)))))))))) (hgo 5 _ _ _ _ z hz (fun _ => (by first | omega | decide)))))))))))))
theorem fb_X12_split_5 {K : Nat} {z0 z : ow_MS}  {go : Nat → Int32 → Int32 → Int32 → Nat → ow_MS → Option ow_MS} {x1 : Int32} {x2 : Int32} {x3 : Int32} {r0 : Nat}  (hgo : ∀ (L : Nat) (x1 : Int32) (x2 : Int32) (x3 : Int32) (r0 : Nat) (z : ow_MS), fr (pf [] []) z0 z → (L = 0 ∨ L = 1 ∨ L = 2 ∨ L = 3 ∨ L = 4 ∨ L = 5 ∨ L = 6 → 1000 ≤ r0) → Fo id (pf [] []) z0 (go L x1 x2 x3 r0 z)) (hz : fr (pf [] []) z0 z) (hr0 : 1000 ≤ r0) : Fo id (pf [] []) z0 (qm_X12_split_5 K go x1 x2 x3 r0 z) := by
  unfold qm_X12_split_5
  exact (hgo 4 _ _ _ _ z hz (fun _ => (by first | omega | decide)))
theorem fb_X12_split_6 {K : Nat} {z0 z : ow_MS}  {go : Nat → Int32 → Int32 → Int32 → Nat → ow_MS → Option ow_MS} {x1 : Int32} {x2 : Int32} {x3 : Int32} {r0 : Nat}  (hgo : ∀ (L : Nat) (x1 : Int32) (x2 : Int32) (x3 : Int32) (r0 : Nat) (z : ow_MS), fr (pf [] []) z0 z → (L = 0 ∨ L = 1 ∨ L = 2 ∨ L = 3 ∨ L = 4 ∨ L = 5 ∨ L = 6 → 1000 ≤ r0) → Fo id (pf [] []) z0 (go L x1 x2 x3 r0 z)) (hz : fr (pf [] []) z0 z) (hr0 : 1000 ≤ r0) : Fo id (pf [] []) z0 (qm_X12_split_6 K go x1 x2 x3 r0 z) := by
  unfold qm_X12_split_6
  exact (hgo 2 _ _ _ _ z hz (fun _ => (by first | omega | decide)))
theorem fq_X12_split {K : Nat} {z0 : ow_MS}   : ∀ (k L : Nat) (x1 : Int32) (x2 : Int32) (x3 : Int32) (r0 : Nat) (z : ow_MS), fr (pf [] []) z0 z → (L = 0 ∨ L = 1 ∨ L = 2 ∨ L = 3 ∨ L = 4 ∨ L = 5 ∨ L = 6 → 1000 ≤ r0) → Fo id (pf [] []) z0 (q_X12_split K k L x1 x2 x3 r0 z)
  | 0 => by
    intros
    exact fo_none
  | k + 1 => by
    intro L x1 x2 x3 r0 z hz h9_r0
    show Fo id (pf [] []) z0 (qb_X12_split K (q_X12_split K k) L x1 x2 x3 r0 z)
    unfold qb_X12_split
    split
    · exact fb_X12_split_0 (fq_X12_split k) hz (h9_r0 (by decide))
    · exact fb_X12_split_1 (fq_X12_split k) hz (h9_r0 (by decide))
    · exact fb_X12_split_2 (fq_X12_split k) hz (h9_r0 (by decide))
    · exact fb_X12_split_3 (fq_X12_split k) hz (h9_r0 (by decide))
    · exact fb_X12_split_4 (fq_X12_split k) hz (h9_r0 (by decide))
    · exact fb_X12_split_5 (fq_X12_split k) hz (h9_r0 (by decide))
    · exact fb_X12_split_6 (fq_X12_split k) hz (h9_r0 (by decide))
    · exact fo_none
theorem ff_X12_split {K : Nat} {r0 : Nat} {z : ow_MS} (hr0 : 1000 ≤ r0) : Fo id (pf [] []) z (qe_X12_split K r0 z) := fq_X12_split K 0 _ _ _ _ z fr_rf (fun _ => (by first | omega | decide))
theorem fb_X12_walk_0 {K : Nat} {z0 z : ow_MS}  {go : Nat → Int32 → Int32 → Int32 → Int32 → Int32 → Int32 → Nat → Int32 → ow_MS → Option ow_MS} {x1 : Int32} {x2 : Int32} {x3 : Int32} {x4 : Int32} {x5 : Int32} {x6 : Int32} {r0 : Nat} {t0 : Int32}  (hgo : ∀ (L : Nat) (x1 : Int32) (x2 : Int32) (x3 : Int32) (x4 : Int32) (x5 : Int32) (x6 : Int32) (r0 : Nat) (t0 : Int32) (z : ow_MS), fr (pf [] []) z0 z → (L = 0 ∨ L = 1 ∨ L = 2 ∨ L = 3 ∨ L = 4 ∨ L = 5 ∨ L = 6 ∨ L = 7 ∨ L = 8 ∨ L = 9 ∨ L = 10 ∨ L = 11 → 1000 ≤ r0) → Fo id (pf [] []) z0 (go L x1 x2 x3 x4 x5 x6 r0 t0 z)) (hz : fr (pf [] []) z0 z) (hr0 : 1000 ≤ r0) : Fo id (pf [] []) z0 (qm_X12_walk_0 K go x1 x2 x3 x4 x5 x6 r0 t0 z) := by
  unfold qm_X12_walk_0
  exact (hgo 1 _ _ _ _ _ _ _ _ z hz (fun _ => (by first | omega | decide)))
theorem fb_X12_walk_1 {K : Nat} {z0 z : ow_MS}  {go : Nat → Int32 → Int32 → Int32 → Int32 → Int32 → Int32 → Nat → Int32 → ow_MS → Option ow_MS} {x1 : Int32} {x2 : Int32} {x3 : Int32} {x4 : Int32} {x5 : Int32} {x6 : Int32} {r0 : Nat} {t0 : Int32}  (hgo : ∀ (L : Nat) (x1 : Int32) (x2 : Int32) (x3 : Int32) (x4 : Int32) (x5 : Int32) (x6 : Int32) (r0 : Nat) (t0 : Int32) (z : ow_MS), fr (pf [] []) z0 z → (L = 0 ∨ L = 1 ∨ L = 2 ∨ L = 3 ∨ L = 4 ∨ L = 5 ∨ L = 6 ∨ L = 7 ∨ L = 8 ∨ L = 9 ∨ L = 10 ∨ L = 11 → 1000 ≤ r0) → Fo id (pf [] []) z0 (go L x1 x2 x3 x4 x5 x6 r0 t0 z)) (hz : fr (pf [] []) z0 z) (hr0 : 1000 ≤ r0) : Fo id (pf [] []) z0 (qm_X12_walk_1 K go x1 x2 x3 x4 x5 x6 r0 t0 z) := by
  unfold qm_X12_walk_1
  exact (fo_rdF (fun v1 => (fo_if (fo_wrF (Or.inr (Or.inr (by omega))) hz (fun z2 h_z2 => (hgo 2 _ _ _ _ _ _ _ _ z2 h_z2 (fun _ => (by first | omega | decide))))) (fo_wrI (Or.inr (Or.inr (by omega))) hz (fun z3 h_z3 => (hgo 1 _ _ _ _ _ _ _ _ z3 h_z3 (fun _ => (by first | omega | decide))))))))
theorem fb_X12_walk_2 {K : Nat} {z0 z : ow_MS}  {go : Nat → Int32 → Int32 → Int32 → Int32 → Int32 → Int32 → Nat → Int32 → ow_MS → Option ow_MS} {x1 : Int32} {x2 : Int32} {x3 : Int32} {x4 : Int32} {x5 : Int32} {x6 : Int32} {r0 : Nat} {t0 : Int32}  (hgo : ∀ (L : Nat) (x1 : Int32) (x2 : Int32) (x3 : Int32) (x4 : Int32) (x5 : Int32) (x6 : Int32) (r0 : Nat) (t0 : Int32) (z : ow_MS), fr (pf [] []) z0 z → (L = 0 ∨ L = 1 ∨ L = 2 ∨ L = 3 ∨ L = 4 ∨ L = 5 ∨ L = 6 ∨ L = 7 ∨ L = 8 ∨ L = 9 ∨ L = 10 ∨ L = 11 → 1000 ≤ r0) → Fo id (pf [] []) z0 (go L x1 x2 x3 x4 x5 x6 r0 t0 z)) (hz : fr (pf [] []) z0 z) (hr0 : 1000 ≤ r0) : Fo id (pf [] []) z0 (qm_X12_walk_2 K go x1 x2 x3 x4 x5 x6 r0 t0 z) := by
  unfold qm_X12_walk_2
  exact (fo_rdF (fun v4 => (fo_if (fo_some hz) (fo_rdI (fun v5 => (fo_if (fo_rdF (fun v6 => (fo_wrI (Or.inr (Or.inr (by omega))) hz (fun z7 h_z7 => (hgo 3 _ _ _ _ _ _ _ _ z7 h_z7 (fun _ => (by first | omega | decide))))))) (hgo 11 _ _ _ _ _ _ _ _ z hz (fun _ => (by first | omega | decide)))))))))
theorem fb_X12_walk_3 {K : Nat} {z0 z : ow_MS}  {go : Nat → Int32 → Int32 → Int32 → Int32 → Int32 → Int32 → Nat → Int32 → ow_MS → Option ow_MS} {x1 : Int32} {x2 : Int32} {x3 : Int32} {x4 : Int32} {x5 : Int32} {x6 : Int32} {r0 : Nat} {t0 : Int32}  (hgo : ∀ (L : Nat) (x1 : Int32) (x2 : Int32) (x3 : Int32) (x4 : Int32) (x5 : Int32) (x6 : Int32) (r0 : Nat) (t0 : Int32) (z : ow_MS), fr (pf [] []) z0 z → (L = 0 ∨ L = 1 ∨ L = 2 ∨ L = 3 ∨ L = 4 ∨ L = 5 ∨ L = 6 ∨ L = 7 ∨ L = 8 ∨ L = 9 ∨ L = 10 ∨ L = 11 → 1000 ≤ r0) → Fo id (pf [] []) z0 (go L x1 x2 x3 x4 x5 x6 r0 t0 z)) (hz : fr (pf [] []) z0 z) (hr0 : 1000 ≤ r0) : Fo id (pf [] []) z0 (qm_X12_walk_3 K go x1 x2 x3 x4 x5 x6 r0 t0 z) := by
  unfold qm_X12_walk_3
  exact (fo_rdI (fun v8 => (fo_if (fo_rdF (fun v11 => (fo_wrI (Or.inr (Or.inr (by omega))) hz (fun z12 h_z12 => (fo_rdF (fun v13 => (fo_rdI (fun v14 => (fo_wrI (Or.inr (Or.inr (by omega))) h_z12 (fun z15 h_z15 => (fo_if (fo_rdI (fun v16 => (hgo 4 _ _ _ _ _ _ _ _ z15 h_z15 (fun _ => (by first | omega | decide))))) (hgo 4 _ _ _ _ _ _ _ _ z15 h_z15 (fun _ => (by first | omega | decide)))))))))))))) (fo_rdF (fun v9 => (fo_wrF (Or.inr (Or.inr (by omega))) hz (fun z10 h_z10 => (hgo 11 _ _ _ _ _ _ _ _ z10 h_z10 (fun _ => (by first | omega | decide))))))))))
theorem fb_X12_walk_4 {K : Nat} {z0 z : ow_MS}  {go : Nat → Int32 → Int32 → Int32 → Int32 → Int32 → Int32 → Nat → Int32 → ow_MS → Option ow_MS} {x1 : Int32} {x2 : Int32} {x3 : Int32} {x4 : Int32} {x5 : Int32} {x6 : Int32} {r0 : Nat} {t0 : Int32}  (hgo : ∀ (L : Nat) (x1 : Int32) (x2 : Int32) (x3 : Int32) (x4 : Int32) (x5 : Int32) (x6 : Int32) (r0 : Nat) (t0 : Int32) (z : ow_MS), fr (pf [] []) z0 z → (L = 0 ∨ L = 1 ∨ L = 2 ∨ L = 3 ∨ L = 4 ∨ L = 5 ∨ L = 6 ∨ L = 7 ∨ L = 8 ∨ L = 9 ∨ L = 10 ∨ L = 11 → 1000 ≤ r0) → Fo id (pf [] []) z0 (go L x1 x2 x3 x4 x5 x6 r0 t0 z)) (hz : fr (pf [] []) z0 z) (hr0 : 1000 ≤ r0) : Fo id (pf [] []) z0 (qm_X12_walk_4 K go x1 x2 x3 x4 x5 x6 r0 t0 z) := by
  unfold qm_X12_walk_4
  exact (fo_rdI (fun v17 => (fo_if (fo_rdI (fun v18 => (fo_rdI (fun v19 => (fo_if (hgo 6 _ _ _ _ _ _ _ _ z hz (fun _ => (by first | omega | decide))) (hgo 5 _ _ _ _ _ _ _ _ z hz (fun _ => (by first | omega | decide)))))))) (hgo 5 _ _ _ _ _ _ _ _ z hz (fun _ => (by first | omega | decide))))))
theorem fb_X12_walk_5 {K : Nat} {z0 z : ow_MS}  {go : Nat → Int32 → Int32 → Int32 → Int32 → Int32 → Int32 → Nat → Int32 → ow_MS → Option ow_MS} {x1 : Int32} {x2 : Int32} {x3 : Int32} {x4 : Int32} {x5 : Int32} {x6 : Int32} {r0 : Nat} {t0 : Int32}  (hgo : ∀ (L : Nat) (x1 : Int32) (x2 : Int32) (x3 : Int32) (x4 : Int32) (x5 : Int32) (x6 : Int32) (r0 : Nat) (t0 : Int32) (z : ow_MS), fr (pf [] []) z0 z → (L = 0 ∨ L = 1 ∨ L = 2 ∨ L = 3 ∨ L = 4 ∨ L = 5 ∨ L = 6 ∨ L = 7 ∨ L = 8 ∨ L = 9 ∨ L = 10 ∨ L = 11 → 1000 ≤ r0) → Fo id (pf [] []) z0 (go L x1 x2 x3 x4 x5 x6 r0 t0 z)) (hz : fr (pf [] []) z0 z) (hr0 : 1000 ≤ r0) : Fo id (pf [] []) z0 (qm_X12_walk_5 K go x1 x2 x3 x4 x5 x6 r0 t0 z) := by
  unfold qm_X12_walk_5
  exact (fo_rdI (fun v20 => (fo_if (fo_rdI (fun v21 => (fo_rdI (fun v22 => (fo_if (hgo 7 _ _ _ _ _ _ _ _ z hz (fun _ => (by first | omega | decide))) (hgo 6 _ _ _ _ _ _ _ _ z hz (fun _ => (by first | omega | decide)))))))) (hgo 7 _ _ _ _ _ _ _ _ z hz (fun _ => (by first | omega | decide))))))
theorem fb_X12_walk_6 {K : Nat} {z0 z : ow_MS}  {go : Nat → Int32 → Int32 → Int32 → Int32 → Int32 → Int32 → Nat → Int32 → ow_MS → Option ow_MS} {x1 : Int32} {x2 : Int32} {x3 : Int32} {x4 : Int32} {x5 : Int32} {x6 : Int32} {r0 : Nat} {t0 : Int32}  (hgo : ∀ (L : Nat) (x1 : Int32) (x2 : Int32) (x3 : Int32) (x4 : Int32) (x5 : Int32) (x6 : Int32) (r0 : Nat) (t0 : Int32) (z : ow_MS), fr (pf [] []) z0 z → (L = 0 ∨ L = 1 ∨ L = 2 ∨ L = 3 ∨ L = 4 ∨ L = 5 ∨ L = 6 ∨ L = 7 ∨ L = 8 ∨ L = 9 ∨ L = 10 ∨ L = 11 → 1000 ≤ r0) → Fo id (pf [] []) z0 (go L x1 x2 x3 x4 x5 x6 r0 t0 z)) (hz : fr (pf [] []) z0 z) (hr0 : 1000 ≤ r0) : Fo id (pf [] []) z0 (qm_X12_walk_6 K go x1 x2 x3 x4 x5 x6 r0 t0 z) := by
  unfold qm_X12_walk_6
  exact (hgo 8 _ _ _ _ _ _ _ _ z hz (fun _ => (by first | omega | decide)))
theorem fb_X12_walk_7 {K : Nat} {z0 z : ow_MS}  {go : Nat → Int32 → Int32 → Int32 → Int32 → Int32 → Int32 → Nat → Int32 → ow_MS → Option ow_MS} {x1 : Int32} {x2 : Int32} {x3 : Int32} {x4 : Int32} {x5 : Int32} {x6 : Int32} {r0 : Nat} {t0 : Int32}  (hgo : ∀ (L : Nat) (x1 : Int32) (x2 : Int32) (x3 : Int32) (x4 : Int32) (x5 : Int32) (x6 : Int32) (r0 : Nat) (t0 : Int32) (z : ow_MS), fr (pf [] []) z0 z → (L = 0 ∨ L = 1 ∨ L = 2 ∨ L = 3 ∨ L = 4 ∨ L = 5 ∨ L = 6 ∨ L = 7 ∨ L = 8 ∨ L = 9 ∨ L = 10 ∨ L = 11 → 1000 ≤ r0) → Fo id (pf [] []) z0 (go L x1 x2 x3 x4 x5 x6 r0 t0 z)) (hz : fr (pf [] []) z0 z) (hr0 : 1000 ≤ r0) : Fo id (pf [] []) z0 (qm_X12_walk_7 K go x1 x2 x3 x4 x5 x6 r0 t0 z) := by
  unfold qm_X12_walk_7
  exact (hgo 8 _ _ _ _ _ _ _ _ z hz (fun _ => (by first | omega | decide)))
theorem fb_X12_walk_8 {K : Nat} {z0 z : ow_MS}  {go : Nat → Int32 → Int32 → Int32 → Int32 → Int32 → Int32 → Nat → Int32 → ow_MS → Option ow_MS} {x1 : Int32} {x2 : Int32} {x3 : Int32} {x4 : Int32} {x5 : Int32} {x6 : Int32} {r0 : Nat} {t0 : Int32}  (hgo : ∀ (L : Nat) (x1 : Int32) (x2 : Int32) (x3 : Int32) (x4 : Int32) (x5 : Int32) (x6 : Int32) (r0 : Nat) (t0 : Int32) (z : ow_MS), fr (pf [] []) z0 z → (L = 0 ∨ L = 1 ∨ L = 2 ∨ L = 3 ∨ L = 4 ∨ L = 5 ∨ L = 6 ∨ L = 7 ∨ L = 8 ∨ L = 9 ∨ L = 10 ∨ L = 11 → 1000 ≤ r0) → Fo id (pf [] []) z0 (go L x1 x2 x3 x4 x5 x6 r0 t0 z)) (hz : fr (pf [] []) z0 z) (hr0 : 1000 ≤ r0) : Fo id (pf [] []) z0 (qm_X12_walk_8 K go x1 x2 x3 x4 x5 x6 r0 t0 z) := by
  unfold qm_X12_walk_8
  exact (fo_if (hgo 9 _ _ _ _ _ _ _ _ z hz (fun _ => (by first | omega | decide))) (hgo 9 _ _ _ _ _ _ _ _ z hz (fun _ => (by first | omega | decide))))
theorem fb_X12_walk_9 {K : Nat} {z0 z : ow_MS}  {go : Nat → Int32 → Int32 → Int32 → Int32 → Int32 → Int32 → Nat → Int32 → ow_MS → Option ow_MS} {x1 : Int32} {x2 : Int32} {x3 : Int32} {x4 : Int32} {x5 : Int32} {x6 : Int32} {r0 : Nat} {t0 : Int32}  (hgo : ∀ (L : Nat) (x1 : Int32) (x2 : Int32) (x3 : Int32) (x4 : Int32) (x5 : Int32) (x6 : Int32) (r0 : Nat) (t0 : Int32) (z : ow_MS), fr (pf [] []) z0 z → (L = 0 ∨ L = 1 ∨ L = 2 ∨ L = 3 ∨ L = 4 ∨ L = 5 ∨ L = 6 ∨ L = 7 ∨ L = 8 ∨ L = 9 ∨ L = 10 ∨ L = 11 → 1000 ≤ r0) → Fo id (pf [] []) z0 (go L x1 x2 x3 x4 x5 x6 r0 t0 z)) (hz : fr (pf [] []) z0 z) (hr0 : 1000 ≤ r0) : Fo id (pf [] []) z0 (qm_X12_walk_9 K go x1 x2 x3 x4 x5 x6 r0 t0 z) := by
  unfold qm_X12_walk_9
  exact (fo_rdI (fun v23 => (fo_if (hgo 10 _ _ _ _ _ _ _ _ z hz (fun _ => (by first | omega | decide))) (fo_rdI (fun v24 => (hgo 10 _ _ _ _ _ _ _ _ z hz (fun _ => (by first | omega | decide))))))))
theorem fb_X12_walk_10 {K : Nat} {z0 z : ow_MS}  {go : Nat → Int32 → Int32 → Int32 → Int32 → Int32 → Int32 → Nat → Int32 → ow_MS → Option ow_MS} {x1 : Int32} {x2 : Int32} {x3 : Int32} {x4 : Int32} {x5 : Int32} {x6 : Int32} {r0 : Nat} {t0 : Int32}  (hgo : ∀ (L : Nat) (x1 : Int32) (x2 : Int32) (x3 : Int32) (x4 : Int32) (x5 : Int32) (x6 : Int32) (r0 : Nat) (t0 : Int32) (z : ow_MS), fr (pf [] []) z0 z → (L = 0 ∨ L = 1 ∨ L = 2 ∨ L = 3 ∨ L = 4 ∨ L = 5 ∨ L = 6 ∨ L = 7 ∨ L = 8 ∨ L = 9 ∨ L = 10 ∨ L = 11 → 1000 ≤ r0) → Fo id (pf [] []) z0 (go L x1 x2 x3 x4 x5 x6 r0 t0 z)) (hz : fr (pf [] []) z0 z) (hr0 : 1000 ≤ r0) : Fo id (pf [] []) z0 (qm_X12_walk_10 K go x1 x2 x3 x4 x5 x6 r0 t0 z) := by
  unfold qm_X12_walk_10
  exact (hgo 3 _ _ _ _ _ _ _ _ z hz (fun _ => (by first | omega | decide)))
theorem fb_X12_walk_11 {K : Nat} {z0 z : ow_MS}  {go : Nat → Int32 → Int32 → Int32 → Int32 → Int32 → Int32 → Nat → Int32 → ow_MS → Option ow_MS} {x1 : Int32} {x2 : Int32} {x3 : Int32} {x4 : Int32} {x5 : Int32} {x6 : Int32} {r0 : Nat} {t0 : Int32}  (hgo : ∀ (L : Nat) (x1 : Int32) (x2 : Int32) (x3 : Int32) (x4 : Int32) (x5 : Int32) (x6 : Int32) (r0 : Nat) (t0 : Int32) (z : ow_MS), fr (pf [] []) z0 z → (L = 0 ∨ L = 1 ∨ L = 2 ∨ L = 3 ∨ L = 4 ∨ L = 5 ∨ L = 6 ∨ L = 7 ∨ L = 8 ∨ L = 9 ∨ L = 10 ∨ L = 11 → 1000 ≤ r0) → Fo id (pf [] []) z0 (go L x1 x2 x3 x4 x5 x6 r0 t0 z)) (hz : fr (pf [] []) z0 z) (hr0 : 1000 ≤ r0) : Fo id (pf [] []) z0 (qm_X12_walk_11 K go x1 x2 x3 x4 x5 x6 r0 t0 z) := by
  unfold qm_X12_walk_11
  exact (hgo 2 _ _ _ _ _ _ _ _ z hz (fun _ => (by first | omega | decide)))
theorem fq_X12_walk {K : Nat} {z0 : ow_MS}   : ∀ (k L : Nat) (x1 : Int32) (x2 : Int32) (x3 : Int32) (x4 : Int32) (x5 : Int32) (x6 : Int32) (r0 : Nat) (t0 : Int32) (z : ow_MS), fr (pf [] []) z0 z → (L = 0 ∨ L = 1 ∨ L = 2 ∨ L = 3 ∨ L = 4 ∨ L = 5 ∨ L = 6 ∨ L = 7 ∨ L = 8 ∨ L = 9 ∨ L = 10 ∨ L = 11 → 1000 ≤ r0) → Fo id (pf [] []) z0 (q_X12_walk K k L x1 x2 x3 x4 x5 x6 r0 t0 z)
  | 0 => by
    intros
    exact fo_none
  | k + 1 => by
    intro L x1 x2 x3 x4 x5 x6 r0 t0 z hz h9_r0
    show Fo id (pf [] []) z0 (qb_X12_walk K (q_X12_walk K k) L x1 x2 x3 x4 x5 x6 r0 t0 z)
    unfold qb_X12_walk
    split
    · exact fb_X12_walk_0 (fq_X12_walk k) hz (h9_r0 (by decide))
    · exact fb_X12_walk_1 (fq_X12_walk k) hz (h9_r0 (by decide))
    · exact fb_X12_walk_2 (fq_X12_walk k) hz (h9_r0 (by decide))
    · exact fb_X12_walk_3 (fq_X12_walk k) hz (h9_r0 (by decide))
    · exact fb_X12_walk_4 (fq_X12_walk k) hz (h9_r0 (by decide))
    · exact fb_X12_walk_5 (fq_X12_walk k) hz (h9_r0 (by decide))
    · exact fb_X12_walk_6 (fq_X12_walk k) hz (h9_r0 (by decide))
    · exact fb_X12_walk_7 (fq_X12_walk k) hz (h9_r0 (by decide))
    · exact fb_X12_walk_8 (fq_X12_walk k) hz (h9_r0 (by decide))
    · exact fb_X12_walk_9 (fq_X12_walk k) hz (h9_r0 (by decide))
    · exact fb_X12_walk_10 (fq_X12_walk k) hz (h9_r0 (by decide))
    · exact fb_X12_walk_11 (fq_X12_walk k) hz (h9_r0 (by decide))
    · exact fo_none
theorem ff_X12_walk {K : Nat} {r0 : Nat} {z : ow_MS} (hr0 : 1000 ≤ r0) : Fo id (pf [] []) z (qe_X12_walk K r0 z) := fq_X12_walk K 0 _ _ _ _ _ _ _ _ z fr_rf (fun _ => (by first | omega | decide))
theorem ff_X12_isCircle {K : Nat} {r0 : Nat} {x1 : Int32} {z : ow_MS} (hr0 : 1000 ≤ r0) : Fo Prod.snd (pf [] []) z (qe_X12_isCircle K r0 x1 z) := by
  unfold qe_X12_isCircle qm_X12_isCircle_0
  exact (fo_rdI (fun v1 => (fo_rdI (fun v2 => (fo_if (fo_okZ (fo_some fr_rf)) (fo_okZ (fo_some fr_rf)))))))
theorem fb_X12_isPlane_0 {K : Nat} {z0 z : ow_MS}  {go : Nat → Int32 → Int32 → Int32 → Int32 → Nat → Int32 → Int32 → ow_MS → Option (Int32 × ow_MS)} {x1 : Int32} {x2 : Int32} {x3 : Int32} {x4 : Int32} {r0 : Nat} {t0 : Int32} {t1 : Int32}  (hgo : ∀ (L : Nat) (x1 : Int32) (x2 : Int32) (x3 : Int32) (x4 : Int32) (r0 : Nat) (t0 : Int32) (t1 : Int32) (z : ow_MS), fr (pf [] []) z0 z → (L = 0 ∨ L = 1 ∨ L = 2 ∨ L = 3 ∨ L = 4 ∨ L = 5 → 1000 ≤ r0) → Fo Prod.snd (pf [] []) z0 (go L x1 x2 x3 x4 r0 t0 t1 z)) (hz : fr (pf [] []) z0 z) (hr0 : 1000 ≤ r0) : Fo Prod.snd (pf [] []) z0 (qm_X12_isPlane_0 K go x1 x2 x3 x4 r0 t0 t1 z) := by
  unfold qm_X12_isPlane_0
  exact (fo_cs0 (ff_X12_split (by first | omega | decide)) (pf_sub (by decide) pf_0) hz (fun z1 h_z1 => (fo_cs0 (ff_X12_walk (by first | omega | decide)) (pf_sub (by decide) pf_0) h_z1 (fun z2 h_z2 => (fo_rdF (fun v3 => (fo_nzI (hgo 1 _ _ _ _ _ _ _ z2 h_z2 (fun _ => (by first | omega | decide))))))))))
theorem fb_X12_isPlane_1 {K : Nat} {z0 z : ow_MS}  {go : Nat → Int32 → Int32 → Int32 → Int32 → Nat → Int32 → Int32 → ow_MS → Option (Int32 × ow_MS)} {x1 : Int32} {x2 : Int32} {x3 : Int32} {x4 : Int32} {r0 : Nat} {t0 : Int32} {t1 : Int32}  (hgo : ∀ (L : Nat) (x1 : Int32) (x2 : Int32) (x3 : Int32) (x4 : Int32) (r0 : Nat) (t0 : Int32) (t1 : Int32) (z : ow_MS), fr (pf [] []) z0 z → (L = 0 ∨ L = 1 ∨ L = 2 ∨ L = 3 ∨ L = 4 ∨ L = 5 → 1000 ≤ r0) → Fo Prod.snd (pf [] []) z0 (go L x1 x2 x3 x4 r0 t0 t1 z)) (hz : fr (pf [] []) z0 z) (hr0 : 1000 ≤ r0) : Fo Prod.snd (pf [] []) z0 (qm_X12_isPlane_1 K go x1 x2 x3 x4 r0 t0 t1 z) := by
  unfold qm_X12_isPlane_1
  exact (fo_rdF (fun v4 => (fo_if (fo_rdF (fun v5 => (fo_if (fo_okZ (fo_some hz)) (fo_okZ (fo_some hz))))) (hgo 2 _ _ _ _ _ _ _ z hz (fun _ => (by first | omega | decide))))))
theorem fb_X12_isPlane_2 {K : Nat} {z0 z : ow_MS}  {go : Nat → Int32 → Int32 → Int32 → Int32 → Nat → Int32 → Int32 → ow_MS → Option (Int32 × ow_MS)} {x1 : Int32} {x2 : Int32} {x3 : Int32} {x4 : Int32} {r0 : Nat} {t0 : Int32} {t1 : Int32}  (hgo : ∀ (L : Nat) (x1 : Int32) (x2 : Int32) (x3 : Int32) (x4 : Int32) (r0 : Nat) (t0 : Int32) (t1 : Int32) (z : ow_MS), fr (pf [] []) z0 z → (L = 0 ∨ L = 1 ∨ L = 2 ∨ L = 3 ∨ L = 4 ∨ L = 5 → 1000 ≤ r0) → Fo Prod.snd (pf [] []) z0 (go L x1 x2 x3 x4 r0 t0 t1 z)) (hz : fr (pf [] []) z0 z) (hr0 : 1000 ≤ r0) : Fo Prod.snd (pf [] []) z0 (qm_X12_isPlane_2 K go x1 x2 x3 x4 r0 t0 t1 z) := by
  unfold qm_X12_isPlane_2
  exact (fo_rdF (fun v6 => (fo_if (fo_if (hgo 5 _ _ _ _ _ _ _ z hz (fun _ => (by first | omega | decide))) (hgo 5 _ _ _ _ _ _ _ z hz (fun _ => (by first | omega | decide)))) (fo_rdI (fun v7 => (fo_if (fo_cs1 (ff_X12_isCircle (by first | omega | decide)) (pf_sub (by decide) pf_0) hz (fun v9 z8 h_z8 => (fo_if (hgo 4 _ _ _ _ _ _ _ z8 h_z8 (fun _ => (by first | omega | decide))) (hgo 3 _ _ _ _ _ _ _ z8 h_z8 (fun _ => (by first | omega | decide)))))) (hgo 3 _ _ _ _ _ _ _ z hz (fun _ => (by first | omega | decide)))))))))
theorem fb_X12_isPlane_3 {K : Nat} {z0 z : ow_MS}  {go : Nat → Int32 → Int32 → Int32 → Int32 → Nat → Int32 → Int32 → ow_MS → Option (Int32 × ow_MS)} {x1 : Int32} {x2 : Int32} {x3 : Int32} {x4 : Int32} {r0 : Nat} {t0 : Int32} {t1 : Int32}  (hgo : ∀ (L : Nat) (x1 : Int32) (x2 : Int32) (x3 : Int32) (x4 : Int32) (r0 : Nat) (t0 : Int32) (t1 : Int32) (z : ow_MS), fr (pf [] []) z0 z → (L = 0 ∨ L = 1 ∨ L = 2 ∨ L = 3 ∨ L = 4 ∨ L = 5 → 1000 ≤ r0) → Fo Prod.snd (pf [] []) z0 (go L x1 x2 x3 x4 r0 t0 t1 z)) (hz : fr (pf [] []) z0 z) (hr0 : 1000 ≤ r0) : Fo Prod.snd (pf [] []) z0 (qm_X12_isPlane_3 K go x1 x2 x3 x4 r0 t0 t1 z) := by
  unfold qm_X12_isPlane_3
  exact (hgo 4 _ _ _ _ _ _ _ z hz (fun _ => (by first | omega | decide)))
theorem fb_X12_isPlane_4 {K : Nat} {z0 z : ow_MS}  {go : Nat → Int32 → Int32 → Int32 → Int32 → Nat → Int32 → Int32 → ow_MS → Option (Int32 × ow_MS)} {x1 : Int32} {x2 : Int32} {x3 : Int32} {x4 : Int32} {r0 : Nat} {t0 : Int32} {t1 : Int32}  (hgo : ∀ (L : Nat) (x1 : Int32) (x2 : Int32) (x3 : Int32) (x4 : Int32) (r0 : Nat) (t0 : Int32) (t1 : Int32) (z : ow_MS), fr (pf [] []) z0 z → (L = 0 ∨ L = 1 ∨ L = 2 ∨ L = 3 ∨ L = 4 ∨ L = 5 → 1000 ≤ r0) → Fo Prod.snd (pf [] []) z0 (go L x1 x2 x3 x4 r0 t0 t1 z)) (hz : fr (pf [] []) z0 z) (hr0 : 1000 ≤ r0) : Fo Prod.snd (pf [] []) z0 (qm_X12_isPlane_4 K go x1 x2 x3 x4 r0 t0 t1 z) := by
  unfold qm_X12_isPlane_4
  exact (hgo 2 _ _ _ _ _ _ _ z hz (fun _ => (by first | omega | decide)))
theorem fb_X12_isPlane_5 {K : Nat} {z0 z : ow_MS}  {go : Nat → Int32 → Int32 → Int32 → Int32 → Nat → Int32 → Int32 → ow_MS → Option (Int32 × ow_MS)} {x1 : Int32} {x2 : Int32} {x3 : Int32} {x4 : Int32} {r0 : Nat} {t0 : Int32} {t1 : Int32}  (hgo : ∀ (L : Nat) (x1 : Int32) (x2 : Int32) (x3 : Int32) (x4 : Int32) (r0 : Nat) (t0 : Int32) (t1 : Int32) (z : ow_MS), fr (pf [] []) z0 z → (L = 0 ∨ L = 1 ∨ L = 2 ∨ L = 3 ∨ L = 4 ∨ L = 5 → 1000 ≤ r0) → Fo Prod.snd (pf [] []) z0 (go L x1 x2 x3 x4 r0 t0 t1 z)) (hz : fr (pf [] []) z0 z) (hr0 : 1000 ≤ r0) : Fo Prod.snd (pf [] []) z0 (qm_X12_isPlane_5 K go x1 x2 x3 x4 r0 t0 t1 z) := by
  unfold qm_X12_isPlane_5
  exact (hgo 1 _ _ _ _ _ _ _ z hz (fun _ => (by first | omega | decide)))
theorem fq_X12_isPlane {K : Nat} {z0 : ow_MS}   : ∀ (k L : Nat) (x1 : Int32) (x2 : Int32) (x3 : Int32) (x4 : Int32) (r0 : Nat) (t0 : Int32) (t1 : Int32) (z : ow_MS), fr (pf [] []) z0 z → (L = 0 ∨ L = 1 ∨ L = 2 ∨ L = 3 ∨ L = 4 ∨ L = 5 → 1000 ≤ r0) → Fo Prod.snd (pf [] []) z0 (q_X12_isPlane K k L x1 x2 x3 x4 r0 t0 t1 z)
  | 0 => by
    intros
    exact fo_none
  | k + 1 => by
    intro L x1 x2 x3 x4 r0 t0 t1 z hz h9_r0
    show Fo Prod.snd (pf [] []) z0 (qb_X12_isPlane K (q_X12_isPlane K k) L x1 x2 x3 x4 r0 t0 t1 z)
    unfold qb_X12_isPlane
    split
    · exact fb_X12_isPlane_0 (fq_X12_isPlane k) hz (h9_r0 (by decide))
    · exact fb_X12_isPlane_1 (fq_X12_isPlane k) hz (h9_r0 (by decide))
    · exact fb_X12_isPlane_2 (fq_X12_isPlane k) hz (h9_r0 (by decide))
    · exact fb_X12_isPlane_3 (fq_X12_isPlane k) hz (h9_r0 (by decide))
    · exact fb_X12_isPlane_4 (fq_X12_isPlane k) hz (h9_r0 (by decide))
    · exact fb_X12_isPlane_5 (fq_X12_isPlane k) hz (h9_r0 (by decide))
    · exact fo_none
theorem ff_X12_isPlane {K : Nat} {r0 : Nat} {z : ow_MS} (hr0 : 1000 ≤ r0) : Fo Prod.snd (pf [] []) z (qe_X12_isPlane K r0 z) := fq_X12_isPlane K 0 _ _ _ _ _ _ _ z fr_rf (fun _ => (by first | omega | decide))
theorem fb_X13_read_0 {K : Nat} {z0 z : ow_MS}  {go : Nat → Int32 → Int32 → Int32 → Int32 → Int32 → Int32 → Int32 → Int32 → Int32 → ow_MS → Option (Int32 × ow_MS)} {x1 : Int32} {x2 : Int32} {x3 : Int32} {x4 : Int32} {x5 : Int32} {x6 : Int32} {x7 : Int32} {x8 : Int32} {t0 : Int32}  (hgo : ∀ (L : Nat) (x1 : Int32) (x2 : Int32) (x3 : Int32) (x4 : Int32) (x5 : Int32) (x6 : Int32) (x7 : Int32) (x8 : Int32) (t0 : Int32) (z : ow_MS), fr (pf [16, 17, 18, 19] []) z0 z → Fo Prod.snd (pf [16, 17, 18, 19] []) z0 (go L x1 x2 x3 x4 x5 x6 x7 x8 t0 z)) (hz : fr (pf [16, 17, 18, 19] []) z0 z)  : Fo Prod.snd (pf [16, 17, 18, 19] []) z0 (qm_X13_read_0 K go x1 x2 x3 x4 x5 x6 x7 x8 t0 z) := by
  unfold qm_X13_read_0
  exact (fo_cs0 (ff_X12_clear (by first | omega | decide)) (pf_sub (by decide) pf_0) hz (fun z1 h_z1 => (hgo 1 _ _ _ _ _ _ _ _ _ z1 h_z1)))
theorem fb_X13_read_1 {K : Nat} {z0 z : ow_MS}  {go : Nat → Int32 → Int32 → Int32 → Int32 → Int32 → Int32 → Int32 → Int32 → Int32 → ow_MS → Option (Int32 × ow_MS)} {x1 : Int32} {x2 : Int32} {x3 : Int32} {x4 : Int32} {x5 : Int32} {x6 : Int32} {x7 : Int32} {x8 : Int32} {t0 : Int32}  (hgo : ∀ (L : Nat) (x1 : Int32) (x2 : Int32) (x3 : Int32) (x4 : Int32) (x5 : Int32) (x6 : Int32) (x7 : Int32) (x8 : Int32) (t0 : Int32) (z : ow_MS), fr (pf [16, 17, 18, 19] []) z0 z → Fo Prod.snd (pf [16, 17, 18, 19] []) z0 (go L x1 x2 x3 x4 x5 x6 x7 x8 t0 z)) (hz : fr (pf [16, 17, 18, 19] []) z0 z)  : Fo Prod.snd (pf [16, 17, 18, 19] []) z0 (qm_X13_read_1 K go x1 x2 x3 x4 x5 x6 x7 x8 t0 z) := by
  unfold qm_X13_read_1
  exact (fo_rdF (fun v2 => (fo_if (fo_cs0 (ff_X12_end (by first | omega | decide)) (pf_sub (by decide) pf_0) hz (fun z3 h_z3 => (fo_rdF (fun v4 => (hgo 10 _ _ _ _ _ _ _ _ _ z3 h_z3))))) (fo_rdI (fun v5 => (fo_if (fo_cs0 (ff_X12_end (by first | omega | decide)) (pf_sub (by decide) pf_0) hz (fun z6 h_z6 => (fo_rdF (fun v7 => (fo_if (fo_some h_z6) (hgo 1 _ _ _ _ _ _ _ _ _ z6 h_z6)))))) (fo_if (hgo 2 _ _ _ _ _ _ _ _ _ z hz) (fo_if (hgo 2 _ _ _ _ _ _ _ _ _ z hz) (fo_some hz)))))))))
theorem fb_X13_read_2 {K : Nat} {z0 z : ow_MS}  {go : Nat → Int32 → Int32 → Int32 → Int32 → Int32 → Int32 → Int32 → Int32 → Int32 → ow_MS → Option (Int32 × ow_MS)} {x1 : Int32} {x2 : Int32} {x3 : Int32} {x4 : Int32} {x5 : Int32} {x6 : Int32} {x7 : Int32} {x8 : Int32} {t0 : Int32}  (hgo : ∀ (L : Nat) (x1 : Int32) (x2 : Int32) (x3 : Int32) (x4 : Int32) (x5 : Int32) (x6 : Int32) (x7 : Int32) (x8 : Int32) (t0 : Int32) (z : ow_MS), fr (pf [16, 17, 18, 19] []) z0 z → Fo Prod.snd (pf [16, 17, 18, 19] []) z0 (go L x1 x2 x3 x4 x5 x6 x7 x8 t0 z)) (hz : fr (pf [16, 17, 18, 19] []) z0 z)  : Fo Prod.snd (pf [16, 17, 18, 19] []) z0 (qm_X13_read_2 K go x1 x2 x3 x4 x5 x6 x7 x8 t0 z) := by
  unfold qm_X13_read_2
  exact (fo_rdF (fun v8 => (fo_if (fo_rdF (fun v21 => (fo_some hz))) (fo_cs1 (ff_X13_byteAt) (pf_sub (by decide) pf_0) hz (fun v10 z9 h_z9 => (fo_if (fo_some h_z9) (fo_cs1 (ff_X13_byteAt) (pf_sub (by decide) pf_0) h_z9 (fun v12 z11 h_z11 => (fo_if (fo_cs1 (ff_X13_byteAt) (pf_sub (by decide) pf_0) h_z11 (fun v14 z13 h_z13 => (fo_cs1 (ff_X13_byteAt) (pf_sub (by decide) pf_0) h_z13 (fun v16 z15 h_z15 => (fo_if (hgo 3 _ _ _ _ _ _ _ _ _ z15 h_z15) (fo_cs1 (ff_X13_byteAt) (pf_sub (by decide) pf_0) h_z15 (fun v18 z17 h_z17 => (fo_if (hgo 3 _ _ _ _ _ _ _ _ _ z17 h_z17) (fo_cs1 (ff_X13_byteAt) (pf_sub (by decide) pf_0) h_z17 (fun v20 z19 h_z19 => (hgo 3 _ _ _ _ _ _ _ _ _ z19 h_z19))))))))))) (fo_some h_z11))))))))))
theorem fb_X13_read_3 {K : Nat} {z0 z : ow_MS}  {go : Nat → Int32 → Int32 → Int32 → Int32 → Int32 → Int32 → Int32 → Int32 → Int32 → ow_MS → Option (Int32 × ow_MS)} {x1 : Int32} {x2 : Int32} {x3 : Int32} {x4 : Int32} {x5 : Int32} {x6 : Int32} {x7 : Int32} {x8 : Int32} {t0 : Int32}  (hgo : ∀ (L : Nat) (x1 : Int32) (x2 : Int32) (x3 : Int32) (x4 : Int32) (x5 : Int32) (x6 : Int32) (x7 : Int32) (x8 : Int32) (t0 : Int32) (z : ow_MS), fr (pf [16, 17, 18, 19] []) z0 z → Fo Prod.snd (pf [16, 17, 18, 19] []) z0 (go L x1 x2 x3 x4 x5 x6 x7 x8 t0 z)) (hz : fr (pf [16, 17, 18, 19] []) z0 z)  : Fo Prod.snd (pf [16, 17, 18, 19] []) z0 (qm_X13_read_3 K go x1 x2 x3 x4 x5 x6 x7 x8 t0 z) := by
  unfold qm_X13_read_3
  exact (fo_rdF (fun v22 => (fo_if (fo_rdF (fun v27 => (fo_some hz))) (fo_cs1 (ff_X13_byteAt) (pf_sub (by decide) pf_0) hz (fun v24 z23 h_z23 => (fo_if (hgo 4 _ _ _ _ _ _ _ _ _ z23 h_z23) (fo_cs1 (ff_X13_byteAt) (pf_sub (by decide) pf_0) h_z23 (fun v26 z25 h_z25 => (fo_if (hgo 4 _ _ _ _ _ _ _ _ _ z25 h_z25) (fo_some h_z25))))))))))
theorem fb_X13_read_4 {K : Nat} {z0 z : ow_MS}  {go : Nat → Int32 → Int32 → Int32 → Int32 → Int32 → Int32 → Int32 → Int32 → Int32 → ow_MS → Option (Int32 × ow_MS)} {x1 : Int32} {x2 : Int32} {x3 : Int32} {x4 : Int32} {x5 : Int32} {x6 : Int32} {x7 : Int32} {x8 : Int32} {t0 : Int32}  (hgo : ∀ (L : Nat) (x1 : Int32) (x2 : Int32) (x3 : Int32) (x4 : Int32) (x5 : Int32) (x6 : Int32) (x7 : Int32) (x8 : Int32) (t0 : Int32) (z : ow_MS), fr (pf [16, 17, 18, 19] []) z0 z → Fo Prod.snd (pf [16, 17, 18, 19] []) z0 (go L x1 x2 x3 x4 x5 x6 x7 x8 t0 z)) (hz : fr (pf [16, 17, 18, 19] []) z0 z)  : Fo Prod.snd (pf [16, 17, 18, 19] []) z0 (qm_X13_read_4 K go x1 x2 x3 x4 x5 x6 x7 x8 t0 z) := by
  unfold qm_X13_read_4
  exact (fo_cs1 (ff_X13_byteAt) (pf_sub (by decide) pf_0) hz (fun v29 z28 h_z28 => (fo_if (hgo 5 _ _ _ _ _ _ _ _ _ z28 h_z28) (hgo 5 _ _ _ _ _ _ _ _ _ z28 h_z28))))
theorem fb_X13_read_5 {K : Nat} {z0 z : ow_MS}  {go : Nat → Int32 → Int32 → Int32 → Int32 → Int32 → Int32 → Int32 → Int32 → Int32 → ow_MS → Option (Int32 × ow_MS)} {x1 : Int32} {x2 : Int32} {x3 : Int32} {x4 : Int32} {x5 : Int32} {x6 : Int32} {x7 : Int32} {x8 : Int32} {t0 : Int32}  (hgo : ∀ (L : Nat) (x1 : Int32) (x2 : Int32) (x3 : Int32) (x4 : Int32) (x5 : Int32) (x6 : Int32) (x7 : Int32) (x8 : Int32) (t0 : Int32) (z : ow_MS), fr (pf [16, 17, 18, 19] []) z0 z → Fo Prod.snd (pf [16, 17, 18, 19] []) z0 (go L x1 x2 x3 x4 x5 x6 x7 x8 t0 z)) (hz : fr (pf [16, 17, 18, 19] []) z0 z)  : Fo Prod.snd (pf [16, 17, 18, 19] []) z0 (qm_X13_read_5 K go x1 x2 x3 x4 x5 x6 x7 x8 t0 z) := by
  unfold qm_X13_read_5
  exact (fo_if (hgo 6 _ _ _ _ _ _ _ _ _ z hz) (hgo 6 _ _ _ _ _ _ _ _ _ z hz))
theorem fb_X13_read_6 {K : Nat} {z0 z : ow_MS}  {go : Nat → Int32 → Int32 → Int32 → Int32 → Int32 → Int32 → Int32 → Int32 → Int32 → ow_MS → Option (Int32 × ow_MS)} {x1 : Int32} {x2 : Int32} {x3 : Int32} {x4 : Int32} {x5 : Int32} {x6 : Int32} {x7 : Int32} {x8 : Int32} {t0 : Int32}  (hgo : ∀ (L : Nat) (x1 : Int32) (x2 : Int32) (x3 : Int32) (x4 : Int32) (x5 : Int32) (x6 : Int32) (x7 : Int32) (x8 : Int32) (t0 : Int32) (z : ow_MS), fr (pf [16, 17, 18, 19] []) z0 z → Fo Prod.snd (pf [16, 17, 18, 19] []) z0 (go L x1 x2 x3 x4 x5 x6 x7 x8 t0 z)) (hz : fr (pf [16, 17, 18, 19] []) z0 z)  : Fo Prod.snd (pf [16, 17, 18, 19] []) z0 (qm_X13_read_6 K go x1 x2 x3 x4 x5 x6 x7 x8 t0 z) := by
  unfold qm_X13_read_6
  exact (hgo 7 _ _ _ _ _ _ _ _ _ z hz)
theorem fb_X13_read_7 {K : Nat} {z0 z : ow_MS}  {go : Nat → Int32 → Int32 → Int32 → Int32 → Int32 → Int32 → Int32 → Int32 → Int32 → ow_MS → Option (Int32 × ow_MS)} {x1 : Int32} {x2 : Int32} {x3 : Int32} {x4 : Int32} {x5 : Int32} {x6 : Int32} {x7 : Int32} {x8 : Int32} {t0 : Int32}  (hgo : ∀ (L : Nat) (x1 : Int32) (x2 : Int32) (x3 : Int32) (x4 : Int32) (x5 : Int32) (x6 : Int32) (x7 : Int32) (x8 : Int32) (t0 : Int32) (z : ow_MS), fr (pf [16, 17, 18, 19] []) z0 z → Fo Prod.snd (pf [16, 17, 18, 19] []) z0 (go L x1 x2 x3 x4 x5 x6 x7 x8 t0 z)) (hz : fr (pf [16, 17, 18, 19] []) z0 z)  : Fo Prod.snd (pf [16, 17, 18, 19] []) z0 (qm_X13_read_7 K go x1 x2 x3 x4 x5 x6 x7 x8 t0 z) := by
  unfold qm_X13_read_7
  exact (fo_if (hgo 8 _ _ _ _ _ _ _ _ _ z hz) (fo_rdI (fun v30 => (fo_if (hgo 8 _ _ _ _ _ _ _ _ _ z hz) (hgo 7 _ _ _ _ _ _ _ _ _ z hz)))))
theorem fb_X13_read_8 {K : Nat} {z0 z : ow_MS}  {go : Nat → Int32 → Int32 → Int32 → Int32 → Int32 → Int32 → Int32 → Int32 → Int32 → ow_MS → Option (Int32 × ow_MS)} {x1 : Int32} {x2 : Int32} {x3 : Int32} {x4 : Int32} {x5 : Int32} {x6 : Int32} {x7 : Int32} {x8 : Int32} {t0 : Int32}  (hgo : ∀ (L : Nat) (x1 : Int32) (x2 : Int32) (x3 : Int32) (x4 : Int32) (x5 : Int32) (x6 : Int32) (x7 : Int32) (x8 : Int32) (t0 : Int32) (z : ow_MS), fr (pf [16, 17, 18, 19] []) z0 z → Fo Prod.snd (pf [16, 17, 18, 19] []) z0 (go L x1 x2 x3 x4 x5 x6 x7 x8 t0 z)) (hz : fr (pf [16, 17, 18, 19] []) z0 z)  : Fo Prod.snd (pf [16, 17, 18, 19] []) z0 (qm_X13_read_8 K go x1 x2 x3 x4 x5 x6 x7 x8 t0 z) := by
  unfold qm_X13_read_8
  exact (fo_if (fo_if (fo_some hz) (fo_wrI (Or.inl (by decide)) hz (fun z31 h_z31 => (fo_wrI (Or.inl (by decide)) h_z31 (fun z32 h_z32 => (fo_wrI (Or.inl (by decide)) h_z32 (fun z33 h_z33 => (fo_wrI (Or.inl (by decide)) h_z33 (fun z34 h_z34 => (hgo 9 _ _ _ _ _ _ _ _ _ z34 h_z34)))))))))) (hgo 9 _ _ _ _ _ _ _ _ _ z hz))
theorem fb_X13_read_9 {K : Nat} {z0 z : ow_MS}  {go : Nat → Int32 → Int32 → Int32 → Int32 → Int32 → Int32 → Int32 → Int32 → Int32 → ow_MS → Option (Int32 × ow_MS)} {x1 : Int32} {x2 : Int32} {x3 : Int32} {x4 : Int32} {x5 : Int32} {x6 : Int32} {x7 : Int32} {x8 : Int32} {t0 : Int32}  (hgo : ∀ (L : Nat) (x1 : Int32) (x2 : Int32) (x3 : Int32) (x4 : Int32) (x5 : Int32) (x6 : Int32) (x7 : Int32) (x8 : Int32) (t0 : Int32) (z : ow_MS), fr (pf [16, 17, 18, 19] []) z0 z → Fo Prod.snd (pf [16, 17, 18, 19] []) z0 (go L x1 x2 x3 x4 x5 x6 x7 x8 t0 z)) (hz : fr (pf [16, 17, 18, 19] []) z0 z)  : Fo Prod.snd (pf [16, 17, 18, 19] []) z0 (qm_X13_read_9 K go x1 x2 x3 x4 x5 x6 x7 x8 t0 z) := by
  unfold qm_X13_read_9
  exact (fo_rdI (fun v35 => (fo_if (fo_rdI (fun v36 => (fo_if (fo_rdI (fun v37 => (fo_wrI (Or.inl (by decide)) hz (fun z38 h_z38 => (fo_wrI (Or.inr (Or.inr (by decide))) h_z38 (fun z39 h_z39 => (fo_cs0 (ff_X12_add (by first | omega | decide)) (pf_sub (by decide) pf_0) h_z39 (fun z40 h_z40 => (hgo 1 _ _ _ _ _ _ _ _ _ z40 h_z40))))))))) (fo_some hz)))) (fo_some hz))))
theorem fb_X13_read_10 {K : Nat} {z0 z : ow_MS}  {go : Nat → Int32 → Int32 → Int32 → Int32 → Int32 → Int32 → Int32 → Int32 → Int32 → ow_MS → Option (Int32 × ow_MS)} {x1 : Int32} {x2 : Int32} {x3 : Int32} {x4 : Int32} {x5 : Int32} {x6 : Int32} {x7 : Int32} {x8 : Int32} {t0 : Int32}  (hgo : ∀ (L : Nat) (x1 : Int32) (x2 : Int32) (x3 : Int32) (x4 : Int32) (x5 : Int32) (x6 : Int32) (x7 : Int32) (x8 : Int32) (t0 : Int32) (z : ow_MS), fr (pf [16, 17, 18, 19] []) z0 z → Fo Prod.snd (pf [16, 17, 18, 19] []) z0 (go L x1 x2 x3 x4 x5 x6 x7 x8 t0 z)) (hz : fr (pf [16, 17, 18, 19] []) z0 z)  : Fo Prod.snd (pf [16, 17, 18, 19] []) z0 (qm_X13_read_10 K go x1 x2 x3 x4 x5 x6 x7 x8 t0 z) := by
  unfold qm_X13_read_10
  exact (fo_if (fo_rdF (fun v41 => (fo_if (fo_cs0 (ff_X12_link (by first | omega | decide)) (pf_sub (by decide) pf_0) hz (fun z42 h_z42 => (fo_cs1 (ff_X12_isPlane (by first | omega | decide)) (pf_sub (by decide) pf_0) h_z42 (fun v44 z43 h_z43 => (fo_if (fo_rdF (fun v45 => (fo_some h_z43))) (fo_some h_z43)))))) (fo_some hz)))) (fo_rdI (fun v46 => (fo_if (hgo 11 _ _ _ _ _ _ _ _ _ z hz) (fo_rdI (fun v47 => (hgo 11 _ _ _ _ _ _ _ _ _ z hz)))))))
theorem fb_X13_read_11 {K : Nat} {z0 z : ow_MS}  {go : Nat → Int32 → Int32 → Int32 → Int32 → Int32 → Int32 → Int32 → Int32 → Int32 → ow_MS → Option (Int32 × ow_MS)} {x1 : Int32} {x2 : Int32} {x3 : Int32} {x4 : Int32} {x5 : Int32} {x6 : Int32} {x7 : Int32} {x8 : Int32} {t0 : Int32}  (hgo : ∀ (L : Nat) (x1 : Int32) (x2 : Int32) (x3 : Int32) (x4 : Int32) (x5 : Int32) (x6 : Int32) (x7 : Int32) (x8 : Int32) (t0 : Int32) (z : ow_MS), fr (pf [16, 17, 18, 19] []) z0 z → Fo Prod.snd (pf [16, 17, 18, 19] []) z0 (go L x1 x2 x3 x4 x5 x6 x7 x8 t0 z)) (hz : fr (pf [16, 17, 18, 19] []) z0 z)  : Fo Prod.snd (pf [16, 17, 18, 19] []) z0 (qm_X13_read_11 K go x1 x2 x3 x4 x5 x6 x7 x8 t0 z) := by
  unfold qm_X13_read_11
  exact (hgo 10 _ _ _ _ _ _ _ _ _ z hz)
theorem fq_X13_read {K : Nat} {z0 : ow_MS}   : ∀ (k L : Nat) (x1 : Int32) (x2 : Int32) (x3 : Int32) (x4 : Int32) (x5 : Int32) (x6 : Int32) (x7 : Int32) (x8 : Int32) (t0 : Int32) (z : ow_MS), fr (pf [16, 17, 18, 19] []) z0 z → Fo Prod.snd (pf [16, 17, 18, 19] []) z0 (q_X13_read K k L x1 x2 x3 x4 x5 x6 x7 x8 t0 z)
  | 0 => by
    intros
    exact fo_none
  | k + 1 => by
    intro L x1 x2 x3 x4 x5 x6 x7 x8 t0 z hz 
    show Fo Prod.snd (pf [16, 17, 18, 19] []) z0 (qb_X13_read K (q_X13_read K k) L x1 x2 x3 x4 x5 x6 x7 x8 t0 z)
    unfold qb_X13_read
    split
    · exact fb_X13_read_0 (fq_X13_read k) hz 
    · exact fb_X13_read_1 (fq_X13_read k) hz 
    · exact fb_X13_read_2 (fq_X13_read k) hz 
    · exact fb_X13_read_3 (fq_X13_read k) hz 
    · exact fb_X13_read_4 (fq_X13_read k) hz 
    · exact fb_X13_read_5 (fq_X13_read k) hz 
    · exact fb_X13_read_6 (fq_X13_read k) hz 
    · exact fb_X13_read_7 (fq_X13_read k) hz 
    · exact fb_X13_read_8 (fq_X13_read k) hz 
    · exact fb_X13_read_9 (fq_X13_read k) hz 
    · exact fb_X13_read_10 (fq_X13_read k) hz 
    · exact fb_X13_read_11 (fq_X13_read k) hz 
    · exact fo_none
theorem ff_X13_read {K : Nat} {z : ow_MS}  : Fo Prod.snd (pf [16, 17, 18, 19] []) z (qe_X13_read K z) := fq_X13_read K 0 _ _ _ _ _ _ _ _ _ z fr_rf 
theorem fb_X13_rowFrom_0 {K : Nat} {z0 z : ow_MS}  {go : Nat → Int32 → Int32 → Int32 → Int32 → Int32 → Int32 → Nat → Int32 → Int32 → Int32 → ow_MS → Option ow_MS} {x2 : Int32} {x3 : Int32} {x4 : Int32} {x5 : Int32} {x6 : Int32} {x7 : Int32} {r1 : Nat} {t0 : Int32} {t1 : Int32} {t2 : Int32}  (hgo : ∀ (L : Nat) (x2 : Int32) (x3 : Int32) (x4 : Int32) (x5 : Int32) (x6 : Int32) (x7 : Int32) (r1 : Nat) (t0 : Int32) (t1 : Int32) (t2 : Int32) (z : ow_MS), fr (pf [2, 3, 4, 5, 6] []) z0 z → (L = 0 ∨ L = 1 ∨ L = 2 ∨ L = 3 ∨ L = 4 ∨ L = 5 ∨ L = 6 ∨ L = 7 ∨ L = 8 → 1000 ≤ r1) → Fo id (pf [2, 3, 4, 5, 6] []) z0 (go L x2 x3 x4 x5 x6 x7 r1 t0 t1 t2 z)) (hz : fr (pf [2, 3, 4, 5, 6] []) z0 z) (hr1 : 1000 ≤ r1) : Fo id (pf [2, 3, 4, 5, 6] []) z0 (qm_X13_rowFrom_0 K go x2 x3 x4 x5 x6 x7 r1 t0 t1 t2 z) := by
  unfold qm_X13_rowFrom_0
  exact (hgo 1 _ _ _ _ _ _ _ _ _ _ z hz (fun _ => (by first | omega | decide)))
theorem fb_X13_rowFrom_1 {K : Nat} {z0 z : ow_MS}  {go : Nat → Int32 → Int32 → Int32 → Int32 → Int32 → Int32 → Nat → Int32 → Int32 → Int32 → ow_MS → Option ow_MS} {x2 : Int32} {x3 : Int32} {x4 : Int32} {x5 : Int32} {x6 : Int32} {x7 : Int32} {r1 : Nat} {t0 : Int32} {t1 : Int32} {t2 : Int32}  (hgo : ∀ (L : Nat) (x2 : Int32) (x3 : Int32) (x4 : Int32) (x5 : Int32) (x6 : Int32) (x7 : Int32) (r1 : Nat) (t0 : Int32) (t1 : Int32) (t2 : Int32) (z : ow_MS), fr (pf [2, 3, 4, 5, 6] []) z0 z → (L = 0 ∨ L = 1 ∨ L = 2 ∨ L = 3 ∨ L = 4 ∨ L = 5 ∨ L = 6 ∨ L = 7 ∨ L = 8 → 1000 ≤ r1) → Fo id (pf [2, 3, 4, 5, 6] []) z0 (go L x2 x3 x4 x5 x6 x7 r1 t0 t1 t2 z)) (hz : fr (pf [2, 3, 4, 5, 6] []) z0 z) (hr1 : 1000 ≤ r1) : Fo id (pf [2, 3, 4, 5, 6] []) z0 (qm_X13_rowFrom_1 K go x2 x3 x4 x5 x6 x7 r1 t0 t1 t2 z) := by
  unfold qm_X13_rowFrom_1
  exact (fo_if (fo_wrF (Or.inl (by decide)) hz (fun z1 h_z1 => (hgo 2 _ _ _ _ _ _ _ _ _ _ z1 h_z1 (fun _ => (by first | omega | decide))))) (fo_wrI (Or.inl (by decide)) hz (fun z2 h_z2 => (fo_wrZ (Or.inl (by decide)) h_z2 (fun z3 h_z3 => (hgo 1 _ _ _ _ _ _ _ _ _ _ z3 h_z3 (fun _ => (by first | omega | decide))))))))
theorem fb_X13_rowFrom_2 {K : Nat} {z0 z : ow_MS}  {go : Nat → Int32 → Int32 → Int32 → Int32 → Int32 → Int32 → Nat → Int32 → Int32 → Int32 → ow_MS → Option ow_MS} {x2 : Int32} {x3 : Int32} {x4 : Int32} {x5 : Int32} {x6 : Int32} {x7 : Int32} {r1 : Nat} {t0 : Int32} {t1 : Int32} {t2 : Int32}  (hgo : ∀ (L : Nat) (x2 : Int32) (x3 : Int32) (x4 : Int32) (x5 : Int32) (x6 : Int32) (x7 : Int32) (r1 : Nat) (t0 : Int32) (t1 : Int32) (t2 : Int32) (z : ow_MS), fr (pf [2, 3, 4, 5, 6] []) z0 z → (L = 0 ∨ L = 1 ∨ L = 2 ∨ L = 3 ∨ L = 4 ∨ L = 5 ∨ L = 6 ∨ L = 7 ∨ L = 8 → 1000 ≤ r1) → Fo id (pf [2, 3, 4, 5, 6] []) z0 (go L x2 x3 x4 x5 x6 x7 r1 t0 t1 t2 z)) (hz : fr (pf [2, 3, 4, 5, 6] []) z0 z) (hr1 : 1000 ≤ r1) : Fo id (pf [2, 3, 4, 5, 6] []) z0 (qm_X13_rowFrom_2 K go x2 x3 x4 x5 x6 x7 r1 t0 t1 t2 z) := by
  unfold qm_X13_rowFrom_2
  exact (fo_if (fo_rdF (fun v4 => (fo_wrI (Or.inl (by decide)) hz (fun z5 h_z5 => (fo_some h_z5))))) (fo_rdI (fun v6 => (fo_wrZ (Or.inl (by decide)) hz (fun z7 h_z7 => (hgo 3 _ _ _ _ _ _ _ _ _ _ z7 h_z7 (fun _ => (by first | omega | decide))))))))
theorem fb_X13_rowFrom_3 {K : Nat} {z0 z : ow_MS}  {go : Nat → Int32 → Int32 → Int32 → Int32 → Int32 → Int32 → Nat → Int32 → Int32 → Int32 → ow_MS → Option ow_MS} {x2 : Int32} {x3 : Int32} {x4 : Int32} {x5 : Int32} {x6 : Int32} {x7 : Int32} {r1 : Nat} {t0 : Int32} {t1 : Int32} {t2 : Int32}  (hgo : ∀ (L : Nat) (x2 : Int32) (x3 : Int32) (x4 : Int32) (x5 : Int32) (x6 : Int32) (x7 : Int32) (r1 : Nat) (t0 : Int32) (t1 : Int32) (t2 : Int32) (z : ow_MS), fr (pf [2, 3, 4, 5, 6] []) z0 z → (L = 0 ∨ L = 1 ∨ L = 2 ∨ L = 3 ∨ L = 4 ∨ L = 5 ∨ L = 6 ∨ L = 7 ∨ L = 8 → 1000 ≤ r1) → Fo id (pf [2, 3, 4, 5, 6] []) z0 (go L x2 x3 x4 x5 x6 x7 r1 t0 t1 t2 z)) (hz : fr (pf [2, 3, 4, 5, 6] []) z0 z) (hr1 : 1000 ≤ r1) : Fo id (pf [2, 3, 4, 5, 6] []) z0 (qm_X13_rowFrom_3 K go x2 x3 x4 x5 x6 x7 r1 t0 t1 t2 z) := by
  unfold qm_X13_rowFrom_3
  exact (fo_rdI (fun v8 => (fo_rdI (fun v9 => (fo_if (fo_wrI (Or.inl (by decide)) hz (fun z10 h_z10 => (fo_wrI (Or.inl (by decide)) h_z10 (fun z11 h_z11 => (hgo 4 _ _ _ _ _ _ _ _ _ _ z11 h_z11 (fun _ => (by first | omega | decide))))))) (hgo 4 _ _ _ _ _ _ _ _ _ _ z hz (fun _ => (by first | omega | decide))))))))
theorem fb_X13_rowFrom_4 {K : Nat} {z0 z : ow_MS}  {go : Nat → Int32 → Int32 → Int32 → Int32 → Int32 → Int32 → Nat → Int32 → Int32 → Int32 → ow_MS → Option ow_MS} {x2 : Int32} {x3 : Int32} {x4 : Int32} {x5 : Int32} {x6 : Int32} {x7 : Int32} {r1 : Nat} {t0 : Int32} {t1 : Int32} {t2 : Int32}  (hgo : ∀ (L : Nat) (x2 : Int32) (x3 : Int32) (x4 : Int32) (x5 : Int32) (x6 : Int32) (x7 : Int32) (r1 : Nat) (t0 : Int32) (t1 : Int32) (t2 : Int32) (z : ow_MS), fr (pf [2, 3, 4, 5, 6] []) z0 z → (L = 0 ∨ L = 1 ∨ L = 2 ∨ L = 3 ∨ L = 4 ∨ L = 5 ∨ L = 6 ∨ L = 7 ∨ L = 8 → 1000 ≤ r1) → Fo id (pf [2, 3, 4, 5, 6] []) z0 (go L x2 x3 x4 x5 x6 x7 r1 t0 t1 t2 z)) (hz : fr (pf [2, 3, 4, 5, 6] []) z0 z) (hr1 : 1000 ≤ r1) : Fo id (pf [2, 3, 4, 5, 6] []) z0 (qm_X13_rowFrom_4 K go x2 x3 x4 x5 x6 x7 r1 t0 t1 t2 z) := by
  unfold qm_X13_rowFrom_4
  exact (fo_rdF (fun v12 => (fo_wrF (Or.inl (by decide)) hz (fun z13 h_z13 => (fo_rdF (fun v14 => (fo_rdI (fun v15 => (fo_rdI (fun v16 => (fo_rdI (fun v17 => (fo_if (hgo 5 _ _ _ _ _ _ _ _ _ _ z13 h_z13 (fun _ => (by first | omega | decide))) (hgo 5 _ _ _ _ _ _ _ _ _ _ z13 h_z13 (fun _ => (by first | omega | decide))))))))))))))))
theorem fb_X13_rowFrom_5 {K : Nat} {z0 z : ow_MS}  {go : Nat → Int32 → Int32 → Int32 → Int32 → Int32 → Int32 → Nat → Int32 → Int32 → Int32 → ow_MS → Option ow_MS} {x2 : Int32} {x3 : Int32} {x4 : Int32} {x5 : Int32} {x6 : Int32} {x7 : Int32} {r1 : Nat} {t0 : Int32} {t1 : Int32} {t2 : Int32}  (hgo : ∀ (L : Nat) (x2 : Int32) (x3 : Int32) (x4 : Int32) (x5 : Int32) (x6 : Int32) (x7 : Int32) (r1 : Nat) (t0 : Int32) (t1 : Int32) (t2 : Int32) (z : ow_MS), fr (pf [2, 3, 4, 5, 6] []) z0 z → (L = 0 ∨ L = 1 ∨ L = 2 ∨ L = 3 ∨ L = 4 ∨ L = 5 ∨ L = 6 ∨ L = 7 ∨ L = 8 → 1000 ≤ r1) → Fo id (pf [2, 3, 4, 5, 6] []) z0 (go L x2 x3 x4 x5 x6 x7 r1 t0 t1 t2 z)) (hz : fr (pf [2, 3, 4, 5, 6] []) z0 z) (hr1 : 1000 ≤ r1) : Fo id (pf [2, 3, 4, 5, 6] []) z0 (qm_X13_rowFrom_5 K go x2 x3 x4 x5 x6 x7 r1 t0 t1 t2 z) := by
  unfold qm_X13_rowFrom_5
  exact (fo_wrI (Or.inl (by decide)) hz (fun z18 h_z18 => (fo_rdI (fun v19 => (fo_if (fo_rdF (fun v20 => (fo_wrF (Or.inl (by decide)) h_z18 (fun z21 h_z21 => (fo_rdF (fun v22 => (fo_wrI (Or.inl (by decide)) h_z21 (fun z23 h_z23 => (hgo 6 _ _ _ _ _ _ _ _ _ _ z23 h_z23 (fun _ => (by first | omega | decide))))))))))) (hgo 3 _ _ _ _ _ _ _ _ _ _ z18 h_z18 (fun _ => (by first | omega | decide))))))))
theorem fb_X13_rowFrom_6 {K : Nat} {z0 z : ow_MS}  {go : Nat → Int32 → Int32 → Int32 → Int32 → Int32 → Int32 → Nat → Int32 → Int32 → Int32 → ow_MS → Option ow_MS} {x2 : Int32} {x3 : Int32} {x4 : Int32} {x5 : Int32} {x6 : Int32} {x7 : Int32} {r1 : Nat} {t0 : Int32} {t1 : Int32} {t2 : Int32}  (hgo : ∀ (L : Nat) (x2 : Int32) (x3 : Int32) (x4 : Int32) (x5 : Int32) (x6 : Int32) (x7 : Int32) (r1 : Nat) (t0 : Int32) (t1 : Int32) (t2 : Int32) (z : ow_MS), fr (pf [2, 3, 4, 5, 6] []) z0 z → (L = 0 ∨ L = 1 ∨ L = 2 ∨ L = 3 ∨ L = 4 ∨ L = 5 ∨ L = 6 ∨ L = 7 ∨ L = 8 → 1000 ≤ r1) → Fo id (pf [2, 3, 4, 5, 6] []) z0 (go L x2 x3 x4 x5 x6 x7 r1 t0 t1 t2 z)) (hz : fr (pf [2, 3, 4, 5, 6] []) z0 z) (hr1 : 1000 ≤ r1) : Fo id (pf [2, 3, 4, 5, 6] []) z0 (qm_X13_rowFrom_6 K go x2 x3 x4 x5 x6 x7 r1 t0 t1 t2 z) := by
  unfold qm_X13_rowFrom_6
  exact (fo_if (hgo 8 _ _ _ _ _ _ _ _ _ _ z hz (fun _ => (by first | omega | decide))) (fo_if (fo_rdI (fun v24 => (fo_rdI (fun v25 => (fo_rdI (fun v26 => (fo_rdI (fun v27 => (fo_if (hgo 7 _ _ _ _ _ _ _ _ _ _ z hz (fun _ => (by first | omega | decide))) (hgo 7 _ _ _ _ _ _ _ _ _ _ z hz (fun _ => (by first | omega | decide)))))))))))) (hgo 8 _ _ _ _ _ _ _ _ _ _ z hz (fun _ => (by first | omega | decide)))))
theorem fb_X13_rowFrom_7 {K : Nat} {z0 z : ow_MS}  {go : Nat → Int32 → Int32 → Int32 → Int32 → Int32 → Int32 → Nat → Int32 → Int32 → Int32 → ow_MS → Option ow_MS} {x2 : Int32} {x3 : Int32} {x4 : Int32} {x5 : Int32} {x6 : Int32} {x7 : Int32} {r1 : Nat} {t0 : Int32} {t1 : Int32} {t2 : Int32}  (hgo : ∀ (L : Nat) (x2 : Int32) (x3 : Int32) (x4 : Int32) (x5 : Int32) (x6 : Int32) (x7 : Int32) (r1 : Nat) (t0 : Int32) (t1 : Int32) (t2 : Int32) (z : ow_MS), fr (pf [2, 3, 4, 5, 6] []) z0 z → (L = 0 ∨ L = 1 ∨ L = 2 ∨ L = 3 ∨ L = 4 ∨ L = 5 ∨ L = 6 ∨ L = 7 ∨ L = 8 → 1000 ≤ r1) → Fo id (pf [2, 3, 4, 5, 6] []) z0 (go L x2 x3 x4 x5 x6 x7 r1 t0 t1 t2 z)) (hz : fr (pf [2, 3, 4, 5, 6] []) z0 z) (hr1 : 1000 ≤ r1) : Fo id (pf [2, 3, 4, 5, 6] []) z0 (qm_X13_rowFrom_7 K go x2 x3 x4 x5 x6 x7 r1 t0 t1 t2 z) := by
  unfold qm_X13_rowFrom_7
  exact (hgo 6 _ _ _ _ _ _ _ _ _ _ z hz (fun _ => (by first | omega | decide)))
theorem fb_X13_rowFrom_8 {K : Nat} {z0 z : ow_MS}  {go : Nat → Int32 → Int32 → Int32 → Int32 → Int32 → Int32 → Nat → Int32 → Int32 → Int32 → ow_MS → Option ow_MS} {x2 : Int32} {x3 : Int32} {x4 : Int32} {x5 : Int32} {x6 : Int32} {x7 : Int32} {r1 : Nat} {t0 : Int32} {t1 : Int32} {t2 : Int32}  (hgo : ∀ (L : Nat) (x2 : Int32) (x3 : Int32) (x4 : Int32) (x5 : Int32) (x6 : Int32) (x7 : Int32) (r1 : Nat) (t0 : Int32) (t1 : Int32) (t2 : Int32) (z : ow_MS), fr (pf [2, 3, 4, 5, 6] []) z0 z → (L = 0 ∨ L = 1 ∨ L = 2 ∨ L = 3 ∨ L = 4 ∨ L = 5 ∨ L = 6 ∨ L = 7 ∨ L = 8 → 1000 ≤ r1) → Fo id (pf [2, 3, 4, 5, 6] []) z0 (go L x2 x3 x4 x5 x6 x7 r1 t0 t1 t2 z)) (hz : fr (pf [2, 3, 4, 5, 6] []) z0 z) (hr1 : 1000 ≤ r1) : Fo id (pf [2, 3, 4, 5, 6] []) z0 (qm_X13_rowFrom_8 K go x2 x3 x4 x5 x6 x7 r1 t0 t1 t2 z) := by
  unfold qm_X13_rowFrom_8
  exact (hgo 2 _ _ _ _ _ _ _ _ _ _ z hz (fun _ => (by first | omega | decide)))
theorem fq_X13_rowFrom {K : Nat} {z0 : ow_MS}   : ∀ (k L : Nat) (x2 : Int32) (x3 : Int32) (x4 : Int32) (x5 : Int32) (x6 : Int32) (x7 : Int32) (r1 : Nat) (t0 : Int32) (t1 : Int32) (t2 : Int32) (z : ow_MS), fr (pf [2, 3, 4, 5, 6] []) z0 z → (L = 0 ∨ L = 1 ∨ L = 2 ∨ L = 3 ∨ L = 4 ∨ L = 5 ∨ L = 6 ∨ L = 7 ∨ L = 8 → 1000 ≤ r1) → Fo id (pf [2, 3, 4, 5, 6] []) z0 (q_X13_rowFrom K k L x2 x3 x4 x5 x6 x7 r1 t0 t1 t2 z)
  | 0 => by
    intros
    exact fo_none
  | k + 1 => by
    intro L x2 x3 x4 x5 x6 x7 r1 t0 t1 t2 z hz h9_r1
    show Fo id (pf [2, 3, 4, 5, 6] []) z0 (qb_X13_rowFrom K (q_X13_rowFrom K k) L x2 x3 x4 x5 x6 x7 r1 t0 t1 t2 z)
    unfold qb_X13_rowFrom
    split
    · exact fb_X13_rowFrom_0 (fq_X13_rowFrom k) hz (h9_r1 (by decide))
    · exact fb_X13_rowFrom_1 (fq_X13_rowFrom k) hz (h9_r1 (by decide))
    · exact fb_X13_rowFrom_2 (fq_X13_rowFrom k) hz (h9_r1 (by decide))
    · exact fb_X13_rowFrom_3 (fq_X13_rowFrom k) hz (h9_r1 (by decide))
    · exact fb_X13_rowFrom_4 (fq_X13_rowFrom k) hz (h9_r1 (by decide))
    · exact fb_X13_rowFrom_5 (fq_X13_rowFrom k) hz (h9_r1 (by decide))
    · exact fb_X13_rowFrom_6 (fq_X13_rowFrom k) hz (h9_r1 (by decide))
    · exact fb_X13_rowFrom_7 (fq_X13_rowFrom k) hz (h9_r1 (by decide))
    · exact fb_X13_rowFrom_8 (fq_X13_rowFrom k) hz (h9_r1 (by decide))
    · exact fo_none
theorem ff_X13_rowFrom {K : Nat} {r1 : Nat} {x2 : Int32} {z : ow_MS} (hr1 : 1000 ≤ r1) : Fo id (pf [2, 3, 4, 5, 6] []) z (qe_X13_rowFrom K r1 x2 z) := fq_X13_rowFrom K 0 _ _ _ _ _ _ _ _ _ _ z fr_rf (fun _ => (by first | omega | decide))
theorem fb_X13_isBelow_0 {K : Nat} {z0 z : ow_MS}  {go : Nat → Int32 → Int32 → Int32 → Int32 → Nat → Nat → ow_MS → Option (Int32 × ow_MS)} {x1 : Int32} {x3 : Int32} {x4 : Int32} {x5 : Int32} {r0 : Nat} {r2 : Nat}  (hgo : ∀ (L : Nat) (x1 : Int32) (x3 : Int32) (x4 : Int32) (x5 : Int32) (r0 : Nat) (r2 : Nat) (z : ow_MS), fr (pf [] []) z0 z → Fo Prod.snd (pf [] []) z0 (go L x1 x3 x4 x5 r0 r2 z)) (hz : fr (pf [] []) z0 z)  : Fo Prod.snd (pf [] []) z0 (qm_X13_isBelow_0 K go x1 x3 x4 x5 r0 r2 z) := by
  unfold qm_X13_isBelow_0
  exact (fo_rdI (fun v1 => (fo_rdI (fun v2 => (hgo 1 _ _ _ _ _ _ z hz)))))
theorem fb_X13_isBelow_1 {K : Nat} {z0 z : ow_MS}  {go : Nat → Int32 → Int32 → Int32 → Int32 → Nat → Nat → ow_MS → Option (Int32 × ow_MS)} {x1 : Int32} {x3 : Int32} {x4 : Int32} {x5 : Int32} {r0 : Nat} {r2 : Nat}  (hgo : ∀ (L : Nat) (x1 : Int32) (x3 : Int32) (x4 : Int32) (x5 : Int32) (r0 : Nat) (r2 : Nat) (z : ow_MS), fr (pf [] []) z0 z → Fo Prod.snd (pf [] []) z0 (go L x1 x3 x4 x5 r0 r2 z)) (hz : fr (pf [] []) z0 z)  : Fo Prod.snd (pf [] []) z0 (qm_X13_isBelow_1 K go x1 x3 x4 x5 r0 r2 z) := by
  unfold qm_X13_isBelow_1
  exact (fo_if (fo_rdI (fun v3 => (fo_rdI (fun v4 => (fo_if (fo_okZ (fo_some hz)) (fo_okZ (fo_some hz))))))) (fo_rdI (fun v5 => (fo_rdI (fun v6 => (fo_if (hgo 1 _ _ _ _ _ _ z hz) (fo_rdI (fun v7 => (fo_rdI (fun v8 => (fo_if (fo_okZ (fo_some hz)) (fo_okZ (fo_some hz)))))))))))))
theorem fq_X13_isBelow {K : Nat} {z0 : ow_MS}   : ∀ (k L : Nat) (x1 : Int32) (x3 : Int32) (x4 : Int32) (x5 : Int32) (r0 : Nat) (r2 : Nat) (z : ow_MS), fr (pf [] []) z0 z → Fo Prod.snd (pf [] []) z0 (q_X13_isBelow K k L x1 x3 x4 x5 r0 r2 z)
  | 0 => by
    intros
    exact fo_none
  | k + 1 => by
    intro L x1 x3 x4 x5 r0 r2 z hz 
    show Fo Prod.snd (pf [] []) z0 (qb_X13_isBelow K (q_X13_isBelow K k) L x1 x3 x4 x5 r0 r2 z)
    unfold qb_X13_isBelow
    split
    · exact fb_X13_isBelow_0 (fq_X13_isBelow k) hz 
    · exact fb_X13_isBelow_1 (fq_X13_isBelow k) hz 
    · exact fo_none
theorem ff_X13_isBelow {K : Nat} {r0 : Nat} {x1 : Int32} {r2 : Nat} {x3 : Int32} {z : ow_MS}  : Fo Prod.snd (pf [] []) z (qe_X13_isBelow K r0 x1 r2 x3 z) := fq_X13_isBelow K 0 _ _ _ _ _ _ z fr_rf 
theorem fb_X13_leastOf_0 {K : Nat} {z0 z : ow_MS}  {go : Nat → Int32 → Int32 → Int32 → Int32 → Int32 → Nat → ow_MS → Option (Int32 × ow_MS)} {x2 : Int32} {x3 : Int32} {x4 : Int32} {x5 : Int32} {x6 : Int32} {r1 : Nat}  (hgo : ∀ (L : Nat) (x2 : Int32) (x3 : Int32) (x4 : Int32) (x5 : Int32) (x6 : Int32) (r1 : Nat) (z : ow_MS), fr (pf [2, 3, 4, 5, 6, 7] []) z0 z → (L = 0 ∨ L = 1 ∨ L = 2 ∨ L = 3 ∨ L = 4 → 1000 ≤ r1) → Fo Prod.snd (pf [2, 3, 4, 5, 6, 7] []) z0 (go L x2 x3 x4 x5 x6 r1 z)) (hz : fr (pf [2, 3, 4, 5, 6, 7] []) z0 z) (hr1 : 1000 ≤ r1) : Fo Prod.snd (pf [2, 3, 4, 5, 6, 7] []) z0 (qm_X13_leastOf_0 K go x2 x3 x4 x5 x6 r1 z) := by
  unfold qm_X13_leastOf_0
  exact (hgo 1 _ _ _ _ _ _ z hz (fun _ => (by first | omega | decide)))
theorem fb_X13_leastOf_1 {K : Nat} {z0 z : ow_MS}  {go : Nat → Int32 → Int32 → Int32 → Int32 → Int32 → Nat → ow_MS → Option (Int32 × ow_MS)} {x2 : Int32} {x3 : Int32} {x4 : Int32} {x5 : Int32} {x6 : Int32} {r1 : Nat}  (hgo : ∀ (L : Nat) (x2 : Int32) (x3 : Int32) (x4 : Int32) (x5 : Int32) (x6 : Int32) (r1 : Nat) (z : ow_MS), fr (pf [2, 3, 4, 5, 6, 7] []) z0 z → (L = 0 ∨ L = 1 ∨ L = 2 ∨ L = 3 ∨ L = 4 → 1000 ≤ r1) → Fo Prod.snd (pf [2, 3, 4, 5, 6, 7] []) z0 (go L x2 x3 x4 x5 x6 r1 z)) (hz : fr (pf [2, 3, 4, 5, 6, 7] []) z0 z) (hr1 : 1000 ≤ r1) : Fo Prod.snd (pf [2, 3, 4, 5, 6, 7] []) z0 (qm_X13_leastOf_1 K go x2 x3 x4 x5 x6 r1 z) := by
  unfold qm_X13_leastOf_1
  exact (fo_rdF (fun v1 => (fo_if (fo_some hz) (fo_rdI (fun v2 => (fo_rdI (fun v3 => (fo_if (fo_cs0 (ff_X13_rowFrom (by first | omega | decide)) (pf_sub (by decide) pf_0) hz (fun z4 h_z4 => (fo_if (hgo 2 _ _ _ _ _ _ z4 h_z4 (fun _ => (by first | omega | decide))) (fo_cs1 (ff_X13_isBelow) (pf_sub (by decide) pf_0) h_z4 (fun v6 z5 h_z5 => (fo_if (hgo 4 _ _ _ _ _ _ z5 h_z5 (fun _ => (by first | omega | decide))) (hgo 2 _ _ _ _ _ _ z5 h_z5 (fun _ => (by first | omega | decide))))))))) (hgo 4 _ _ _ _ _ _ z hz (fun _ => (by first | omega | decide)))))))))))
theorem fb_X13_leastOf_2 {K : Nat} {z0 z : ow_MS}  {go : Nat → Int32 → Int32 → Int32 → Int32 → Int32 → Nat → ow_MS → Option (Int32 × ow_MS)} {x2 : Int32} {x3 : Int32} {x4 : Int32} {x5 : Int32} {x6 : Int32} {r1 : Nat}  (hgo : ∀ (L : Nat) (x2 : Int32) (x3 : Int32) (x4 : Int32) (x5 : Int32) (x6 : Int32) (r1 : Nat) (z : ow_MS), fr (pf [2, 3, 4, 5, 6, 7] []) z0 z → (L = 0 ∨ L = 1 ∨ L = 2 ∨ L = 3 ∨ L = 4 → 1000 ≤ r1) → Fo Prod.snd (pf [2, 3, 4, 5, 6, 7] []) z0 (go L x2 x3 x4 x5 x6 r1 z)) (hz : fr (pf [2, 3, 4, 5, 6, 7] []) z0 z) (hr1 : 1000 ≤ r1) : Fo Prod.snd (pf [2, 3, 4, 5, 6, 7] []) z0 (qm_X13_leastOf_2 K go x2 x3 x4 x5 x6 r1 z) := by
  unfold qm_X13_leastOf_2
  exact (hgo 3 _ _ _ _ _ _ z hz (fun _ => (by first | omega | decide)))
theorem fb_X13_leastOf_3 {K : Nat} {z0 z : ow_MS}  {go : Nat → Int32 → Int32 → Int32 → Int32 → Int32 → Nat → ow_MS → Option (Int32 × ow_MS)} {x2 : Int32} {x3 : Int32} {x4 : Int32} {x5 : Int32} {x6 : Int32} {r1 : Nat}  (hgo : ∀ (L : Nat) (x2 : Int32) (x3 : Int32) (x4 : Int32) (x5 : Int32) (x6 : Int32) (r1 : Nat) (z : ow_MS), fr (pf [2, 3, 4, 5, 6, 7] []) z0 z → (L = 0 ∨ L = 1 ∨ L = 2 ∨ L = 3 ∨ L = 4 → 1000 ≤ r1) → Fo Prod.snd (pf [2, 3, 4, 5, 6, 7] []) z0 (go L x2 x3 x4 x5 x6 r1 z)) (hz : fr (pf [2, 3, 4, 5, 6, 7] []) z0 z) (hr1 : 1000 ≤ r1) : Fo Prod.snd (pf [2, 3, 4, 5, 6, 7] []) z0 (qm_X13_leastOf_3 K go x2 x3 x4 x5 x6 r1 z) := by
  unfold qm_X13_leastOf_3
  exact (fo_rdF (fun v7 => (fo_if (hgo 4 _ _ _ _ _ _ z hz (fun _ => (by first | omega | decide))) (fo_rdI (fun v8 => (fo_wrI (Or.inl (by decide)) hz (fun z9 h_z9 => (hgo 3 _ _ _ _ _ _ z9 h_z9 (fun _ => (by first | omega | decide))))))))))
theorem fb_X13_leastOf_4 {K : Nat} {z0 z : ow_MS}  {go : Nat → Int32 → Int32 → Int32 → Int32 → Int32 → Nat → ow_MS → Option (Int32 × ow_MS)} {x2 : Int32} {x3 : Int32} {x4 : Int32} {x5 : Int32} {x6 : Int32} {r1 : Nat}  (hgo : ∀ (L : Nat) (x2 : Int32) (x3 : Int32) (x4 : Int32) (x5 : Int32) (x6 : Int32) (r1 : Nat) (z : ow_MS), fr (pf [2, 3, 4, 5, 6, 7] []) z0 z → (L = 0 ∨ L = 1 ∨ L = 2 ∨ L = 3 ∨ L = 4 → 1000 ≤ r1) → Fo Prod.snd (pf [2, 3, 4, 5, 6, 7] []) z0 (go L x2 x3 x4 x5 x6 r1 z)) (hz : fr (pf [2, 3, 4, 5, 6, 7] []) z0 z) (hr1 : 1000 ≤ r1) : Fo Prod.snd (pf [2, 3, 4, 5, 6, 7] []) z0 (qm_X13_leastOf_4 K go x2 x3 x4 x5 x6 r1 z) := by
  unfold qm_X13_leastOf_4
  exact (hgo 1 _ _ _ _ _ _ z hz (fun _ => (by first | omega | decide)))
theorem fq_X13_leastOf {K : Nat} {z0 : ow_MS}   : ∀ (k L : Nat) (x2 : Int32) (x3 : Int32) (x4 : Int32) (x5 : Int32) (x6 : Int32) (r1 : Nat) (z : ow_MS), fr (pf [2, 3, 4, 5, 6, 7] []) z0 z → (L = 0 ∨ L = 1 ∨ L = 2 ∨ L = 3 ∨ L = 4 → 1000 ≤ r1) → Fo Prod.snd (pf [2, 3, 4, 5, 6, 7] []) z0 (q_X13_leastOf K k L x2 x3 x4 x5 x6 r1 z)
  | 0 => by
    intros
    exact fo_none
  | k + 1 => by
    intro L x2 x3 x4 x5 x6 r1 z hz h9_r1
    show Fo Prod.snd (pf [2, 3, 4, 5, 6, 7] []) z0 (qb_X13_leastOf K (q_X13_leastOf K k) L x2 x3 x4 x5 x6 r1 z)
    unfold qb_X13_leastOf
    split
    · exact fb_X13_leastOf_0 (fq_X13_leastOf k) hz (h9_r1 (by decide))
    · exact fb_X13_leastOf_1 (fq_X13_leastOf k) hz (h9_r1 (by decide))
    · exact fb_X13_leastOf_2 (fq_X13_leastOf k) hz (h9_r1 (by decide))
    · exact fb_X13_leastOf_3 (fq_X13_leastOf k) hz (h9_r1 (by decide))
    · exact fb_X13_leastOf_4 (fq_X13_leastOf k) hz (h9_r1 (by decide))
    · exact fo_none
theorem ff_X13_leastOf {K : Nat} {r1 : Nat} {x2 : Int32} {x3 : Int32} {z : ow_MS} (hr1 : 1000 ≤ r1) : Fo Prod.snd (pf [2, 3, 4, 5, 6, 7] []) z (qe_X13_leastOf K r1 x2 x3 z) := fq_X13_leastOf K 0 _ _ _ _ _ _ z fr_rf (fun _ => (by first | omega | decide))
theorem fb_X13_pack_0 {K : Nat} {z0 z : ow_MS} {pr2 : Nat} {go : Nat → Int32 → Int32 → Int32 → Int32 → Int32 → Int32 → Int32 → Int32 → Int32 → Nat → Nat → Int32 → Int32 → ow_MS → Option ow_MS} {x3 : Int32} {x4 : Int32} {x5 : Int32} {x6 : Int32} {x7 : Int32} {x8 : Int32} {x9 : Int32} {x10 : Int32} {x11 : Int32} {r1 : Nat} {r2 : Nat} {t0 : Int32} {t1 : Int32}  (hgo : ∀ (L : Nat) (x3 : Int32) (x4 : Int32) (x5 : Int32) (x6 : Int32) (x7 : Int32) (x8 : Int32) (x9 : Int32) (x10 : Int32) (x11 : Int32) (r1 : Nat) (r2 : Nat) (t0 : Int32) (t1 : Int32) (z : ow_MS), fr (pf [2, 3, 4, 5, 6, 7, 8, 9] [pr2]) z0 z → (L = 0 ∨ L = 1 ∨ L = 2 ∨ L = 3 ∨ L = 4 ∨ L = 5 ∨ L = 6 ∨ L = 7 ∨ L = 8 ∨ L = 9 → 1000 ≤ r1) → (L = 0 ∨ L = 1 ∨ L = 2 ∨ L = 3 ∨ L = 4 ∨ L = 5 ∨ L = 6 ∨ L = 7 ∨ L = 8 ∨ L = 9 → r2 = pr2) → Fo id (pf [2, 3, 4, 5, 6, 7, 8, 9] [pr2]) z0 (go L x3 x4 x5 x6 x7 x8 x9 x10 x11 r1 r2 t0 t1 z)) (hz : fr (pf [2, 3, 4, 5, 6, 7, 8, 9] [pr2]) z0 z) (hr1 : 1000 ≤ r1) (e_r2 : r2 = pr2) : Fo id (pf [2, 3, 4, 5, 6, 7, 8, 9] [pr2]) z0 (qm_X13_pack_0 K go x3 x4 x5 x6 x7 x8 x9 x10 x11 r1 r2 t0 t1 z) := by
  unfold qm_X13_pack_0
  exact (fo_cs0 (ff_X12_link (by first | omega | decide)) (pf_sub (by decide) pf_0) hz (fun z1 h_z1 => (fo_cs0 (ff_X12_split (by first | omega | decide)) (pf_sub (by decide) pf_0) h_z1 (fun z2 h_z2 => (hgo 1 _ _ _ _ _ _ _ _ _ _ _ _ _ z2 h_z2 (fun _ => (by first | omega | decide)) (fun _ => e_r2))))))
theorem fb_X13_pack_1 {K : Nat} {z0 z : ow_MS} {pr2 : Nat} {go : Nat → Int32 → Int32 → Int32 → Int32 → Int32 → Int32 → Int32 → Int32 → Int32 → Nat → Nat → Int32 → Int32 → ow_MS → Option ow_MS} {x3 : Int32} {x4 : Int32} {x5 : Int32} {x6 : Int32} {x7 : Int32} {x8 : Int32} {x9 : Int32} {x10 : Int32} {x11 : Int32} {r1 : Nat} {r2 : Nat} {t0 : Int32} {t1 : Int32}  (hgo : ∀ (L : Nat) (x3 : Int32) (x4 : Int32) (x5 : Int32) (x6 : Int32) (x7 : Int32) (x8 : Int32) (x9 : Int32) (x10 : Int32) (x11 : Int32) (r1 : Nat) (r2 : Nat) (t0 : Int32) (t1 : Int32) (z : ow_MS), fr (pf [2, 3, 4, 5, 6, 7, 8, 9] [pr2]) z0 z → (L = 0 ∨ L = 1 ∨ L = 2 ∨ L = 3 ∨ L = 4 ∨ L = 5 ∨ L = 6 ∨ L = 7 ∨ L = 8 ∨ L = 9 → 1000 ≤ r1) → (L = 0 ∨ L = 1 ∨ L = 2 ∨ L = 3 ∨ L = 4 ∨ L = 5 ∨ L = 6 ∨ L = 7 ∨ L = 8 ∨ L = 9 → r2 = pr2) → Fo id (pf [2, 3, 4, 5, 6, 7, 8, 9] [pr2]) z0 (go L x3 x4 x5 x6 x7 x8 x9 x10 x11 r1 r2 t0 t1 z)) (hz : fr (pf [2, 3, 4, 5, 6, 7, 8, 9] [pr2]) z0 z) (hr1 : 1000 ≤ r1) (e_r2 : r2 = pr2) : Fo id (pf [2, 3, 4, 5, 6, 7, 8, 9] [pr2]) z0 (qm_X13_pack_1 K go x3 x4 x5 x6 x7 x8 x9 x10 x11 r1 r2 t0 t1 z) := by
  unfold qm_X13_pack_1
  exact (fo_rdF (fun v3 => (fo_if (hgo 3 _ _ _ _ _ _ _ _ _ _ _ _ _ z hz (fun _ => (by first | omega | decide)) (fun _ => e_r2)) (fo_cs1 (ff_X13_leastOf (by first | omega | decide)) (pf_sub (by decide) pf_0) hz (fun v5 z4 h_z4 => (fo_if (hgo 2 _ _ _ _ _ _ _ _ _ _ _ _ _ z4 h_z4 (fun _ => (by first | omega | decide)) (fun _ => e_r2)) (fo_wrI (Or.inl (by decide)) h_z4 (fun z6 h_z6 => (fo_wrZ (Or.inl (by decide)) h_z6 (fun z7 h_z7 => (hgo 2 _ _ _ _ _ _ _ _ _ _ _ _ _ z7 h_z7 (fun _ => (by first | omega | decide)) (fun _ => e_r2))))))))))))
theorem fb_X13_pack_2 {K : Nat} {z0 z : ow_MS} {pr2 : Nat} {go : Nat → Int32 → Int32 → Int32 → Int32 → Int32 → Int32 → Int32 → Int32 → Int32 → Nat → Nat → Int32 → Int32 → ow_MS → Option ow_MS} {x3 : Int32} {x4 : Int32} {x5 : Int32} {x6 : Int32} {x7 : Int32} {x8 : Int32} {x9 : Int32} {x10 : Int32} {x11 : Int32} {r1 : Nat} {r2 : Nat} {t0 : Int32} {t1 : Int32}  (hgo : ∀ (L : Nat) (x3 : Int32) (x4 : Int32) (x5 : Int32) (x6 : Int32) (x7 : Int32) (x8 : Int32) (x9 : Int32) (x10 : Int32) (x11 : Int32) (r1 : Nat) (r2 : Nat) (t0 : Int32) (t1 : Int32) (z : ow_MS), fr (pf [2, 3, 4, 5, 6, 7, 8, 9] [pr2]) z0 z → (L = 0 ∨ L = 1 ∨ L = 2 ∨ L = 3 ∨ L = 4 ∨ L = 5 ∨ L = 6 ∨ L = 7 ∨ L = 8 ∨ L = 9 → 1000 ≤ r1) → (L = 0 ∨ L = 1 ∨ L = 2 ∨ L = 3 ∨ L = 4 ∨ L = 5 ∨ L = 6 ∨ L = 7 ∨ L = 8 ∨ L = 9 → r2 = pr2) → Fo id (pf [2, 3, 4, 5, 6, 7, 8, 9] [pr2]) z0 (go L x3 x4 x5 x6 x7 x8 x9 x10 x11 r1 r2 t0 t1 z)) (hz : fr (pf [2, 3, 4, 5, 6, 7, 8, 9] [pr2]) z0 z) (hr1 : 1000 ≤ r1) (e_r2 : r2 = pr2) : Fo id (pf [2, 3, 4, 5, 6, 7, 8, 9] [pr2]) z0 (qm_X13_pack_2 K go x3 x4 x5 x6 x7 x8 x9 x10 x11 r1 r2 t0 t1 z) := by
  unfold qm_X13_pack_2
  exact (hgo 1 _ _ _ _ _ _ _ _ _ _ _ _ _ z hz (fun _ => (by first | omega | decide)) (fun _ => e_r2))
theorem fb_X13_pack_3 {K : Nat} {z0 z : ow_MS} {pr2 : Nat} {go : Nat → Int32 → Int32 → Int32 → Int32 → Int32 → Int32 → Int32 → Int32 → Int32 → Nat → Nat → Int32 → Int32 → ow_MS → Option ow_MS} {x3 : Int32} {x4 : Int32} {x5 : Int32} {x6 : Int32} {x7 : Int32} {x8 : Int32} {x9 : Int32} {x10 : Int32} {x11 : Int32} {r1 : Nat} {r2 : Nat} {t0 : Int32} {t1 : Int32}  (hgo : ∀ (L : Nat) (x3 : Int32) (x4 : Int32) (x5 : Int32) (x6 : Int32) (x7 : Int32) (x8 : Int32) (x9 : Int32) (x10 : Int32) (x11 : Int32) (r1 : Nat) (r2 : Nat) (t0 : Int32) (t1 : Int32) (z : ow_MS), fr (pf [2, 3, 4, 5, 6, 7, 8, 9] [pr2]) z0 z → (L = 0 ∨ L = 1 ∨ L = 2 ∨ L = 3 ∨ L = 4 ∨ L = 5 ∨ L = 6 ∨ L = 7 ∨ L = 8 ∨ L = 9 → 1000 ≤ r1) → (L = 0 ∨ L = 1 ∨ L = 2 ∨ L = 3 ∨ L = 4 ∨ L = 5 ∨ L = 6 ∨ L = 7 ∨ L = 8 ∨ L = 9 → r2 = pr2) → Fo id (pf [2, 3, 4, 5, 6, 7, 8, 9] [pr2]) z0 (go L x3 x4 x5 x6 x7 x8 x9 x10 x11 r1 r2 t0 t1 z)) (hz : fr (pf [2, 3, 4, 5, 6, 7, 8, 9] [pr2]) z0 z) (hr1 : 1000 ≤ r1) (e_r2 : r2 = pr2) : Fo id (pf [2, 3, 4, 5, 6, 7, 8, 9] [pr2]) z0 (qm_X13_pack_3 K go x3 x4 x5 x6 x7 x8 x9 x10 x11 r1 r2 t0 t1 z) := by
  unfold qm_X13_pack_3
  exact (fo_if (hgo 9 _ _ _ _ _ _ _ _ _ _ _ _ _ z hz (fun _ => (by first | omega | decide)) (fun _ => e_r2)) (hgo 4 _ _ _ _ _ _ _ _ _ _ _ _ _ z hz (fun _ => (by first | omega | decide)) (fun _ => e_r2)))
theorem fb_X13_pack_4 {K : Nat} {z0 z : ow_MS} {pr2 : Nat} {go : Nat → Int32 → Int32 → Int32 → Int32 → Int32 → Int32 → Int32 → Int32 → Int32 → Nat → Nat → Int32 → Int32 → ow_MS → Option ow_MS} {x3 : Int32} {x4 : Int32} {x5 : Int32} {x6 : Int32} {x7 : Int32} {x8 : Int32} {x9 : Int32} {x10 : Int32} {x11 : Int32} {r1 : Nat} {r2 : Nat} {t0 : Int32} {t1 : Int32}  (hgo : ∀ (L : Nat) (x3 : Int32) (x4 : Int32) (x5 : Int32) (x6 : Int32) (x7 : Int32) (x8 : Int32) (x9 : Int32) (x10 : Int32) (x11 : Int32) (r1 : Nat) (r2 : Nat) (t0 : Int32) (t1 : Int32) (z : ow_MS), fr (pf [2, 3, 4, 5, 6, 7, 8, 9] [pr2]) z0 z → (L = 0 ∨ L = 1 ∨ L = 2 ∨ L = 3 ∨ L = 4 ∨ L = 5 ∨ L = 6 ∨ L = 7 ∨ L = 8 ∨ L = 9 → 1000 ≤ r1) → (L = 0 ∨ L = 1 ∨ L = 2 ∨ L = 3 ∨ L = 4 ∨ L = 5 ∨ L = 6 ∨ L = 7 ∨ L = 8 ∨ L = 9 → r2 = pr2) → Fo id (pf [2, 3, 4, 5, 6, 7, 8, 9] [pr2]) z0 (go L x3 x4 x5 x6 x7 x8 x9 x10 x11 r1 r2 t0 t1 z)) (hz : fr (pf [2, 3, 4, 5, 6, 7, 8, 9] [pr2]) z0 z) (hr1 : 1000 ≤ r1) (e_r2 : r2 = pr2) : Fo id (pf [2, 3, 4, 5, 6, 7, 8, 9] [pr2]) z0 (qm_X13_pack_4 K go x3 x4 x5 x6 x7 x8 x9 x10 x11 r1 r2 t0 t1 z) := by
  unfold qm_X13_pack_4
  exact (fo_if (fo_wrZ (Or.inl (by decide)) hz (fun z8 h_z8 => (hgo 7 _ _ _ _ _ _ _ _ _ _ _ _ _ z8 h_z8 (fun _ => (by first | omega | decide)) (fun _ => e_r2)))) (fo_rdI (fun v9 => (fo_if (fo_if (hgo 5 _ _ _ _ _ _ _ _ _ _ _ _ _ z hz (fun _ => (by first | omega | decide)) (fun _ => e_r2)) (fo_rdI (fun v10 => (fo_rdI (fun v11 => (fo_if (hgo 5 _ _ _ _ _ _ _ _ _ _ _ _ _ z hz (fun _ => (by first | omega | decide)) (fun _ => e_r2)) (fo_rdI (fun v12 => (fo_rdI (fun v13 => (fo_if (fo_cs1 (ff_X13_isBelow) (pf_sub (by decide) pf_0) hz (fun v15 z14 h_z14 => (fo_if (hgo 6 _ _ _ _ _ _ _ _ _ _ _ _ _ z14 h_z14 (fun _ => (by first | omega | decide)) (fun _ => e_r2)) (hgo 5 _ _ _ _ _ _ _ _ _ _ _ _ _ z14 h_z14 (fun _ => (by first | omega | decide)) (fun _ => e_r2))))) (hgo 6 _ _ _ _ _ _ _ _ _ _ _ _ _ z hz (fun _ => (by first | omega | decide)) (fun _ => e_r2))))))))))))) (hgo 6 _ _ _ _ _ _ _ _ _ _ _ _ _ z hz (fun _ => (by first | omega | decide)) (fun _ => e_r2))))))
theorem fb_X13_pack_5 {K : Nat} {z0 z : ow_MS} {pr2 : Nat} {go : Nat → Int32 → Int32 → Int32 → Int32 → Int32 → Int32 → Int32 → Int32 → Int32 → Nat → Nat → Int32 → Int32 → ow_MS → Option ow_MS} {x3 : Int32} {x4 : Int32} {x5 : Int32} {x6 : Int32} {x7 : Int32} {x8 : Int32} {x9 : Int32} {x10 : Int32} {x11 : Int32} {r1 : Nat} {r2 : Nat} {t0 : Int32} {t1 : Int32}  (hgo : ∀ (L : Nat) (x3 : Int32) (x4 : Int32) (x5 : Int32) (x6 : Int32) (x7 : Int32) (x8 : Int32) (x9 : Int32) (x10 : Int32) (x11 : Int32) (r1 : Nat) (r2 : Nat) (t0 : Int32) (t1 : Int32) (z : ow_MS), fr (pf [2, 3, 4, 5, 6, 7, 8, 9] [pr2]) z0 z → (L = 0 ∨ L = 1 ∨ L = 2 ∨ L = 3 ∨ L = 4 ∨ L = 5 ∨ L = 6 ∨ L = 7 ∨ L = 8 ∨ L = 9 → 1000 ≤ r1) → (L = 0 ∨ L = 1 ∨ L = 2 ∨ L = 3 ∨ L = 4 ∨ L = 5 ∨ L = 6 ∨ L = 7 ∨ L = 8 ∨ L = 9 → r2 = pr2) → Fo id (pf [2, 3, 4, 5, 6, 7, 8, 9] [pr2]) z0 (go L x3 x4 x5 x6 x7 x8 x9 x10 x11 r1 r2 t0 t1 z)) (hz : fr (pf [2, 3, 4, 5, 6, 7, 8, 9] [pr2]) z0 z) (hr1 : 1000 ≤ r1) (e_r2 : r2 = pr2) : Fo id (pf [2, 3, 4, 5, 6, 7, 8, 9] [pr2]) z0 (qm_X13_pack_5 K go x3 x4 x5 x6 x7 x8 x9 x10 x11 r1 r2 t0 t1 z) := by
  unfold qm_X13_pack_5
  exact (hgo 6 _ _ _ _ _ _ _ _ _ _ _ _ _ z hz (fun _ => (by first | omega | decide)) (fun _ => e_r2))
theorem fb_X13_pack_6 {K : Nat} {z0 z : ow_MS} {pr2 : Nat} {go : Nat → Int32 → Int32 → Int32 → Int32 → Int32 → Int32 → Int32 → Int32 → Int32 → Nat → Nat → Int32 → Int32 → ow_MS → Option ow_MS} {x3 : Int32} {x4 : Int32} {x5 : Int32} {x6 : Int32} {x7 : Int32} {x8 : Int32} {x9 : Int32} {x10 : Int32} {x11 : Int32} {r1 : Nat} {r2 : Nat} {t0 : Int32} {t1 : Int32}  (hgo : ∀ (L : Nat) (x3 : Int32) (x4 : Int32) (x5 : Int32) (x6 : Int32) (x7 : Int32) (x8 : Int32) (x9 : Int32) (x10 : Int32) (x11 : Int32) (r1 : Nat) (r2 : Nat) (t0 : Int32) (t1 : Int32) (z : ow_MS), fr (pf [2, 3, 4, 5, 6, 7, 8, 9] [pr2]) z0 z → (L = 0 ∨ L = 1 ∨ L = 2 ∨ L = 3 ∨ L = 4 ∨ L = 5 ∨ L = 6 ∨ L = 7 ∨ L = 8 ∨ L = 9 → 1000 ≤ r1) → (L = 0 ∨ L = 1 ∨ L = 2 ∨ L = 3 ∨ L = 4 ∨ L = 5 ∨ L = 6 ∨ L = 7 ∨ L = 8 ∨ L = 9 → r2 = pr2) → Fo id (pf [2, 3, 4, 5, 6, 7, 8, 9] [pr2]) z0 (go L x3 x4 x5 x6 x7 x8 x9 x10 x11 r1 r2 t0 t1 z)) (hz : fr (pf [2, 3, 4, 5, 6, 7, 8, 9] [pr2]) z0 z) (hr1 : 1000 ≤ r1) (e_r2 : r2 = pr2) : Fo id (pf [2, 3, 4, 5, 6, 7, 8, 9] [pr2]) z0 (qm_X13_pack_6 K go x3 x4 x5 x6 x7 x8 x9 x10 x11 r1 r2 t0 t1 z) := by
  unfold qm_X13_pack_6
  exact (hgo 4 _ _ _ _ _ _ _ _ _ _ _ _ _ z hz (fun _ => (by first | omega | decide)) (fun _ => e_r2))
theorem fb_X13_pack_7 {K : Nat} {z0 z : ow_MS} {pr2 : Nat} {go : Nat → Int32 → Int32 → Int32 → Int32 → Int32 → Int32 → Int32 → Int32 → Int32 → Nat → Nat → Int32 → Int32 → ow_MS → Option ow_MS} {x3 : Int32} {x4 : Int32} {x5 : Int32} {x6 : Int32} {x7 : Int32} {x8 : Int32} {x9 : Int32} {x10 : Int32} {x11 : Int32} {r1 : Nat} {r2 : Nat} {t0 : Int32} {t1 : Int32}  (hgo : ∀ (L : Nat) (x3 : Int32) (x4 : Int32) (x5 : Int32) (x6 : Int32) (x7 : Int32) (x8 : Int32) (x9 : Int32) (x10 : Int32) (x11 : Int32) (r1 : Nat) (r2 : Nat) (t0 : Int32) (t1 : Int32) (z : ow_MS), fr (pf [2, 3, 4, 5, 6, 7, 8, 9] [pr2]) z0 z → (L = 0 ∨ L = 1 ∨ L = 2 ∨ L = 3 ∨ L = 4 ∨ L = 5 ∨ L = 6 ∨ L = 7 ∨ L = 8 ∨ L = 9 → 1000 ≤ r1) → (L = 0 ∨ L = 1 ∨ L = 2 ∨ L = 3 ∨ L = 4 ∨ L = 5 ∨ L = 6 ∨ L = 7 ∨ L = 8 ∨ L = 9 → r2 = pr2) → Fo id (pf [2, 3, 4, 5, 6, 7, 8, 9] [pr2]) z0 (go L x3 x4 x5 x6 x7 x8 x9 x10 x11 r1 r2 t0 t1 z)) (hz : fr (pf [2, 3, 4, 5, 6, 7, 8, 9] [pr2]) z0 z) (hr1 : 1000 ≤ r1) (e_r2 : r2 = pr2) : Fo id (pf [2, 3, 4, 5, 6, 7, 8, 9] [pr2]) z0 (qm_X13_pack_7 K go x3 x4 x5 x6 x7 x8 x9 x10 x11 r1 r2 t0 t1 z) := by
  unfold qm_X13_pack_7
  exact (fo_rdI (fun v16 => (fo_if (fo_rdI (fun v17 => (fo_nzI (hgo 3 _ _ _ _ _ _ _ _ _ _ _ _ _ z hz (fun _ => (by first | omega | decide)) (fun _ => e_r2))))) (fo_rdI (fun v18 => (fo_if (hgo 8 _ _ _ _ _ _ _ _ _ _ _ _ _ z hz (fun _ => (by first | omega | decide)) (fun _ => e_r2)) (hgo 8 _ _ _ _ _ _ _ _ _ _ _ _ _ z hz (fun _ => (by first | omega | decide)) (fun _ => e_r2))))))))
theorem fb_X13_pack_8 {K : Nat} {z0 z : ow_MS} {pr2 : Nat} {go : Nat → Int32 → Int32 → Int32 → Int32 → Int32 → Int32 → Int32 → Int32 → Int32 → Nat → Nat → Int32 → Int32 → ow_MS → Option ow_MS} {x3 : Int32} {x4 : Int32} {x5 : Int32} {x6 : Int32} {x7 : Int32} {x8 : Int32} {x9 : Int32} {x10 : Int32} {x11 : Int32} {r1 : Nat} {r2 : Nat} {t0 : Int32} {t1 : Int32}  (hgo : ∀ (L : Nat) (x3 : Int32) (x4 : Int32) (x5 : Int32) (x6 : Int32) (x7 : Int32) (x8 : Int32) (x9 : Int32) (x10 : Int32) (x11 : Int32) (r1 : Nat) (r2 : Nat) (t0 : Int32) (t1 : Int32) (z : ow_MS), fr (pf [2, 3, 4, 5, 6, 7, 8, 9] [pr2]) z0 z → (L = 0 ∨ L = 1 ∨ L = 2 ∨ L = 3 ∨ L = 4 ∨ L = 5 ∨ L = 6 ∨ L = 7 ∨ L = 8 ∨ L = 9 → 1000 ≤ r1) → (L = 0 ∨ L = 1 ∨ L = 2 ∨ L = 3 ∨ L = 4 ∨ L = 5 ∨ L = 6 ∨ L = 7 ∨ L = 8 ∨ L = 9 → r2 = pr2) → Fo id (pf [2, 3, 4, 5, 6, 7, 8, 9] [pr2]) z0 (go L x3 x4 x5 x6 x7 x8 x9 x10 x11 r1 r2 t0 t1 z)) (hz : fr (pf [2, 3, 4, 5, 6, 7, 8, 9] [pr2]) z0 z) (hr1 : 1000 ≤ r1) (e_r2 : r2 = pr2) : Fo id (pf [2, 3, 4, 5, 6, 7, 8, 9] [pr2]) z0 (qm_X13_pack_8 K go x3 x4 x5 x6 x7 x8 x9 x10 x11 r1 r2 t0 t1 z) := by
  unfold qm_X13_pack_8
  exact (fo_wrI (Or.inr (Or.inl (by rw [e_r2]; simp))) hz (fun z19 h_z19 => (hgo 7 _ _ _ _ _ _ _ _ _ _ _ _ _ z19 h_z19 (fun _ => (by first | omega | decide)) (fun _ => e_r2))))
theorem fb_X13_pack_9 {K : Nat} {z0 z : ow_MS} {pr2 : Nat} {go : Nat → Int32 → Int32 → Int32 → Int32 → Int32 → Int32 → Int32 → Int32 → Int32 → Nat → Nat → Int32 → Int32 → ow_MS → Option ow_MS} {x3 : Int32} {x4 : Int32} {x5 : Int32} {x6 : Int32} {x7 : Int32} {x8 : Int32} {x9 : Int32} {x10 : Int32} {x11 : Int32} {r1 : Nat} {r2 : Nat} {t0 : Int32} {t1 : Int32}  (hgo : ∀ (L : Nat) (x3 : Int32) (x4 : Int32) (x5 : Int32) (x6 : Int32) (x7 : Int32) (x8 : Int32) (x9 : Int32) (x10 : Int32) (x11 : Int32) (r1 : Nat) (r2 : Nat) (t0 : Int32) (t1 : Int32) (z : ow_MS), fr (pf [2, 3, 4, 5, 6, 7, 8, 9] [pr2]) z0 z → (L = 0 ∨ L = 1 ∨ L = 2 ∨ L = 3 ∨ L = 4 ∨ L = 5 ∨ L = 6 ∨ L = 7 ∨ L = 8 ∨ L = 9 → 1000 ≤ r1) → (L = 0 ∨ L = 1 ∨ L = 2 ∨ L = 3 ∨ L = 4 ∨ L = 5 ∨ L = 6 ∨ L = 7 ∨ L = 8 ∨ L = 9 → r2 = pr2) → Fo id (pf [2, 3, 4, 5, 6, 7, 8, 9] [pr2]) z0 (go L x3 x4 x5 x6 x7 x8 x9 x10 x11 r1 r2 t0 t1 z)) (hz : fr (pf [2, 3, 4, 5, 6, 7, 8, 9] [pr2]) z0 z) (hr1 : 1000 ≤ r1) (e_r2 : r2 = pr2) : Fo id (pf [2, 3, 4, 5, 6, 7, 8, 9] [pr2]) z0 (qm_X13_pack_9 K go x3 x4 x5 x6 x7 x8 x9 x10 x11 r1 r2 t0 t1 z) := by
  unfold qm_X13_pack_9
  exact (fo_if (fo_wrI (Or.inr (Or.inl (by rw [e_r2]; simp))) hz (fun z20 h_z20 => (fo_some h_z20))) (fo_wrI (Or.inr (Or.inl (by rw [e_r2]; simp))) hz (fun z21 h_z21 => (hgo 9 _ _ _ _ _ _ _ _ _ _ _ _ _ z21 h_z21 (fun _ => (by first | omega | decide)) (fun _ => e_r2)))))
theorem fq_X13_pack {K : Nat} {z0 : ow_MS} {pr2 : Nat}  : ∀ (k L : Nat) (x3 : Int32) (x4 : Int32) (x5 : Int32) (x6 : Int32) (x7 : Int32) (x8 : Int32) (x9 : Int32) (x10 : Int32) (x11 : Int32) (r1 : Nat) (r2 : Nat) (t0 : Int32) (t1 : Int32) (z : ow_MS), fr (pf [2, 3, 4, 5, 6, 7, 8, 9] [pr2]) z0 z → (L = 0 ∨ L = 1 ∨ L = 2 ∨ L = 3 ∨ L = 4 ∨ L = 5 ∨ L = 6 ∨ L = 7 ∨ L = 8 ∨ L = 9 → 1000 ≤ r1) → (L = 0 ∨ L = 1 ∨ L = 2 ∨ L = 3 ∨ L = 4 ∨ L = 5 ∨ L = 6 ∨ L = 7 ∨ L = 8 ∨ L = 9 → r2 = pr2) → Fo id (pf [2, 3, 4, 5, 6, 7, 8, 9] [pr2]) z0 (q_X13_pack K k L x3 x4 x5 x6 x7 x8 x9 x10 x11 r1 r2 t0 t1 z)
  | 0 => by
    intros
    exact fo_none
  | k + 1 => by
    intro L x3 x4 x5 x6 x7 x8 x9 x10 x11 r1 r2 t0 t1 z hz h9_r1 h9_r2
    show Fo id (pf [2, 3, 4, 5, 6, 7, 8, 9] [pr2]) z0 (qb_X13_pack K (q_X13_pack K k) L x3 x4 x5 x6 x7 x8 x9 x10 x11 r1 r2 t0 t1 z)
    unfold qb_X13_pack
    split
    · exact fb_X13_pack_0 (fq_X13_pack k) hz (h9_r1 (by decide)) (h9_r2 (by decide))
    · exact fb_X13_pack_1 (fq_X13_pack k) hz (h9_r1 (by decide)) (h9_r2 (by decide))
    · exact fb_X13_pack_2 (fq_X13_pack k) hz (h9_r1 (by decide)) (h9_r2 (by decide))
    · exact fb_X13_pack_3 (fq_X13_pack k) hz (h9_r1 (by decide)) (h9_r2 (by decide))
    · exact fb_X13_pack_4 (fq_X13_pack k) hz (h9_r1 (by decide)) (h9_r2 (by decide))
    · exact fb_X13_pack_5 (fq_X13_pack k) hz (h9_r1 (by decide)) (h9_r2 (by decide))
    · exact fb_X13_pack_6 (fq_X13_pack k) hz (h9_r1 (by decide)) (h9_r2 (by decide))
    · exact fb_X13_pack_7 (fq_X13_pack k) hz (h9_r1 (by decide)) (h9_r2 (by decide))
    · exact fb_X13_pack_8 (fq_X13_pack k) hz (h9_r1 (by decide)) (h9_r2 (by decide))
    · exact fb_X13_pack_9 (fq_X13_pack k) hz (h9_r1 (by decide)) (h9_r2 (by decide))
    · exact fo_none
theorem ff_X13_pack {K : Nat} {r1 : Nat} {r2 : Nat} {x3 : Int32} {z : ow_MS} (hr1 : 1000 ≤ r1) : Fo id (pf [2, 3, 4, 5, 6, 7, 8, 9] [r2]) z (qe_X13_pack K r1 r2 x3 z) := fq_X13_pack (pr2 := r2) K 0 _ _ _ _ _ _ _ _ _ _ _ _ _ z fr_rf (fun _ => (by first | omega | decide)) (fun _ => rfl)
theorem ff_X13_keep {K : Nat} {z : ow_MS}  : Fo Prod.snd (pf [2, 3, 4, 5, 6, 7, 8, 9, 12] []) z (qe_X13_keep K z) := by
  unfold qe_X13_keep qm_X13_keep_0
  exact (fo_cs1 (ff_X13_free) (pf_sub (by decide) pf_0) fr_rf (fun v2 z1 h_z1 => (fo_cs0 (ff_X13_pack (by first | omega | decide)) (pf_sub (by decide) (pf_1 (Or.inl (by decide)))) h_z1 (fun z3 h_z3 => (fo_some h_z3)))))
theorem ff_X13_diagram {K : Nat} {z : ow_MS}  : Fo Prod.snd (pf [1, 2, 3, 4, 5, 6, 7, 8, 9, 11, 12, 16, 17, 18, 19] []) z (qe_X13_diagram K z) := by
  unfold qe_X13_diagram qm_X13_diagram_0
  exact (fo_wrF (Or.inl (by decide)) fr_rf (fun z1 h_z1 => (fo_cs1 (ff_X13_free) (pf_sub (by decide) pf_0) h_z1 (fun v3 z2 h_z2 => (fo_if (fo_cs1 (ff_X13_fails) (pf_sub (by decide) pf_0) h_z2 (fun v10 z9 h_z9 => (fo_some h_z9))) (fo_cs1 (ff_X13_read) (pf_sub (by decide) pf_0) h_z2 (fun v5 z4 h_z4 => (fo_wrF (Or.inl (by decide)) h_z4 (fun z6 h_z6 => (fo_if (fo_cs1 (ff_X13_keep) (pf_sub (by decide) pf_0) h_z6 (fun v8 z7 h_z7 => (fo_some h_z7))) (fo_some h_z6)))))))))))
theorem fb_X13_freeBraid_0 {K : Nat} {z0 z : ow_MS}  {go : Nat → Int32 → ow_MS → Option (Int32 × ow_MS)} {x1 : Int32}  (hgo : ∀ (L : Nat) (x1 : Int32) (z : ow_MS), fr (pf [] []) z0 z → Fo Prod.snd (pf [] []) z0 (go L x1 z)) (hz : fr (pf [] []) z0 z)  : Fo Prod.snd (pf [] []) z0 (qm_X13_freeBraid_0 K go x1 z) := by
  unfold qm_X13_freeBraid_0
  exact (hgo 1 _ z hz)
theorem fb_X13_freeBraid_1 {K : Nat} {z0 z : ow_MS}  {go : Nat → Int32 → ow_MS → Option (Int32 × ow_MS)} {x1 : Int32}  (hgo : ∀ (L : Nat) (x1 : Int32) (z : ow_MS), fr (pf [] []) z0 z → Fo Prod.snd (pf [] []) z0 (go L x1 z)) (hz : fr (pf [] []) z0 z)  : Fo Prod.snd (pf [] []) z0 (qm_X13_freeBraid_1 K go x1 z) := by
  unfold qm_X13_freeBraid_1
  exact (fo_if (hgo 2 _ z hz) (fo_rdI (fun v1 => (fo_if (hgo 2 _ z hz) (hgo 1 _ z hz)))))
theorem fb_X13_freeBraid_2 {K : Nat} {z0 z : ow_MS}  {go : Nat → Int32 → ow_MS → Option (Int32 × ow_MS)} {x1 : Int32}  (hgo : ∀ (L : Nat) (x1 : Int32) (z : ow_MS), fr (pf [] []) z0 z → Fo Prod.snd (pf [] []) z0 (go L x1 z)) (hz : fr (pf [] []) z0 z)  : Fo Prod.snd (pf [] []) z0 (qm_X13_freeBraid_2 K go x1 z) := by
  unfold qm_X13_freeBraid_2
  exact (fo_if (fo_some hz) (fo_some hz))
theorem fq_X13_freeBraid {K : Nat} {z0 : ow_MS}   : ∀ (k L : Nat) (x1 : Int32) (z : ow_MS), fr (pf [] []) z0 z → Fo Prod.snd (pf [] []) z0 (q_X13_freeBraid K k L x1 z)
  | 0 => by
    intros
    exact fo_none
  | k + 1 => by
    intro L x1 z hz 
    show Fo Prod.snd (pf [] []) z0 (qb_X13_freeBraid K (q_X13_freeBraid K k) L x1 z)
    unfold qb_X13_freeBraid
    split
    · exact fb_X13_freeBraid_0 (fq_X13_freeBraid k) hz 
    · exact fb_X13_freeBraid_1 (fq_X13_freeBraid k) hz 
    · exact fb_X13_freeBraid_2 (fq_X13_freeBraid k) hz 
    · exact fo_none
theorem ff_X13_freeBraid {K : Nat} {z : ow_MS}  : Fo Prod.snd (pf [] []) z (qe_X13_freeBraid K z) := fq_X13_freeBraid K 0 _ z fr_rf 
theorem fb_X13_braid_0 {K : Nat} {z0 z : ow_MS}  {go : Nat → Int32 → Int32 → Int32 → Int32 → Int32 → Int32 → Int32 → Int32 → Int32 → ow_MS → Option (Int32 × ow_MS)} {x1 : Int32} {x2 : Int32} {x3 : Int32} {x4 : Int32} {x5 : Int32} {x6 : Int32} {x7 : Int32} {t0 : Int32} {t1 : Int32}  (hgo : ∀ (L : Nat) (x1 : Int32) (x2 : Int32) (x3 : Int32) (x4 : Int32) (x5 : Int32) (x6 : Int32) (x7 : Int32) (t0 : Int32) (t1 : Int32) (z : ow_MS), fr (pf [1, 11, 94, 95, 96] []) z0 z → Fo Prod.snd (pf [1, 11, 94, 95, 96] []) z0 (go L x1 x2 x3 x4 x5 x6 x7 t0 t1 z)) (hz : fr (pf [1, 11, 94, 95, 96] []) z0 z)  : Fo Prod.snd (pf [1, 11, 94, 95, 96] []) z0 (qm_X13_braid_0 K go x1 x2 x3 x4 x5 x6 x7 t0 t1 z) := by
  unfold qm_X13_braid_0
  exact (fo_wrF (Or.inl (by decide)) hz (fun z1 h_z1 => (fo_if (hgo 1 _ _ _ _ _ _ _ _ _ z1 h_z1) (fo_if (fo_cs1 (ff_X13_freeBraid) (pf_sub (by decide) pf_0) h_z1 (fun v3 z2 h_z2 => (fo_if (fo_cs1 (ff_X13_fails) (pf_sub (by decide) pf_0) h_z2 (fun v5 z4 h_z4 => (fo_some h_z4))) (hgo 2 _ _ _ _ _ _ _ _ _ z2 h_z2)))) (hgo 1 _ _ _ _ _ _ _ _ _ z1 h_z1)))))
theorem fb_X13_braid_1 {K : Nat} {z0 z : ow_MS}  {go : Nat → Int32 → Int32 → Int32 → Int32 → Int32 → Int32 → Int32 → Int32 → Int32 → ow_MS → Option (Int32 × ow_MS)} {x1 : Int32} {x2 : Int32} {x3 : Int32} {x4 : Int32} {x5 : Int32} {x6 : Int32} {x7 : Int32} {t0 : Int32} {t1 : Int32}  (hgo : ∀ (L : Nat) (x1 : Int32) (x2 : Int32) (x3 : Int32) (x4 : Int32) (x5 : Int32) (x6 : Int32) (x7 : Int32) (t0 : Int32) (t1 : Int32) (z : ow_MS), fr (pf [1, 11, 94, 95, 96] []) z0 z → Fo Prod.snd (pf [1, 11, 94, 95, 96] []) z0 (go L x1 x2 x3 x4 x5 x6 x7 t0 t1 z)) (hz : fr (pf [1, 11, 94, 95, 96] []) z0 z)  : Fo Prod.snd (pf [1, 11, 94, 95, 96] []) z0 (qm_X13_braid_1 K go x1 x2 x3 x4 x5 x6 x7 t0 t1 z) := by
  unfold qm_X13_braid_1
  exact (fo_cs1 (ff_X13_fails) (pf_sub (by decide) pf_0) hz (fun v7 z6 h_z6 => (fo_some h_z6)))
theorem fb_X13_braid_2 {K : Nat} {z0 z : ow_MS}  {go : Nat → Int32 → Int32 → Int32 → Int32 → Int32 → Int32 → Int32 → Int32 → Int32 → ow_MS → Option (Int32 × ow_MS)} {x1 : Int32} {x2 : Int32} {x3 : Int32} {x4 : Int32} {x5 : Int32} {x6 : Int32} {x7 : Int32} {t0 : Int32} {t1 : Int32}  (hgo : ∀ (L : Nat) (x1 : Int32) (x2 : Int32) (x3 : Int32) (x4 : Int32) (x5 : Int32) (x6 : Int32) (x7 : Int32) (t0 : Int32) (t1 : Int32) (z : ow_MS), fr (pf [1, 11, 94, 95, 96] []) z0 z → Fo Prod.snd (pf [1, 11, 94, 95, 96] []) z0 (go L x1 x2 x3 x4 x5 x6 x7 t0 t1 z)) (hz : fr (pf [1, 11, 94, 95, 96] []) z0 z)  : Fo Prod.snd (pf [1, 11, 94, 95, 96] []) z0 (qm_X13_braid_2 K go x1 x2 x3 x4 x5 x6 x7 t0 t1 z) := by
  unfold qm_X13_braid_2
  exact (fo_rdF (fun v8 => (fo_if (hgo 10 _ _ _ _ _ _ _ _ _ z hz) (fo_if (fo_rdI (fun v9 => (fo_rdI (fun v10 => (fo_if (hgo 3 _ _ _ _ _ _ _ _ _ z hz) (fo_if (hgo 4 _ _ _ _ _ _ _ _ _ z hz) (hgo 3 _ _ _ _ _ _ _ _ _ z hz))))))) (hgo 10 _ _ _ _ _ _ _ _ _ z hz)))))
theorem fb_X13_braid_3 {K : Nat} {z0 z : ow_MS}  {go : Nat → Int32 → Int32 → Int32 → Int32 → Int32 → Int32 → Int32 → Int32 → Int32 → ow_MS → Option (Int32 × ow_MS)} {x1 : Int32} {x2 : Int32} {x3 : Int32} {x4 : Int32} {x5 : Int32} {x6 : Int32} {x7 : Int32} {t0 : Int32} {t1 : Int32}  (hgo : ∀ (L : Nat) (x1 : Int32) (x2 : Int32) (x3 : Int32) (x4 : Int32) (x5 : Int32) (x6 : Int32) (x7 : Int32) (t0 : Int32) (t1 : Int32) (z : ow_MS), fr (pf [1, 11, 94, 95, 96] []) z0 z → Fo Prod.snd (pf [1, 11, 94, 95, 96] []) z0 (go L x1 x2 x3 x4 x5 x6 x7 t0 t1 z)) (hz : fr (pf [1, 11, 94, 95, 96] []) z0 z)  : Fo Prod.snd (pf [1, 11, 94, 95, 96] []) z0 (qm_X13_braid_3 K go x1 x2 x3 x4 x5 x6 x7 t0 t1 z) := by
  unfold qm_X13_braid_3
  exact (fo_if (hgo 5 _ _ _ _ _ _ _ _ _ z hz) (fo_if (hgo 5 _ _ _ _ _ _ _ _ _ z hz) (hgo 4 _ _ _ _ _ _ _ _ _ z hz)))
theorem fb_X13_braid_4 {K : Nat} {z0 z : ow_MS}  {go : Nat → Int32 → Int32 → Int32 → Int32 → Int32 → Int32 → Int32 → Int32 → Int32 → ow_MS → Option (Int32 × ow_MS)} {x1 : Int32} {x2 : Int32} {x3 : Int32} {x4 : Int32} {x5 : Int32} {x6 : Int32} {x7 : Int32} {t0 : Int32} {t1 : Int32}  (hgo : ∀ (L : Nat) (x1 : Int32) (x2 : Int32) (x3 : Int32) (x4 : Int32) (x5 : Int32) (x6 : Int32) (x7 : Int32) (t0 : Int32) (t1 : Int32) (z : ow_MS), fr (pf [1, 11, 94, 95, 96] []) z0 z → Fo Prod.snd (pf [1, 11, 94, 95, 96] []) z0 (go L x1 x2 x3 x4 x5 x6 x7 t0 t1 z)) (hz : fr (pf [1, 11, 94, 95, 96] []) z0 z)  : Fo Prod.snd (pf [1, 11, 94, 95, 96] []) z0 (qm_X13_braid_4 K go x1 x2 x3 x4 x5 x6 x7 t0 t1 z) := by
  unfold qm_X13_braid_4
  exact (hgo 6 _ _ _ _ _ _ _ _ _ z hz)
theorem fb_X13_braid_5 {K : Nat} {z0 z : ow_MS}  {go : Nat → Int32 → Int32 → Int32 → Int32 → Int32 → Int32 → Int32 → Int32 → Int32 → ow_MS → Option (Int32 × ow_MS)} {x1 : Int32} {x2 : Int32} {x3 : Int32} {x4 : Int32} {x5 : Int32} {x6 : Int32} {x7 : Int32} {t0 : Int32} {t1 : Int32}  (hgo : ∀ (L : Nat) (x1 : Int32) (x2 : Int32) (x3 : Int32) (x4 : Int32) (x5 : Int32) (x6 : Int32) (x7 : Int32) (t0 : Int32) (t1 : Int32) (z : ow_MS), fr (pf [1, 11, 94, 95, 96] []) z0 z → Fo Prod.snd (pf [1, 11, 94, 95, 96] []) z0 (go L x1 x2 x3 x4 x5 x6 x7 t0 t1 z)) (hz : fr (pf [1, 11, 94, 95, 96] []) z0 z)  : Fo Prod.snd (pf [1, 11, 94, 95, 96] []) z0 (qm_X13_braid_5 K go x1 x2 x3 x4 x5 x6 x7 t0 t1 z) := by
  unfold qm_X13_braid_5
  exact (hgo 6 _ _ _ _ _ _ _ _ _ z hz)
theorem fb_X13_braid_6 {K : Nat} {z0 z : ow_MS}  {go : Nat → Int32 → Int32 → Int32 → Int32 → Int32 → Int32 → Int32 → Int32 → Int32 → ow_MS → Option (Int32 × ow_MS)} {x1 : Int32} {x2 : Int32} {x3 : Int32} {x4 : Int32} {x5 : Int32} {x6 : Int32} {x7 : Int32} {t0 : Int32} {t1 : Int32}  (hgo : ∀ (L : Nat) (x1 : Int32) (x2 : Int32) (x3 : Int32) (x4 : Int32) (x5 : Int32) (x6 : Int32) (x7 : Int32) (t0 : Int32) (t1 : Int32) (z : ow_MS), fr (pf [1, 11, 94, 95, 96] []) z0 z → Fo Prod.snd (pf [1, 11, 94, 95, 96] []) z0 (go L x1 x2 x3 x4 x5 x6 x7 t0 t1 z)) (hz : fr (pf [1, 11, 94, 95, 96] []) z0 z)  : Fo Prod.snd (pf [1, 11, 94, 95, 96] []) z0 (qm_X13_braid_6 K go x1 x2 x3 x4 x5 x6 x7 t0 t1 z) := by
  unfold qm_X13_braid_6
  exact (fo_if (hgo 7 _ _ _ _ _ _ _ _ _ z hz) (fo_if (hgo 7 _ _ _ _ _ _ _ _ _ z hz) (fo_if (hgo 8 _ _ _ _ _ _ _ _ _ z hz) (hgo 8 _ _ _ _ _ _ _ _ _ z hz))))
theorem fb_X13_braid_7 {K : Nat} {z0 z : ow_MS}  {go : Nat → Int32 → Int32 → Int32 → Int32 → Int32 → Int32 → Int32 → Int32 → Int32 → ow_MS → Option (Int32 × ow_MS)} {x1 : Int32} {x2 : Int32} {x3 : Int32} {x4 : Int32} {x5 : Int32} {x6 : Int32} {x7 : Int32} {t0 : Int32} {t1 : Int32}  (hgo : ∀ (L : Nat) (x1 : Int32) (x2 : Int32) (x3 : Int32) (x4 : Int32) (x5 : Int32) (x6 : Int32) (x7 : Int32) (t0 : Int32) (t1 : Int32) (z : ow_MS), fr (pf [1, 11, 94, 95, 96] []) z0 z → Fo Prod.snd (pf [1, 11, 94, 95, 96] []) z0 (go L x1 x2 x3 x4 x5 x6 x7 t0 t1 z)) (hz : fr (pf [1, 11, 94, 95, 96] []) z0 z)  : Fo Prod.snd (pf [1, 11, 94, 95, 96] []) z0 (qm_X13_braid_7 K go x1 x2 x3 x4 x5 x6 x7 t0 t1 z) := by
  unfold qm_X13_braid_7
  exact (hgo 9 _ _ _ _ _ _ _ _ _ z hz)
theorem fb_X13_braid_8 {K : Nat} {z0 z : ow_MS}  {go : Nat → Int32 → Int32 → Int32 → Int32 → Int32 → Int32 → Int32 → Int32 → Int32 → ow_MS → Option (Int32 × ow_MS)} {x1 : Int32} {x2 : Int32} {x3 : Int32} {x4 : Int32} {x5 : Int32} {x6 : Int32} {x7 : Int32} {t0 : Int32} {t1 : Int32}  (hgo : ∀ (L : Nat) (x1 : Int32) (x2 : Int32) (x3 : Int32) (x4 : Int32) (x5 : Int32) (x6 : Int32) (x7 : Int32) (t0 : Int32) (t1 : Int32) (z : ow_MS), fr (pf [1, 11, 94, 95, 96] []) z0 z → Fo Prod.snd (pf [1, 11, 94, 95, 96] []) z0 (go L x1 x2 x3 x4 x5 x6 x7 t0 t1 z)) (hz : fr (pf [1, 11, 94, 95, 96] []) z0 z)  : Fo Prod.snd (pf [1, 11, 94, 95, 96] []) z0 (qm_X13_braid_8 K go x1 x2 x3 x4 x5 x6 x7 t0 t1 z) := by
  unfold qm_X13_braid_8
  exact (fo_wrI (Or.inl (by decide)) hz (fun z11 h_z11 => (hgo 9 _ _ _ _ _ _ _ _ _ z11 h_z11)))
theorem fb_X13_braid_9 {K : Nat} {z0 z : ow_MS}  {go : Nat → Int32 → Int32 → Int32 → Int32 → Int32 → Int32 → Int32 → Int32 → Int32 → ow_MS → Option (Int32 × ow_MS)} {x1 : Int32} {x2 : Int32} {x3 : Int32} {x4 : Int32} {x5 : Int32} {x6 : Int32} {x7 : Int32} {t0 : Int32} {t1 : Int32}  (hgo : ∀ (L : Nat) (x1 : Int32) (x2 : Int32) (x3 : Int32) (x4 : Int32) (x5 : Int32) (x6 : Int32) (x7 : Int32) (t0 : Int32) (t1 : Int32) (z : ow_MS), fr (pf [1, 11, 94, 95, 96] []) z0 z → Fo Prod.snd (pf [1, 11, 94, 95, 96] []) z0 (go L x1 x2 x3 x4 x5 x6 x7 t0 t1 z)) (hz : fr (pf [1, 11, 94, 95, 96] []) z0 z)  : Fo Prod.snd (pf [1, 11, 94, 95, 96] []) z0 (qm_X13_braid_9 K go x1 x2 x3 x4 x5 x6 x7 t0 t1 z) := by
  unfold qm_X13_braid_9
  exact (hgo 2 _ _ _ _ _ _ _ _ _ z hz)
theorem fb_X13_braid_10 {K : Nat} {z0 z : ow_MS}  {go : Nat → Int32 → Int32 → Int32 → Int32 → Int32 → Int32 → Int32 → Int32 → Int32 → ow_MS → Option (Int32 × ow_MS)} {x1 : Int32} {x2 : Int32} {x3 : Int32} {x4 : Int32} {x5 : Int32} {x6 : Int32} {x7 : Int32} {t0 : Int32} {t1 : Int32}  (hgo : ∀ (L : Nat) (x1 : Int32) (x2 : Int32) (x3 : Int32) (x4 : Int32) (x5 : Int32) (x6 : Int32) (x7 : Int32) (t0 : Int32) (t1 : Int32) (z : ow_MS), fr (pf [1, 11, 94, 95, 96] []) z0 z → Fo Prod.snd (pf [1, 11, 94, 95, 96] []) z0 (go L x1 x2 x3 x4 x5 x6 x7 t0 t1 z)) (hz : fr (pf [1, 11, 94, 95, 96] []) z0 z)  : Fo Prod.snd (pf [1, 11, 94, 95, 96] []) z0 (qm_X13_braid_10 K go x1 x2 x3 x4 x5 x6 x7 t0 t1 z) := by
  unfold qm_X13_braid_10
  exact (fo_rdF (fun v12 => (fo_wrF (Or.inl (by decide)) hz (fun z13 h_z13 => (fo_if (fo_wrI (Or.inl (by decide)) h_z13 (fun z14 h_z14 => (fo_wrI (Or.inl (by decide)) h_z14 (fun z15 h_z15 => (fo_some h_z15))))) (fo_some h_z13))))))
theorem fq_X13_braid {K : Nat} {z0 : ow_MS}   : ∀ (k L : Nat) (x1 : Int32) (x2 : Int32) (x3 : Int32) (x4 : Int32) (x5 : Int32) (x6 : Int32) (x7 : Int32) (t0 : Int32) (t1 : Int32) (z : ow_MS), fr (pf [1, 11, 94, 95, 96] []) z0 z → Fo Prod.snd (pf [1, 11, 94, 95, 96] []) z0 (q_X13_braid K k L x1 x2 x3 x4 x5 x6 x7 t0 t1 z)
  | 0 => by
    intros
    exact fo_none
  | k + 1 => by
    intro L x1 x2 x3 x4 x5 x6 x7 t0 t1 z hz 
    show Fo Prod.snd (pf [1, 11, 94, 95, 96] []) z0 (qb_X13_braid K (q_X13_braid K k) L x1 x2 x3 x4 x5 x6 x7 t0 t1 z)
    unfold qb_X13_braid
    split
    · exact fb_X13_braid_0 (fq_X13_braid k) hz 
    · exact fb_X13_braid_1 (fq_X13_braid k) hz 
    · exact fb_X13_braid_2 (fq_X13_braid k) hz 
    · exact fb_X13_braid_3 (fq_X13_braid k) hz 
    · exact fb_X13_braid_4 (fq_X13_braid k) hz 
    · exact fb_X13_braid_5 (fq_X13_braid k) hz 
    · exact fb_X13_braid_6 (fq_X13_braid k) hz 
    · exact fb_X13_braid_7 (fq_X13_braid k) hz 
    · exact fb_X13_braid_8 (fq_X13_braid k) hz 
    · exact fb_X13_braid_9 (fq_X13_braid k) hz 
    · exact fb_X13_braid_10 (fq_X13_braid k) hz 
    · exact fo_none
theorem ff_X13_braid {K : Nat} {x1 : Int32} {z : ow_MS}  : Fo Prod.snd (pf [1, 11, 94, 95, 96] []) z (qe_X13_braid K x1 z) := fq_X13_braid K 0 _ _ _ _ _ _ _ _ _ z fr_rf 
theorem ff_X13_has {K : Nat} {x1 : Int32} {z : ow_MS}  : Fo Prod.snd (pf [] []) z (qe_X13_has K x1 z) := by
  unfold qe_X13_has qm_X13_has_0
  exact (fo_if (fo_okZ (fo_some fr_rf)) (fo_if (fo_okZ (fo_some fr_rf)) (fo_rdI (fun v1 => (fo_if (fo_okZ (fo_some fr_rf)) (fo_okZ (fo_some fr_rf)))))))
theorem ff_X13_drop {K : Nat} {x1 : Int32} {z : ow_MS}  : Fo Prod.snd (pf [1, 12] []) z (qe_X13_drop K x1 z) := by
  unfold qe_X13_drop qm_X13_drop_0
  exact (fo_wrF (Or.inl (by decide)) fr_rf (fun z1 h_z1 => (fo_cs1 (ff_X13_has) (pf_sub (by decide) pf_0) h_z1 (fun v3 z2 h_z2 => (fo_if (fo_okZ (fo_some h_z2)) (fo_wrI (Or.inl (by decide)) h_z2 (fun z4 h_z4 => (fo_okZ (fo_some h_z4)))))))))
theorem ff_X13_hasBraid {K : Nat} {x1 : Int32} {z : ow_MS}  : Fo Prod.snd (pf [] []) z (qe_X13_hasBraid K x1 z) := by
  unfold qe_X13_hasBraid qm_X13_hasBraid_0
  exact (fo_if (fo_okZ (fo_some fr_rf)) (fo_if (fo_okZ (fo_some fr_rf)) (fo_rdI (fun v1 => (fo_if (fo_okZ (fo_some fr_rf)) (fo_okZ (fo_some fr_rf)))))))
theorem ff_X13_dropBraid {K : Nat} {x1 : Int32} {z : ow_MS}  : Fo Prod.snd (pf [1, 96] []) z (qe_X13_dropBraid K x1 z) := by
  unfold qe_X13_dropBraid qm_X13_dropBraid_0
  exact (fo_wrF (Or.inl (by decide)) fr_rf (fun z1 h_z1 => (fo_cs1 (ff_X13_hasBraid) (pf_sub (by decide) pf_0) h_z1 (fun v3 z2 h_z2 => (fo_if (fo_okZ (fo_some h_z2)) (fo_wrI (Or.inl (by decide)) h_z2 (fun z4 h_z4 => (fo_okZ (fo_some h_z4)))))))))
theorem fb_X13_unpack_0 {K : Nat} {z0 z : ow_MS}  {go : Nat → Int32 → Int32 → Int32 → Nat → Nat → Int32 → Int32 → ow_MS → Option ow_MS} {x1 : Int32} {x3 : Int32} {x4 : Int32} {r0 : Nat} {r2 : Nat} {t0 : Int32} {t1 : Int32}  (hgo : ∀ (L : Nat) (x1 : Int32) (x3 : Int32) (x4 : Int32) (r0 : Nat) (r2 : Nat) (t0 : Int32) (t1 : Int32) (z : ow_MS), fr (pf [] []) z0 z → (L = 0 ∨ L = 1 ∨ L = 2 ∨ L = 3 → 1000 ≤ r2) → Fo id (pf [] []) z0 (go L x1 x3 x4 r0 r2 t0 t1 z)) (hz : fr (pf [] []) z0 z) (hr2 : 1000 ≤ r2) : Fo id (pf [] []) z0 (qm_X13_unpack_0 K go x1 x3 x4 r0 r2 t0 t1 z) := by
  unfold qm_X13_unpack_0
  exact (fo_cs0 (ff_X12_clear (by first | omega | decide)) (pf_sub (by decide) pf_0) hz (fun z1 h_z1 => (hgo 1 _ _ _ _ _ _ _ z1 h_z1 (fun _ => (by first | omega | decide)))))
theorem fb_X13_unpack_1 {K : Nat} {z0 z : ow_MS}  {go : Nat → Int32 → Int32 → Int32 → Nat → Nat → Int32 → Int32 → ow_MS → Option ow_MS} {x1 : Int32} {x3 : Int32} {x4 : Int32} {r0 : Nat} {r2 : Nat} {t0 : Int32} {t1 : Int32}  (hgo : ∀ (L : Nat) (x1 : Int32) (x3 : Int32) (x4 : Int32) (r0 : Nat) (r2 : Nat) (t0 : Int32) (t1 : Int32) (z : ow_MS), fr (pf [] []) z0 z → (L = 0 ∨ L = 1 ∨ L = 2 ∨ L = 3 → 1000 ≤ r2) → Fo id (pf [] []) z0 (go L x1 x3 x4 r0 r2 t0 t1 z)) (hz : fr (pf [] []) z0 z) (hr2 : 1000 ≤ r2) : Fo id (pf [] []) z0 (qm_X13_unpack_1 K go x1 x3 x4 r0 r2 t0 t1 z) := by
  unfold qm_X13_unpack_1
  exact (fo_rdI (fun v2 => (fo_if (fo_some hz) (fo_rdI (fun v3 => (fo_if (fo_cs0 (ff_X12_end (by first | omega | decide)) (pf_sub (by decide) pf_0) hz (fun z4 h_z4 => (hgo 3 _ _ _ _ _ _ _ z4 h_z4 (fun _ => (by first | omega | decide))))) (fo_if (hgo 2 _ _ _ _ _ _ _ z hz (fun _ => (by first | omega | decide))) (hgo 2 _ _ _ _ _ _ _ z hz (fun _ => (by first | omega | decide))))))))))
theorem fb_X13_unpack_2 {K : Nat} {z0 z : ow_MS}  {go : Nat → Int32 → Int32 → Int32 → Nat → Nat → Int32 → Int32 → ow_MS → Option ow_MS} {x1 : Int32} {x3 : Int32} {x4 : Int32} {r0 : Nat} {r2 : Nat} {t0 : Int32} {t1 : Int32}  (hgo : ∀ (L : Nat) (x1 : Int32) (x3 : Int32) (x4 : Int32) (r0 : Nat) (r2 : Nat) (t0 : Int32) (t1 : Int32) (z : ow_MS), fr (pf [] []) z0 z → (L = 0 ∨ L = 1 ∨ L = 2 ∨ L = 3 → 1000 ≤ r2) → Fo id (pf [] []) z0 (go L x1 x3 x4 r0 r2 t0 t1 z)) (hz : fr (pf [] []) z0 z) (hr2 : 1000 ≤ r2) : Fo id (pf [] []) z0 (qm_X13_unpack_2 K go x1 x3 x4 r0 r2 t0 t1 z) := by
  unfold qm_X13_unpack_2
  exact (fo_wrI (Or.inr (Or.inr (by omega))) hz (fun z5 h_z5 => (fo_cs0 (ff_X12_add (by first | omega | decide)) (pf_sub (by decide) pf_0) h_z5 (fun z6 h_z6 => (hgo 3 _ _ _ _ _ _ _ z6 h_z6 (fun _ => (by first | omega | decide)))))))
theorem fb_X13_unpack_3 {K : Nat} {z0 z : ow_MS}  {go : Nat → Int32 → Int32 → Int32 → Nat → Nat → Int32 → Int32 → ow_MS → Option ow_MS} {x1 : Int32} {x3 : Int32} {x4 : Int32} {r0 : Nat} {r2 : Nat} {t0 : Int32} {t1 : Int32}  (hgo : ∀ (L : Nat) (x1 : Int32) (x3 : Int32) (x4 : Int32) (r0 : Nat) (r2 : Nat) (t0 : Int32) (t1 : Int32) (z : ow_MS), fr (pf [] []) z0 z → (L = 0 ∨ L = 1 ∨ L = 2 ∨ L = 3 → 1000 ≤ r2) → Fo id (pf [] []) z0 (go L x1 x3 x4 r0 r2 t0 t1 z)) (hz : fr (pf [] []) z0 z) (hr2 : 1000 ≤ r2) : Fo id (pf [] []) z0 (qm_X13_unpack_3 K go x1 x3 x4 r0 r2 t0 t1 z) := by
  unfold qm_X13_unpack_3
  exact (hgo 1 _ _ _ _ _ _ _ z hz (fun _ => (by first | omega | decide)))
theorem fq_X13_unpack {K : Nat} {z0 : ow_MS}   : ∀ (k L : Nat) (x1 : Int32) (x3 : Int32) (x4 : Int32) (r0 : Nat) (r2 : Nat) (t0 : Int32) (t1 : Int32) (z : ow_MS), fr (pf [] []) z0 z → (L = 0 ∨ L = 1 ∨ L = 2 ∨ L = 3 → 1000 ≤ r2) → Fo id (pf [] []) z0 (q_X13_unpack K k L x1 x3 x4 r0 r2 t0 t1 z)
  | 0 => by
    intros
    exact fo_none
  | k + 1 => by
    intro L x1 x3 x4 r0 r2 t0 t1 z hz h9_r2
    show Fo id (pf [] []) z0 (qb_X13_unpack K (q_X13_unpack K k) L x1 x3 x4 r0 r2 t0 t1 z)
    unfold qb_X13_unpack
    split
    · exact fb_X13_unpack_0 (fq_X13_unpack k) hz (h9_r2 (by decide))
    · exact fb_X13_unpack_1 (fq_X13_unpack k) hz (h9_r2 (by decide))
    · exact fb_X13_unpack_2 (fq_X13_unpack k) hz (h9_r2 (by decide))
    · exact fb_X13_unpack_3 (fq_X13_unpack k) hz (h9_r2 (by decide))
    · exact fo_none
theorem ff_X13_unpack {K : Nat} {r0 : Nat} {x1 : Int32} {r2 : Nat} {z : ow_MS} (hr2 : 1000 ≤ r2) : Fo id (pf [] []) z (qe_X13_unpack K r0 x1 r2 z) := fq_X13_unpack K 0 _ _ _ _ _ _ _ z fr_rf (fun _ => (by first | omega | decide))
theorem ff_X13_open {K : Nat} {x1 : Int32} {r2 : Nat} {z : ow_MS} (hr2 : 1000 ≤ r2) : Fo id (pf [] []) z (qe_X13_open K x1 r2 z) := by
  unfold qe_X13_open qm_X13_open_0
  exact (fo_cs0 (ff_X13_unpack (by first | omega | decide)) (pf_sub (by decide) pf_0) fr_rf (fun z1 h_z1 => (fo_cs0 (ff_X12_link (by first | omega | decide)) (pf_sub (by decide) pf_0) h_z1 (fun z2 h_z2 => (fo_some h_z2)))))
theorem fb_X13_circlesOf_0 {K : Nat} {z0 z : ow_MS}  {go : Nat → Int32 → Int32 → Nat → Int32 → Int32 → ow_MS → Option (Int32 × ow_MS)} {x2 : Int32} {x3 : Int32} {r1 : Nat} {t0 : Int32} {t1 : Int32}  (hgo : ∀ (L : Nat) (x2 : Int32) (x3 : Int32) (r1 : Nat) (t0 : Int32) (t1 : Int32) (z : ow_MS), fr (pf [] []) z0 z → (L = 0 ∨ L = 1 ∨ L = 2 → 1000 ≤ r1) → Fo Prod.snd (pf [] []) z0 (go L x2 x3 r1 t0 t1 z)) (hz : fr (pf [] []) z0 z) (hr1 : 1000 ≤ r1) : Fo Prod.snd (pf [] []) z0 (qm_X13_circlesOf_0 K go x2 x3 r1 t0 t1 z) := by
  unfold qm_X13_circlesOf_0
  exact (hgo 1 _ _ _ _ _ z hz (fun _ => (by first | omega | decide)))
theorem fb_X13_circlesOf_1 {K : Nat} {z0 z : ow_MS}  {go : Nat → Int32 → Int32 → Nat → Int32 → Int32 → ow_MS → Option (Int32 × ow_MS)} {x2 : Int32} {x3 : Int32} {r1 : Nat} {t0 : Int32} {t1 : Int32}  (hgo : ∀ (L : Nat) (x2 : Int32) (x3 : Int32) (r1 : Nat) (t0 : Int32) (t1 : Int32) (z : ow_MS), fr (pf [] []) z0 z → (L = 0 ∨ L = 1 ∨ L = 2 → 1000 ≤ r1) → Fo Prod.snd (pf [] []) z0 (go L x2 x3 r1 t0 t1 z)) (hz : fr (pf [] []) z0 z) (hr1 : 1000 ≤ r1) : Fo Prod.snd (pf [] []) z0 (qm_X13_circlesOf_1 K go x2 x3 r1 t0 t1 z) := by
  unfold qm_X13_circlesOf_1
  exact (fo_rdF (fun v1 => (fo_if (fo_some hz) (fo_cs1 (ff_X12_isCircle (by first | omega | decide)) (pf_sub (by decide) pf_0) hz (fun v3 z2 h_z2 => (fo_if (hgo 2 _ _ _ _ _ z2 h_z2 (fun _ => (by first | omega | decide))) (hgo 2 _ _ _ _ _ z2 h_z2 (fun _ => (by first | omega | decide)))))))))
theorem fb_X13_circlesOf_2 {K : Nat} {z0 z : ow_MS}  {go : Nat → Int32 → Int32 → Nat → Int32 → Int32 → ow_MS → Option (Int32 × ow_MS)} {x2 : Int32} {x3 : Int32} {r1 : Nat} {t0 : Int32} {t1 : Int32}  (hgo : ∀ (L : Nat) (x2 : Int32) (x3 : Int32) (r1 : Nat) (t0 : Int32) (t1 : Int32) (z : ow_MS), fr (pf [] []) z0 z → (L = 0 ∨ L = 1 ∨ L = 2 → 1000 ≤ r1) → Fo Prod.snd (pf [] []) z0 (go L x2 x3 r1 t0 t1 z)) (hz : fr (pf [] []) z0 z) (hr1 : 1000 ≤ r1) : Fo Prod.snd (pf [] []) z0 (qm_X13_circlesOf_2 K go x2 x3 r1 t0 t1 z) := by
  unfold qm_X13_circlesOf_2
  exact (hgo 1 _ _ _ _ _ z hz (fun _ => (by first | omega | decide)))
theorem fq_X13_circlesOf {K : Nat} {z0 : ow_MS}   : ∀ (k L : Nat) (x2 : Int32) (x3 : Int32) (r1 : Nat) (t0 : Int32) (t1 : Int32) (z : ow_MS), fr (pf [] []) z0 z → (L = 0 ∨ L = 1 ∨ L = 2 → 1000 ≤ r1) → Fo Prod.snd (pf [] []) z0 (q_X13_circlesOf K k L x2 x3 r1 t0 t1 z)
  | 0 => by
    intros
    exact fo_none
  | k + 1 => by
    intro L x2 x3 r1 t0 t1 z hz h9_r1
    show Fo Prod.snd (pf [] []) z0 (qb_X13_circlesOf K (q_X13_circlesOf K k) L x2 x3 r1 t0 t1 z)
    unfold qb_X13_circlesOf
    split
    · exact fb_X13_circlesOf_0 (fq_X13_circlesOf k) hz (h9_r1 (by decide))
    · exact fb_X13_circlesOf_1 (fq_X13_circlesOf k) hz (h9_r1 (by decide))
    · exact fb_X13_circlesOf_2 (fq_X13_circlesOf k) hz (h9_r1 (by decide))
    · exact fo_none
theorem ff_X13_circlesOf {K : Nat} {r1 : Nat} {z : ow_MS} (hr1 : 1000 ≤ r1) : Fo Prod.snd (pf [] []) z (qe_X13_circlesOf K r1 z) := fq_X13_circlesOf K 0 _ _ _ _ _ z fr_rf (fun _ => (by first | omega | decide))
theorem fb_X13_writheOf_0 {K : Nat} {z0 z : ow_MS}  {go : Nat → Int32 → Int32 → Nat → Int32 → Int32 → ow_MS → Option (Int32 × ow_MS)} {x1 : Int32} {x2 : Int32} {r0 : Nat} {t0 : Int32} {t1 : Int32}  (hgo : ∀ (L : Nat) (x1 : Int32) (x2 : Int32) (r0 : Nat) (t0 : Int32) (t1 : Int32) (z : ow_MS), fr (pf [] []) z0 z → (L = 0 ∨ L = 1 ∨ L = 2 → 1000 ≤ r0) → Fo Prod.snd (pf [] []) z0 (go L x1 x2 r0 t0 t1 z)) (hz : fr (pf [] []) z0 z) (hr0 : 1000 ≤ r0) : Fo Prod.snd (pf [] []) z0 (qm_X13_writheOf_0 K go x1 x2 r0 t0 t1 z) := by
  unfold qm_X13_writheOf_0
  exact (hgo 1 _ _ _ _ _ z hz (fun _ => (by first | omega | decide)))
theorem fb_X13_writheOf_1 {K : Nat} {z0 z : ow_MS}  {go : Nat → Int32 → Int32 → Nat → Int32 → Int32 → ow_MS → Option (Int32 × ow_MS)} {x1 : Int32} {x2 : Int32} {r0 : Nat} {t0 : Int32} {t1 : Int32}  (hgo : ∀ (L : Nat) (x1 : Int32) (x2 : Int32) (r0 : Nat) (t0 : Int32) (t1 : Int32) (z : ow_MS), fr (pf [] []) z0 z → (L = 0 ∨ L = 1 ∨ L = 2 → 1000 ≤ r0) → Fo Prod.snd (pf [] []) z0 (go L x1 x2 r0 t0 t1 z)) (hz : fr (pf [] []) z0 z) (hr0 : 1000 ≤ r0) : Fo Prod.snd (pf [] []) z0 (qm_X13_writheOf_1 K go x1 x2 r0 t0 t1 z) := by
  unfold qm_X13_writheOf_1
  exact (fo_rdF (fun v1 => (fo_if (fo_some hz) (fo_rdI (fun v2 => (fo_if (fo_rdI (fun v3 => (fo_rdI (fun v4 => (hgo 2 _ _ _ _ _ z hz (fun _ => (by first | omega | decide))))))) (hgo 2 _ _ _ _ _ z hz (fun _ => (by first | omega | decide)))))))))
theorem fb_X13_writheOf_2 {K : Nat} {z0 z : ow_MS}  {go : Nat → Int32 → Int32 → Nat → Int32 → Int32 → ow_MS → Option (Int32 × ow_MS)} {x1 : Int32} {x2 : Int32} {r0 : Nat} {t0 : Int32} {t1 : Int32}  (hgo : ∀ (L : Nat) (x1 : Int32) (x2 : Int32) (r0 : Nat) (t0 : Int32) (t1 : Int32) (z : ow_MS), fr (pf [] []) z0 z → (L = 0 ∨ L = 1 ∨ L = 2 → 1000 ≤ r0) → Fo Prod.snd (pf [] []) z0 (go L x1 x2 r0 t0 t1 z)) (hz : fr (pf [] []) z0 z) (hr0 : 1000 ≤ r0) : Fo Prod.snd (pf [] []) z0 (qm_X13_writheOf_2 K go x1 x2 r0 t0 t1 z) := by
  unfold qm_X13_writheOf_2
  exact (hgo 1 _ _ _ _ _ z hz (fun _ => (by first | omega | decide)))
theorem fq_X13_writheOf {K : Nat} {z0 : ow_MS}   : ∀ (k L : Nat) (x1 : Int32) (x2 : Int32) (r0 : Nat) (t0 : Int32) (t1 : Int32) (z : ow_MS), fr (pf [] []) z0 z → (L = 0 ∨ L = 1 ∨ L = 2 → 1000 ≤ r0) → Fo Prod.snd (pf [] []) z0 (q_X13_writheOf K k L x1 x2 r0 t0 t1 z)
  | 0 => by
    intros
    exact fo_none
  | k + 1 => by
    intro L x1 x2 r0 t0 t1 z hz h9_r0
    show Fo Prod.snd (pf [] []) z0 (qb_X13_writheOf K (q_X13_writheOf K k) L x1 x2 r0 t0 t1 z)
    unfold qb_X13_writheOf
    split
    · exact fb_X13_writheOf_0 (fq_X13_writheOf k) hz (h9_r0 (by decide))
    · exact fb_X13_writheOf_1 (fq_X13_writheOf k) hz (h9_r0 (by decide))
    · exact fb_X13_writheOf_2 (fq_X13_writheOf k) hz (h9_r0 (by decide))
    · exact fo_none
theorem ff_X13_writheOf {K : Nat} {r0 : Nat} {z : ow_MS} (hr0 : 1000 ≤ r0) : Fo Prod.snd (pf [] []) z (qe_X13_writheOf K r0 z) := fq_X13_writheOf K 0 _ _ _ _ _ z fr_rf (fun _ => (by first | omega | decide))
theorem fb_X13_figure_0 {K : Nat} {z0 z : ow_MS}  {go : Nat → Int32 → Int32 → Int32 → ow_MS → Option (Int32 × ow_MS)} {x1 : Int32} {x2 : Int32} {x3 : Int32}  (hgo : ∀ (L : Nat) (x1 : Int32) (x2 : Int32) (x3 : Int32) (z : ow_MS), fr (pf [1] []) z0 z → Fo Prod.snd (pf [1] []) z0 (go L x1 x2 x3 z)) (hz : fr (pf [1] []) z0 z)  : Fo Prod.snd (pf [1] []) z0 (qm_X13_figure_0 K go x1 x2 x3 z) := by
  unfold qm_X13_figure_0
  exact (fo_wrF (Or.inl (by decide)) hz (fun z1 h_z1 => (fo_cs1 (ff_X13_has) (pf_sub (by decide) pf_0) h_z1 (fun v3 z2 h_z2 => (fo_if (fo_cs1 (ff_X13_fails) (pf_sub (by decide) pf_0) h_z2 (fun v14 z13 h_z13 => (fo_some h_z13))) (fo_if (hgo 1 _ _ _ z2 h_z2) (fo_if (fo_cs0 (ff_X13_open (by first | omega | decide)) (pf_sub (by decide) pf_0) h_z2 (fun z4 h_z4 => (fo_if (fo_rdF (fun v12 => (fo_nzI (fo_some h_z4)))) (fo_if (fo_rdF (fun v11 => (fo_some h_z4))) (fo_if (fo_cs1 (ff_X13_circlesOf (by first | omega | decide)) (pf_sub (by decide) pf_0) h_z4 (fun v10 z9 h_z9 => (fo_some h_z9))) (fo_if (fo_cs0 (ff_X12_split (by first | omega | decide)) (pf_sub (by decide) pf_0) h_z4 (fun z7 h_z7 => (fo_rdF (fun v8 => (fo_some h_z7))))) (fo_if (fo_cs1 (ff_X13_writheOf (by first | omega | decide)) (pf_sub (by decide) pf_0) h_z4 (fun v6 z5 h_z5 => (fo_some h_z5))) (hgo 2 _ _ _ z4 h_z4)))))))) (hgo 1 _ _ _ z2 h_z2))))))))
theorem fb_X13_figure_1 {K : Nat} {z0 z : ow_MS}  {go : Nat → Int32 → Int32 → Int32 → ow_MS → Option (Int32 × ow_MS)} {x1 : Int32} {x2 : Int32} {x3 : Int32}  (hgo : ∀ (L : Nat) (x1 : Int32) (x2 : Int32) (x3 : Int32) (z : ow_MS), fr (pf [1] []) z0 z → Fo Prod.snd (pf [1] []) z0 (go L x1 x2 x3 z)) (hz : fr (pf [1] []) z0 z)  : Fo Prod.snd (pf [1] []) z0 (qm_X13_figure_1 K go x1 x2 x3 z) := by
  unfold qm_X13_figure_1
  exact (fo_cs1 (ff_X13_fails) (pf_sub (by decide) pf_0) hz (fun v16 z15 h_z15 => (fo_some h_z15)))
theorem fb_X13_figure_2 {K : Nat} {z0 z : ow_MS}  {go : Nat → Int32 → Int32 → Int32 → ow_MS → Option (Int32 × ow_MS)} {x1 : Int32} {x2 : Int32} {x3 : Int32}  (hgo : ∀ (L : Nat) (x1 : Int32) (x2 : Int32) (x3 : Int32) (z : ow_MS), fr (pf [1] []) z0 z → Fo Prod.snd (pf [1] []) z0 (go L x1 x2 x3 z)) (hz : fr (pf [1] []) z0 z)  : Fo Prod.snd (pf [1] []) z0 (qm_X13_figure_2 K go x1 x2 x3 z) := by
  unfold qm_X13_figure_2
  exact (fo_rdF (fun v17 => (fo_if (fo_some hz) (fo_rdI (fun v18 => (fo_rdI (fun v19 => (fo_rdI (fun v20 => (fo_if (fo_some hz) (hgo 2 _ _ _ z hz)))))))))))
theorem fq_X13_figure {K : Nat} {z0 : ow_MS}   : ∀ (k L : Nat) (x1 : Int32) (x2 : Int32) (x3 : Int32) (z : ow_MS), fr (pf [1] []) z0 z → Fo Prod.snd (pf [1] []) z0 (q_X13_figure K k L x1 x2 x3 z)
  | 0 => by
    intros
    exact fo_none
  | k + 1 => by
    intro L x1 x2 x3 z hz 
    show Fo Prod.snd (pf [1] []) z0 (qb_X13_figure K (q_X13_figure K k) L x1 x2 x3 z)
    unfold qb_X13_figure
    split
    · exact fb_X13_figure_0 (fq_X13_figure k) hz 
    · exact fb_X13_figure_1 (fq_X13_figure k) hz 
    · exact fb_X13_figure_2 (fq_X13_figure k) hz 
    · exact fo_none
theorem ff_X13_figure {K : Nat} {x1 : Int32} {x2 : Int32} {z : ow_MS}  : Fo Prod.snd (pf [1] []) z (qe_X13_figure K x1 x2 z) := fq_X13_figure K 0 _ _ _ z fr_rf 
theorem fb_X13_visit_0 {K : Nat} {z0 z : ow_MS}  {go : Nat → Int32 → Int32 → Int32 → ow_MS → Option (Int32 × ow_MS)} {x1 : Int32} {x2 : Int32} {x3 : Int32}  (hgo : ∀ (L : Nat) (x1 : Int32) (x2 : Int32) (x3 : Int32) (z : ow_MS), fr (pf [1] []) z0 z → Fo Prod.snd (pf [1] []) z0 (go L x1 x2 x3 z)) (hz : fr (pf [1] []) z0 z)  : Fo Prod.snd (pf [1] []) z0 (qm_X13_visit_0 K go x1 x2 x3 z) := by
  unfold qm_X13_visit_0
  exact (fo_wrF (Or.inl (by decide)) hz (fun z1 h_z1 => (fo_cs1 (ff_X13_has) (pf_sub (by decide) pf_0) h_z1 (fun v3 z2 h_z2 => (fo_if (fo_cs1 (ff_X13_fails) (pf_sub (by decide) pf_0) h_z2 (fun v14 z13 h_z13 => (fo_some h_z13))) (fo_cs0 (ff_X13_open (by first | omega | decide)) (pf_sub (by decide) pf_0) h_z2 (fun z4 h_z4 => (fo_if (hgo 1 _ _ _ z4 h_z4) (fo_rdF (fun v5 => (fo_if (fo_if (fo_cs1 (ff_X13_fails) (pf_sub (by decide) pf_0) h_z4 (fun v7 z6 h_z6 => (fo_some h_z6))) (fo_if (fo_rdI (fun v8 => (fo_some h_z4))) (fo_if (fo_rdI (fun v9 => (fo_some h_z4))) (fo_if (fo_rdI (fun v10 => (fo_some h_z4))) (fo_if (fo_rdI (fun v11 => (fo_rdI (fun v12 => (fo_some h_z4))))) fo_none))))) (hgo 1 _ _ _ z4 h_z4))))))))))))
theorem fb_X13_visit_1 {K : Nat} {z0 z : ow_MS}  {go : Nat → Int32 → Int32 → Int32 → ow_MS → Option (Int32 × ow_MS)} {x1 : Int32} {x2 : Int32} {x3 : Int32}  (hgo : ∀ (L : Nat) (x1 : Int32) (x2 : Int32) (x3 : Int32) (z : ow_MS), fr (pf [1] []) z0 z → Fo Prod.snd (pf [1] []) z0 (go L x1 x2 x3 z)) (hz : fr (pf [1] []) z0 z)  : Fo Prod.snd (pf [1] []) z0 (qm_X13_visit_1 K go x1 x2 x3 z) := by
  unfold qm_X13_visit_1
  exact (fo_cs1 (ff_X13_fails) (pf_sub (by decide) pf_0) hz (fun v16 z15 h_z15 => (fo_some h_z15)))
theorem fq_X13_visit {K : Nat} {z0 : ow_MS}   : ∀ (k L : Nat) (x1 : Int32) (x2 : Int32) (x3 : Int32) (z : ow_MS), fr (pf [1] []) z0 z → Fo Prod.snd (pf [1] []) z0 (q_X13_visit K k L x1 x2 x3 z)
  | 0 => by
    intros
    exact fo_none
  | k + 1 => by
    intro L x1 x2 x3 z hz 
    show Fo Prod.snd (pf [1] []) z0 (qb_X13_visit K (q_X13_visit K k) L x1 x2 x3 z)
    unfold qb_X13_visit
    split
    · exact fb_X13_visit_0 (fq_X13_visit k) hz 
    · exact fb_X13_visit_1 (fq_X13_visit k) hz 
    · exact fo_none
theorem ff_X13_visit {K : Nat} {x1 : Int32} {x2 : Int32} {x3 : Int32} {z : ow_MS}  : Fo Prod.snd (pf [1] []) z (qe_X13_visit K x1 x2 x3 z) := fq_X13_visit K 0 _ _ _ z fr_rf 
theorem fb_X13_linking_0 {K : Nat} {z0 z : ow_MS}  {go : Nat → Int32 → Int32 → Int32 → Int32 → Int32 → ow_MS → Option (Int32 × ow_MS)} {x1 : Int32} {x2 : Int32} {x3 : Int32} {x4 : Int32} {x5 : Int32}  (hgo : ∀ (L : Nat) (x1 : Int32) (x2 : Int32) (x3 : Int32) (x4 : Int32) (x5 : Int32) (z : ow_MS), fr (pf [1] []) z0 z → Fo Prod.snd (pf [1] []) z0 (go L x1 x2 x3 x4 x5 z)) (hz : fr (pf [1] []) z0 z)  : Fo Prod.snd (pf [1] []) z0 (qm_X13_linking_0 K go x1 x2 x3 x4 x5 z) := by
  unfold qm_X13_linking_0
  exact (fo_wrF (Or.inl (by decide)) hz (fun z1 h_z1 => (fo_cs1 (ff_X13_has) (pf_sub (by decide) pf_0) h_z1 (fun v3 z2 h_z2 => (fo_if (fo_cs1 (ff_X13_fails) (pf_sub (by decide) pf_0) h_z2 (fun v10 z9 h_z9 => (fo_some h_z9))) (fo_cs0 (ff_X13_open (by first | omega | decide)) (pf_sub (by decide) pf_0) h_z2 (fun z4 h_z4 => (fo_if (hgo 1 _ _ _ _ _ z4 h_z4) (fo_rdF (fun v5 => (fo_if (hgo 1 _ _ _ _ _ z4 h_z4) (fo_if (hgo 1 _ _ _ _ _ z4 h_z4) (fo_rdF (fun v6 => (fo_if (fo_if (fo_cs1 (ff_X13_fails) (pf_sub (by decide) pf_0) h_z4 (fun v8 z7 h_z7 => (fo_some h_z7))) (hgo 2 _ _ _ _ _ z4 h_z4)) (hgo 1 _ _ _ _ _ z4 h_z4))))))))))))))))
theorem fb_X13_linking_1 {K : Nat} {z0 z : ow_MS}  {go : Nat → Int32 → Int32 → Int32 → Int32 → Int32 → ow_MS → Option (Int32 × ow_MS)} {x1 : Int32} {x2 : Int32} {x3 : Int32} {x4 : Int32} {x5 : Int32}  (hgo : ∀ (L : Nat) (x1 : Int32) (x2 : Int32) (x3 : Int32) (x4 : Int32) (x5 : Int32) (z : ow_MS), fr (pf [1] []) z0 z → Fo Prod.snd (pf [1] []) z0 (go L x1 x2 x3 x4 x5 z)) (hz : fr (pf [1] []) z0 z)  : Fo Prod.snd (pf [1] []) z0 (qm_X13_linking_1 K go x1 x2 x3 x4 x5 z) := by
  unfold qm_X13_linking_1
  exact (fo_cs1 (ff_X13_fails) (pf_sub (by decide) pf_0) hz (fun v12 z11 h_z11 => (fo_some h_z11)))
theorem fb_X13_linking_2 {K : Nat} {z0 z : ow_MS}  {go : Nat → Int32 → Int32 → Int32 → Int32 → Int32 → ow_MS → Option (Int32 × ow_MS)} {x1 : Int32} {x2 : Int32} {x3 : Int32} {x4 : Int32} {x5 : Int32}  (hgo : ∀ (L : Nat) (x1 : Int32) (x2 : Int32) (x3 : Int32) (x4 : Int32) (x5 : Int32) (z : ow_MS), fr (pf [1] []) z0 z → Fo Prod.snd (pf [1] []) z0 (go L x1 x2 x3 x4 x5 z)) (hz : fr (pf [1] []) z0 z)  : Fo Prod.snd (pf [1] []) z0 (qm_X13_linking_2 K go x1 x2 x3 x4 x5 z) := by
  unfold qm_X13_linking_2
  exact (fo_rdF (fun v13 => (fo_if (fo_nzI (fo_some hz)) (fo_rdI (fun v14 => (fo_if (fo_rdI (fun v15 => (fo_rdI (fun v16 => (fo_if (fo_rdI (fun v17 => (fo_rdI (fun v18 => (hgo 3 _ _ _ _ _ z hz))))) (hgo 3 _ _ _ _ _ z hz)))))) (hgo 3 _ _ _ _ _ z hz)))))))
theorem fb_X13_linking_3 {K : Nat} {z0 z : ow_MS}  {go : Nat → Int32 → Int32 → Int32 → Int32 → Int32 → ow_MS → Option (Int32 × ow_MS)} {x1 : Int32} {x2 : Int32} {x3 : Int32} {x4 : Int32} {x5 : Int32}  (hgo : ∀ (L : Nat) (x1 : Int32) (x2 : Int32) (x3 : Int32) (x4 : Int32) (x5 : Int32) (z : ow_MS), fr (pf [1] []) z0 z → Fo Prod.snd (pf [1] []) z0 (go L x1 x2 x3 x4 x5 z)) (hz : fr (pf [1] []) z0 z)  : Fo Prod.snd (pf [1] []) z0 (qm_X13_linking_3 K go x1 x2 x3 x4 x5 z) := by
  unfold qm_X13_linking_3
  exact (hgo 2 _ _ _ _ _ z hz)
theorem fq_X13_linking {K : Nat} {z0 : ow_MS}   : ∀ (k L : Nat) (x1 : Int32) (x2 : Int32) (x3 : Int32) (x4 : Int32) (x5 : Int32) (z : ow_MS), fr (pf [1] []) z0 z → Fo Prod.snd (pf [1] []) z0 (q_X13_linking K k L x1 x2 x3 x4 x5 z)
  | 0 => by
    intros
    exact fo_none
  | k + 1 => by
    intro L x1 x2 x3 x4 x5 z hz 
    show Fo Prod.snd (pf [1] []) z0 (qb_X13_linking K (q_X13_linking K k) L x1 x2 x3 x4 x5 z)
    unfold qb_X13_linking
    split
    · exact fb_X13_linking_0 (fq_X13_linking k) hz 
    · exact fb_X13_linking_1 (fq_X13_linking k) hz 
    · exact fb_X13_linking_2 (fq_X13_linking k) hz 
    · exact fb_X13_linking_3 (fq_X13_linking k) hz 
    · exact fo_none
theorem ff_X13_linking {K : Nat} {x1 : Int32} {x2 : Int32} {x3 : Int32} {z : ow_MS}  : Fo Prod.snd (pf [1] []) z (qe_X13_linking K x1 x2 x3 z) := fq_X13_linking K 0 _ _ _ _ _ z fr_rf 
theorem fb_X13_isSame_0 {K : Nat} {z0 z : ow_MS}  {go : Nat → Int32 → Int32 → Int32 → Nat → Nat → ow_MS → Option (Int32 × ow_MS)} {x1 : Int32} {x3 : Int32} {x4 : Int32} {r0 : Nat} {r2 : Nat}  (hgo : ∀ (L : Nat) (x1 : Int32) (x3 : Int32) (x4 : Int32) (r0 : Nat) (r2 : Nat) (z : ow_MS), fr (pf [] []) z0 z → Fo Prod.snd (pf [] []) z0 (go L x1 x3 x4 r0 r2 z)) (hz : fr (pf [] []) z0 z)  : Fo Prod.snd (pf [] []) z0 (qm_X13_isSame_0 K go x1 x3 x4 r0 r2 z) := by
  unfold qm_X13_isSame_0
  exact (hgo 1 _ _ _ _ _ z hz)
theorem fb_X13_isSame_1 {K : Nat} {z0 z : ow_MS}  {go : Nat → Int32 → Int32 → Int32 → Nat → Nat → ow_MS → Option (Int32 × ow_MS)} {x1 : Int32} {x3 : Int32} {x4 : Int32} {r0 : Nat} {r2 : Nat}  (hgo : ∀ (L : Nat) (x1 : Int32) (x3 : Int32) (x4 : Int32) (r0 : Nat) (r2 : Nat) (z : ow_MS), fr (pf [] []) z0 z → Fo Prod.snd (pf [] []) z0 (go L x1 x3 x4 r0 r2 z)) (hz : fr (pf [] []) z0 z)  : Fo Prod.snd (pf [] []) z0 (qm_X13_isSame_1 K go x1 x3 x4 r0 r2 z) := by
  unfold qm_X13_isSame_1
  exact (fo_rdI (fun v1 => (fo_if (fo_okZ (fo_some hz)) (fo_rdI (fun v2 => (fo_rdI (fun v3 => (fo_if (hgo 1 _ _ _ _ _ z hz) (fo_okZ (fo_some hz))))))))))
theorem fq_X13_isSame {K : Nat} {z0 : ow_MS}   : ∀ (k L : Nat) (x1 : Int32) (x3 : Int32) (x4 : Int32) (r0 : Nat) (r2 : Nat) (z : ow_MS), fr (pf [] []) z0 z → Fo Prod.snd (pf [] []) z0 (q_X13_isSame K k L x1 x3 x4 r0 r2 z)
  | 0 => by
    intros
    exact fo_none
  | k + 1 => by
    intro L x1 x3 x4 r0 r2 z hz 
    show Fo Prod.snd (pf [] []) z0 (qb_X13_isSame K (q_X13_isSame K k) L x1 x3 x4 r0 r2 z)
    unfold qb_X13_isSame
    split
    · exact fb_X13_isSame_0 (fq_X13_isSame k) hz 
    · exact fb_X13_isSame_1 (fq_X13_isSame k) hz 
    · exact fo_none
theorem ff_X13_isSame {K : Nat} {r0 : Nat} {x1 : Int32} {r2 : Nat} {x3 : Int32} {z : ow_MS}  : Fo Prod.snd (pf [] []) z (qe_X13_isSame K r0 x1 r2 x3 z) := fq_X13_isSame K 0 _ _ _ _ _ z fr_rf 
end
section
/-! 99zzzzzzzzzzzzib.fo1 -/
/-! frames of the reference, on -/
theorem ff_X13_alike {K : Nat} {x1 : Int32} {x2 : Int32} {z : ow_MS}  : Fo Prod.snd (pf [1] []) z (qe_X13_alike K x1 x2 z) := by
  unfold qe_X13_alike qm_X13_alike_0
  exact (fo_wrF (Or.inl (by decide)) fr_rf (fun z1 h_z1 => (fo_cs1 (ff_X13_has) (pf_sub (by decide) pf_0) h_z1 (fun v3 z2 h_z2 => (fo_if (fo_okZ (fo_some h_z2)) (fo_cs1 (ff_X13_has) (pf_sub (by decide) pf_0) h_z2 (fun v5 z4 h_z4 => (fo_if (fo_okZ (fo_some h_z4)) (fo_cs1 (ff_X13_isSame) (pf_sub (by decide) pf_0) h_z4 (fun v7 z6 h_z6 => (fo_if (fo_okZ (fo_some h_z6)) (fo_okZ (fo_some h_z6)))))))))))))
theorem fb_X13_mirror_0 {K : Nat} {z0 z : ow_MS}  {go : Nat → Int32 → Int32 → ow_MS → Option (Int32 × ow_MS)} {x1 : Int32} {x2 : Int32}  (hgo : ∀ (L : Nat) (x1 : Int32) (x2 : Int32) (z : ow_MS), fr (pf [1, 2, 3, 4, 5, 6, 7, 8, 9, 12] []) z0 z → Fo Prod.snd (pf [1, 2, 3, 4, 5, 6, 7, 8, 9, 12] []) z0 (go L x1 x2 z)) (hz : fr (pf [1, 2, 3, 4, 5, 6, 7, 8, 9, 12] []) z0 z)  : Fo Prod.snd (pf [1, 2, 3, 4, 5, 6, 7, 8, 9, 12] []) z0 (qm_X13_mirror_0 K go x1 x2 z) := by
  unfold qm_X13_mirror_0
  exact (fo_wrF (Or.inl (by decide)) hz (fun z1 h_z1 => (fo_cs1 (ff_X13_has) (pf_sub (by decide) pf_0) h_z1 (fun v3 z2 h_z2 => (fo_if (fo_cs1 (ff_X13_fails) (pf_sub (by decide) pf_0) h_z2 (fun v10 z9 h_z9 => (fo_some h_z9))) (fo_cs1 (ff_X13_free) (pf_sub (by decide) pf_0) h_z2 (fun v5 z4 h_z4 => (fo_if (fo_cs1 (ff_X13_fails) (pf_sub (by decide) pf_0) h_z4 (fun v8 z7 h_z7 => (fo_some h_z7))) (fo_cs0 (ff_X13_open (by first | omega | decide)) (pf_sub (by decide) pf_0) h_z4 (fun z6 h_z6 => (hgo 1 _ _ z6 h_z6)))))))))))
theorem fb_X13_mirror_1 {K : Nat} {z0 z : ow_MS}  {go : Nat → Int32 → Int32 → ow_MS → Option (Int32 × ow_MS)} {x1 : Int32} {x2 : Int32}  (hgo : ∀ (L : Nat) (x1 : Int32) (x2 : Int32) (z : ow_MS), fr (pf [1, 2, 3, 4, 5, 6, 7, 8, 9, 12] []) z0 z → Fo Prod.snd (pf [1, 2, 3, 4, 5, 6, 7, 8, 9, 12] []) z0 (go L x1 x2 z)) (hz : fr (pf [1, 2, 3, 4, 5, 6, 7, 8, 9, 12] []) z0 z)  : Fo Prod.snd (pf [1, 2, 3, 4, 5, 6, 7, 8, 9, 12] []) z0 (qm_X13_mirror_1 K go x1 x2 z) := by
  unfold qm_X13_mirror_1
  exact (fo_rdF (fun v11 => (fo_if (hgo 2 _ _ z hz) (fo_rdI (fun v12 => (fo_wrI (Or.inr (Or.inr (by decide))) hz (fun z13 h_z13 => (hgo 1 _ _ z13 h_z13))))))))
theorem fb_X13_mirror_2 {K : Nat} {z0 z : ow_MS}  {go : Nat → Int32 → Int32 → ow_MS → Option (Int32 × ow_MS)} {x1 : Int32} {x2 : Int32}  (hgo : ∀ (L : Nat) (x1 : Int32) (x2 : Int32) (z : ow_MS), fr (pf [1, 2, 3, 4, 5, 6, 7, 8, 9, 12] []) z0 z → Fo Prod.snd (pf [1, 2, 3, 4, 5, 6, 7, 8, 9, 12] []) z0 (go L x1 x2 z)) (hz : fr (pf [1, 2, 3, 4, 5, 6, 7, 8, 9, 12] []) z0 z)  : Fo Prod.snd (pf [1, 2, 3, 4, 5, 6, 7, 8, 9, 12] []) z0 (qm_X13_mirror_2 K go x1 x2 z) := by
  unfold qm_X13_mirror_2
  exact (fo_if (fo_cs1 (ff_X13_keep) (pf_sub (by decide) pf_0) hz (fun v15 z14 h_z14 => (fo_some h_z14))) (fo_rdI (fun v16 => (fo_wrI (Or.inr (Or.inr (by decide))) hz (fun z17 h_z17 => (hgo 2 _ _ z17 h_z17))))))
theorem fq_X13_mirror {K : Nat} {z0 : ow_MS}   : ∀ (k L : Nat) (x1 : Int32) (x2 : Int32) (z : ow_MS), fr (pf [1, 2, 3, 4, 5, 6, 7, 8, 9, 12] []) z0 z → Fo Prod.snd (pf [1, 2, 3, 4, 5, 6, 7, 8, 9, 12] []) z0 (q_X13_mirror K k L x1 x2 z)
  | 0 => by
    intros
    exact fo_none
  | k + 1 => by
    intro L x1 x2 z hz 
    show Fo Prod.snd (pf [1, 2, 3, 4, 5, 6, 7, 8, 9, 12] []) z0 (qb_X13_mirror K (q_X13_mirror K k) L x1 x2 z)
    unfold qb_X13_mirror
    split
    · exact fb_X13_mirror_0 (fq_X13_mirror k) hz 
    · exact fb_X13_mirror_1 (fq_X13_mirror k) hz 
    · exact fb_X13_mirror_2 (fq_X13_mirror k) hz 
    · exact fo_none
theorem ff_X13_mirror {K : Nat} {x1 : Int32} {z : ow_MS}  : Fo Prod.snd (pf [1, 2, 3, 4, 5, 6, 7, 8, 9, 12] []) z (qe_X13_mirror K x1 z) := fq_X13_mirror K 0 _ _ z fr_rf 
theorem fb_X12_signsOf_0 {K : Nat} {z0 z : ow_MS}  {go : Nat → Int32 → Nat → Nat → ow_MS → Option ow_MS} {x2 : Int32} {r0 : Nat} {r1 : Nat}  (hgo : ∀ (L : Nat) (x2 : Int32) (r0 : Nat) (r1 : Nat) (z : ow_MS), fr (pf [] []) z0 z → (L = 0 ∨ L = 1 → 1000 ≤ r0) → (L = 0 ∨ L = 1 → 1000 ≤ r1) → Fo id (pf [] []) z0 (go L x2 r0 r1 z)) (hz : fr (pf [] []) z0 z) (hr0 : 1000 ≤ r0) (hr1 : 1000 ≤ r1) : Fo id (pf [] []) z0 (qm_X12_signsOf_0 K go x2 r0 r1 z) := by
  unfold qm_X12_signsOf_0
  exact (hgo 1 _ _ _ z hz (fun _ => (by first | omega | decide)) (fun _ => (by first | omega | decide)))
theorem fb_X12_signsOf_1 {K : Nat} {z0 z : ow_MS}  {go : Nat → Int32 → Nat → Nat → ow_MS → Option ow_MS} {x2 : Int32} {r0 : Nat} {r1 : Nat}  (hgo : ∀ (L : Nat) (x2 : Int32) (r0 : Nat) (r1 : Nat) (z : ow_MS), fr (pf [] []) z0 z → (L = 0 ∨ L = 1 → 1000 ≤ r0) → (L = 0 ∨ L = 1 → 1000 ≤ r1) → Fo id (pf [] []) z0 (go L x2 r0 r1 z)) (hz : fr (pf [] []) z0 z) (hr0 : 1000 ≤ r0) (hr1 : 1000 ≤ r1) : Fo id (pf [] []) z0 (qm_X12_signsOf_1 K go x2 r0 r1 z) := by
  unfold qm_X12_signsOf_1
  exact (fo_if (fo_some hz) (fo_rdI (fun v1 => (fo_wrI (Or.inr (Or.inr (by omega))) hz (fun z2 h_z2 => (hgo 1 _ _ _ z2 h_z2 (fun _ => (by first | omega | decide)) (fun _ => (by first | omega | decide))))))))
theorem fq_X12_signsOf {K : Nat} {z0 : ow_MS}   : ∀ (k L : Nat) (x2 : Int32) (r0 : Nat) (r1 : Nat) (z : ow_MS), fr (pf [] []) z0 z → (L = 0 ∨ L = 1 → 1000 ≤ r0) → (L = 0 ∨ L = 1 → 1000 ≤ r1) → Fo id (pf [] []) z0 (q_X12_signsOf K k L x2 r0 r1 z)
  | 0 => by
    intros
    exact fo_none
  | k + 1 => by
    intro L x2 r0 r1 z hz h9_r0 h9_r1
    show Fo id (pf [] []) z0 (qb_X12_signsOf K (q_X12_signsOf K k) L x2 r0 r1 z)
    unfold qb_X12_signsOf
    split
    · exact fb_X12_signsOf_0 (fq_X12_signsOf k) hz (h9_r0 (by decide)) (h9_r1 (by decide))
    · exact fb_X12_signsOf_1 (fq_X12_signsOf k) hz (h9_r0 (by decide)) (h9_r1 (by decide))
    · exact fo_none
theorem ff_X12_signsOf {K : Nat} {r0 : Nat} {r1 : Nat} {z : ow_MS} (hr0 : 1000 ≤ r0) (hr1 : 1000 ≤ r1) : Fo id (pf [] []) z (qe_X12_signsOf K r0 r1 z) := fq_X12_signsOf K 0 _ _ _ z fr_rf (fun _ => (by first | omega | decide)) (fun _ => (by first | omega | decide))
theorem fb_X13_reverse_0 {K : Nat} {z0 z : ow_MS}  {go : Nat → Int32 → Int32 → Int32 → Int32 → Int32 → Int32 → Int32 → ow_MS → Option (Int32 × ow_MS)} {x1 : Int32} {x2 : Int32} {x3 : Int32} {x4 : Int32} {x5 : Int32} {x6 : Int32} {t0 : Int32}  (hgo : ∀ (L : Nat) (x1 : Int32) (x2 : Int32) (x3 : Int32) (x4 : Int32) (x5 : Int32) (x6 : Int32) (t0 : Int32) (z : ow_MS), fr (pf [1, 2, 3, 4, 5, 6, 7, 8, 9, 12] []) z0 z → Fo Prod.snd (pf [1, 2, 3, 4, 5, 6, 7, 8, 9, 12] []) z0 (go L x1 x2 x3 x4 x5 x6 t0 z)) (hz : fr (pf [1, 2, 3, 4, 5, 6, 7, 8, 9, 12] []) z0 z)  : Fo Prod.snd (pf [1, 2, 3, 4, 5, 6, 7, 8, 9, 12] []) z0 (qm_X13_reverse_0 K go x1 x2 x3 x4 x5 x6 t0 z) := by
  unfold qm_X13_reverse_0
  exact (fo_wrF (Or.inl (by decide)) hz (fun z1 h_z1 => (fo_cs1 (ff_X13_has) (pf_sub (by decide) pf_0) h_z1 (fun v3 z2 h_z2 => (fo_if (fo_cs1 (ff_X13_fails) (pf_sub (by decide) pf_0) h_z2 (fun v13 z12 h_z12 => (fo_some h_z12))) (fo_cs0 (ff_X13_open (by first | omega | decide)) (pf_sub (by decide) pf_0) h_z2 (fun z4 h_z4 => (fo_if (hgo 1 _ _ _ _ _ _ _ z4 h_z4) (fo_rdF (fun v5 => (fo_if (fo_cs1 (ff_X13_free) (pf_sub (by decide) pf_0) h_z4 (fun v7 z6 h_z6 => (fo_if (fo_cs1 (ff_X13_fails) (pf_sub (by decide) pf_0) h_z6 (fun v11 z10 h_z10 => (fo_some h_z10))) (fo_cs0 (ff_X12_clear (by first | omega | decide)) (pf_sub (by decide) pf_0) h_z6 (fun z8 h_z8 => (fo_cs0 (ff_X12_signsOf (by first | omega | decide) (by first | omega | decide)) (pf_sub (by decide) pf_0) h_z8 (fun z9 h_z9 => (hgo 2 _ _ _ _ _ _ _ z9 h_z9)))))))) (hgo 1 _ _ _ _ _ _ _ z4 h_z4))))))))))))
theorem fb_X13_reverse_1 {K : Nat} {z0 z : ow_MS}  {go : Nat → Int32 → Int32 → Int32 → Int32 → Int32 → Int32 → Int32 → ow_MS → Option (Int32 × ow_MS)} {x1 : Int32} {x2 : Int32} {x3 : Int32} {x4 : Int32} {x5 : Int32} {x6 : Int32} {t0 : Int32}  (hgo : ∀ (L : Nat) (x1 : Int32) (x2 : Int32) (x3 : Int32) (x4 : Int32) (x5 : Int32) (x6 : Int32) (t0 : Int32) (z : ow_MS), fr (pf [1, 2, 3, 4, 5, 6, 7, 8, 9, 12] []) z0 z → Fo Prod.snd (pf [1, 2, 3, 4, 5, 6, 7, 8, 9, 12] []) z0 (go L x1 x2 x3 x4 x5 x6 t0 z)) (hz : fr (pf [1, 2, 3, 4, 5, 6, 7, 8, 9, 12] []) z0 z)  : Fo Prod.snd (pf [1, 2, 3, 4, 5, 6, 7, 8, 9, 12] []) z0 (qm_X13_reverse_1 K go x1 x2 x3 x4 x5 x6 t0 z) := by
  unfold qm_X13_reverse_1
  exact (fo_cs1 (ff_X13_fails) (pf_sub (by decide) pf_0) hz (fun v15 z14 h_z14 => (fo_some h_z14)))
theorem fb_X13_reverse_2 {K : Nat} {z0 z : ow_MS}  {go : Nat → Int32 → Int32 → Int32 → Int32 → Int32 → Int32 → Int32 → ow_MS → Option (Int32 × ow_MS)} {x1 : Int32} {x2 : Int32} {x3 : Int32} {x4 : Int32} {x5 : Int32} {x6 : Int32} {t0 : Int32}  (hgo : ∀ (L : Nat) (x1 : Int32) (x2 : Int32) (x3 : Int32) (x4 : Int32) (x5 : Int32) (x6 : Int32) (t0 : Int32) (z : ow_MS), fr (pf [1, 2, 3, 4, 5, 6, 7, 8, 9, 12] []) z0 z → Fo Prod.snd (pf [1, 2, 3, 4, 5, 6, 7, 8, 9, 12] []) z0 (go L x1 x2 x3 x4 x5 x6 t0 z)) (hz : fr (pf [1, 2, 3, 4, 5, 6, 7, 8, 9, 12] []) z0 z)  : Fo Prod.snd (pf [1, 2, 3, 4, 5, 6, 7, 8, 9, 12] []) z0 (qm_X13_reverse_2 K go x1 x2 x3 x4 x5 x6 t0 z) := by
  unfold qm_X13_reverse_2
  exact (fo_rdF (fun v16 => (fo_if (fo_cs1 (ff_X13_keep) (pf_sub (by decide) pf_0) hz (fun v18 z17 h_z17 => (fo_some h_z17))) (fo_if (hgo 3 _ _ _ _ _ _ _ z hz) (fo_if (hgo 3 _ _ _ _ _ _ _ z hz) (hgo 4 _ _ _ _ _ _ _ z hz))))))
theorem fb_X13_reverse_3 {K : Nat} {z0 z : ow_MS}  {go : Nat → Int32 → Int32 → Int32 → Int32 → Int32 → Int32 → Int32 → ow_MS → Option (Int32 × ow_MS)} {x1 : Int32} {x2 : Int32} {x3 : Int32} {x4 : Int32} {x5 : Int32} {x6 : Int32} {t0 : Int32}  (hgo : ∀ (L : Nat) (x1 : Int32) (x2 : Int32) (x3 : Int32) (x4 : Int32) (x5 : Int32) (x6 : Int32) (t0 : Int32) (z : ow_MS), fr (pf [1, 2, 3, 4, 5, 6, 7, 8, 9, 12] []) z0 z → Fo Prod.snd (pf [1, 2, 3, 4, 5, 6, 7, 8, 9, 12] []) z0 (go L x1 x2 x3 x4 x5 x6 t0 z)) (hz : fr (pf [1, 2, 3, 4, 5, 6, 7, 8, 9, 12] []) z0 z)  : Fo Prod.snd (pf [1, 2, 3, 4, 5, 6, 7, 8, 9, 12] []) z0 (qm_X13_reverse_3 K go x1 x2 x3 x4 x5 x6 t0 z) := by
  unfold qm_X13_reverse_3
  exact (hgo 4 _ _ _ _ _ _ _ z hz)
theorem fb_X13_reverse_4 {K : Nat} {z0 z : ow_MS}  {go : Nat → Int32 → Int32 → Int32 → Int32 → Int32 → Int32 → Int32 → ow_MS → Option (Int32 × ow_MS)} {x1 : Int32} {x2 : Int32} {x3 : Int32} {x4 : Int32} {x5 : Int32} {x6 : Int32} {t0 : Int32}  (hgo : ∀ (L : Nat) (x1 : Int32) (x2 : Int32) (x3 : Int32) (x4 : Int32) (x5 : Int32) (x6 : Int32) (t0 : Int32) (z : ow_MS), fr (pf [1, 2, 3, 4, 5, 6, 7, 8, 9, 12] []) z0 z → Fo Prod.snd (pf [1, 2, 3, 4, 5, 6, 7, 8, 9, 12] []) z0 (go L x1 x2 x3 x4 x5 x6 t0 z)) (hz : fr (pf [1, 2, 3, 4, 5, 6, 7, 8, 9, 12] []) z0 z)  : Fo Prod.snd (pf [1, 2, 3, 4, 5, 6, 7, 8, 9, 12] []) z0 (qm_X13_reverse_4 K go x1 x2 x3 x4 x5 x6 t0 z) := by
  unfold qm_X13_reverse_4
  exact (hgo 5 _ _ _ _ _ _ _ z hz)
theorem fb_X13_reverse_5 {K : Nat} {z0 z : ow_MS}  {go : Nat → Int32 → Int32 → Int32 → Int32 → Int32 → Int32 → Int32 → ow_MS → Option (Int32 × ow_MS)} {x1 : Int32} {x2 : Int32} {x3 : Int32} {x4 : Int32} {x5 : Int32} {x6 : Int32} {t0 : Int32}  (hgo : ∀ (L : Nat) (x1 : Int32) (x2 : Int32) (x3 : Int32) (x4 : Int32) (x5 : Int32) (x6 : Int32) (t0 : Int32) (z : ow_MS), fr (pf [1, 2, 3, 4, 5, 6, 7, 8, 9, 12] []) z0 z → Fo Prod.snd (pf [1, 2, 3, 4, 5, 6, 7, 8, 9, 12] []) z0 (go L x1 x2 x3 x4 x5 x6 t0 z)) (hz : fr (pf [1, 2, 3, 4, 5, 6, 7, 8, 9, 12] []) z0 z)  : Fo Prod.snd (pf [1, 2, 3, 4, 5, 6, 7, 8, 9, 12] []) z0 (qm_X13_reverse_5 K go x1 x2 x3 x4 x5 x6 t0 z) := by
  unfold qm_X13_reverse_5
  exact (fo_rdI (fun v19 => (fo_rdI (fun v20 => (fo_if (fo_cs0 (ff_X12_end (by first | omega | decide)) (pf_sub (by decide) pf_0) hz (fun z21 h_z21 => (hgo 2 _ _ _ _ _ _ _ z21 h_z21))) (fo_if (fo_rdI (fun v22 => (hgo 6 _ _ _ _ _ _ _ z hz))) (fo_rdI (fun v23 => (hgo 6 _ _ _ _ _ _ _ z hz)))))))))
theorem fb_X13_reverse_6 {K : Nat} {z0 z : ow_MS}  {go : Nat → Int32 → Int32 → Int32 → Int32 → Int32 → Int32 → Int32 → ow_MS → Option (Int32 × ow_MS)} {x1 : Int32} {x2 : Int32} {x3 : Int32} {x4 : Int32} {x5 : Int32} {x6 : Int32} {t0 : Int32}  (hgo : ∀ (L : Nat) (x1 : Int32) (x2 : Int32) (x3 : Int32) (x4 : Int32) (x5 : Int32) (x6 : Int32) (t0 : Int32) (z : ow_MS), fr (pf [1, 2, 3, 4, 5, 6, 7, 8, 9, 12] []) z0 z → Fo Prod.snd (pf [1, 2, 3, 4, 5, 6, 7, 8, 9, 12] []) z0 (go L x1 x2 x3 x4 x5 x6 t0 z)) (hz : fr (pf [1, 2, 3, 4, 5, 6, 7, 8, 9, 12] []) z0 z)  : Fo Prod.snd (pf [1, 2, 3, 4, 5, 6, 7, 8, 9, 12] []) z0 (qm_X13_reverse_6 K go x1 x2 x3 x4 x5 x6 t0 z) := by
  unfold qm_X13_reverse_6
  exact (fo_rdI (fun v24 => (fo_rdI (fun v25 => (fo_cs0 (ff_X12_add (by first | omega | decide)) (pf_sub (by decide) pf_0) hz (fun z26 h_z26 => (fo_if (hgo 7 _ _ _ _ _ _ _ z26 h_z26) (fo_if (hgo 7 _ _ _ _ _ _ _ z26 h_z26) (fo_rdI (fun v27 => (fo_rdI (fun v28 => (fo_if (hgo 7 _ _ _ _ _ _ _ z26 h_z26) (fo_rdI (fun v29 => (fo_rdI (fun v30 => (fo_rdI (fun v31 => (fo_wrI (Or.inr (Or.inr (by decide))) h_z26 (fun z32 h_z32 => (hgo 7 _ _ _ _ _ _ _ z32 h_z32))))))))))))))))))))))
theorem fb_X13_reverse_7 {K : Nat} {z0 z : ow_MS}  {go : Nat → Int32 → Int32 → Int32 → Int32 → Int32 → Int32 → Int32 → ow_MS → Option (Int32 × ow_MS)} {x1 : Int32} {x2 : Int32} {x3 : Int32} {x4 : Int32} {x5 : Int32} {x6 : Int32} {t0 : Int32}  (hgo : ∀ (L : Nat) (x1 : Int32) (x2 : Int32) (x3 : Int32) (x4 : Int32) (x5 : Int32) (x6 : Int32) (t0 : Int32) (z : ow_MS), fr (pf [1, 2, 3, 4, 5, 6, 7, 8, 9, 12] []) z0 z → Fo Prod.snd (pf [1, 2, 3, 4, 5, 6, 7, 8, 9, 12] []) z0 (go L x1 x2 x3 x4 x5 x6 t0 z)) (hz : fr (pf [1, 2, 3, 4, 5, 6, 7, 8, 9, 12] []) z0 z)  : Fo Prod.snd (pf [1, 2, 3, 4, 5, 6, 7, 8, 9, 12] []) z0 (qm_X13_reverse_7 K go x1 x2 x3 x4 x5 x6 t0 z) := by
  unfold qm_X13_reverse_7
  exact (hgo 5 _ _ _ _ _ _ _ z hz)
theorem fq_X13_reverse {K : Nat} {z0 : ow_MS}   : ∀ (k L : Nat) (x1 : Int32) (x2 : Int32) (x3 : Int32) (x4 : Int32) (x5 : Int32) (x6 : Int32) (t0 : Int32) (z : ow_MS), fr (pf [1, 2, 3, 4, 5, 6, 7, 8, 9, 12] []) z0 z → Fo Prod.snd (pf [1, 2, 3, 4, 5, 6, 7, 8, 9, 12] []) z0 (q_X13_reverse K k L x1 x2 x3 x4 x5 x6 t0 z)
  | 0 => by
    intros
    exact fo_none
  | k + 1 => by
    intro L x1 x2 x3 x4 x5 x6 t0 z hz 
    show Fo Prod.snd (pf [1, 2, 3, 4, 5, 6, 7, 8, 9, 12] []) z0 (qb_X13_reverse K (q_X13_reverse K k) L x1 x2 x3 x4 x5 x6 t0 z)
    unfold qb_X13_reverse
    split
    · exact fb_X13_reverse_0 (fq_X13_reverse k) hz 
    · exact fb_X13_reverse_1 (fq_X13_reverse k) hz 
    · exact fb_X13_reverse_2 (fq_X13_reverse k) hz 
    · exact fb_X13_reverse_3 (fq_X13_reverse k) hz 
    · exact fb_X13_reverse_4 (fq_X13_reverse k) hz 
    · exact fb_X13_reverse_5 (fq_X13_reverse k) hz 
    · exact fb_X13_reverse_6 (fq_X13_reverse k) hz 
    · exact fb_X13_reverse_7 (fq_X13_reverse k) hz 
    · exact fo_none
theorem ff_X13_reverse {K : Nat} {x1 : Int32} {x2 : Int32} {z : ow_MS}  : Fo Prod.snd (pf [1, 2, 3, 4, 5, 6, 7, 8, 9, 12] []) z (qe_X13_reverse K x1 x2 z) := fq_X13_reverse K 0 _ _ _ _ _ _ _ z fr_rf 
theorem fb_X13_changeIn_0 {K : Nat} {z0 z : ow_MS}  {go : Nat → Int32 → Int32 → Nat → ow_MS → Option ow_MS} {x1 : Int32} {x2 : Int32} {r0 : Nat}  (hgo : ∀ (L : Nat) (x1 : Int32) (x2 : Int32) (r0 : Nat) (z : ow_MS), fr (pf [] []) z0 z → (L = 0 ∨ L = 1 ∨ L = 2 → 1000 ≤ r0) → Fo id (pf [] []) z0 (go L x1 x2 r0 z)) (hz : fr (pf [] []) z0 z) (hr0 : 1000 ≤ r0) : Fo id (pf [] []) z0 (qm_X13_changeIn_0 K go x1 x2 r0 z) := by
  unfold qm_X13_changeIn_0
  exact (hgo 1 _ _ _ z hz (fun _ => (by first | omega | decide)))
theorem fb_X13_changeIn_1 {K : Nat} {z0 z : ow_MS}  {go : Nat → Int32 → Int32 → Nat → ow_MS → Option ow_MS} {x1 : Int32} {x2 : Int32} {r0 : Nat}  (hgo : ∀ (L : Nat) (x1 : Int32) (x2 : Int32) (r0 : Nat) (z : ow_MS), fr (pf [] []) z0 z → (L = 0 ∨ L = 1 ∨ L = 2 → 1000 ≤ r0) → Fo id (pf [] []) z0 (go L x1 x2 r0 z)) (hz : fr (pf [] []) z0 z) (hr0 : 1000 ≤ r0) : Fo id (pf [] []) z0 (qm_X13_changeIn_1 K go x1 x2 r0 z) := by
  unfold qm_X13_changeIn_1
  exact (fo_rdF (fun v1 => (fo_if (fo_rdI (fun v2 => (fo_wrI (Or.inr (Or.inr (by omega))) hz (fun z3 h_z3 => (fo_some h_z3))))) (fo_rdI (fun v4 => (fo_if (fo_rdI (fun v5 => (fo_wrI (Or.inr (Or.inr (by omega))) hz (fun z6 h_z6 => (hgo 2 _ _ _ z6 h_z6 (fun _ => (by first | omega | decide))))))) (hgo 2 _ _ _ z hz (fun _ => (by first | omega | decide)))))))))
theorem fb_X13_changeIn_2 {K : Nat} {z0 z : ow_MS}  {go : Nat → Int32 → Int32 → Nat → ow_MS → Option ow_MS} {x1 : Int32} {x2 : Int32} {r0 : Nat}  (hgo : ∀ (L : Nat) (x1 : Int32) (x2 : Int32) (r0 : Nat) (z : ow_MS), fr (pf [] []) z0 z → (L = 0 ∨ L = 1 ∨ L = 2 → 1000 ≤ r0) → Fo id (pf [] []) z0 (go L x1 x2 r0 z)) (hz : fr (pf [] []) z0 z) (hr0 : 1000 ≤ r0) : Fo id (pf [] []) z0 (qm_X13_changeIn_2 K go x1 x2 r0 z) := by
  unfold qm_X13_changeIn_2
  exact (hgo 1 _ _ _ z hz (fun _ => (by first | omega | decide)))
theorem fq_X13_changeIn {K : Nat} {z0 : ow_MS}   : ∀ (k L : Nat) (x1 : Int32) (x2 : Int32) (r0 : Nat) (z : ow_MS), fr (pf [] []) z0 z → (L = 0 ∨ L = 1 ∨ L = 2 → 1000 ≤ r0) → Fo id (pf [] []) z0 (q_X13_changeIn K k L x1 x2 r0 z)
  | 0 => by
    intros
    exact fo_none
  | k + 1 => by
    intro L x1 x2 r0 z hz h9_r0
    show Fo id (pf [] []) z0 (qb_X13_changeIn K (q_X13_changeIn K k) L x1 x2 r0 z)
    unfold qb_X13_changeIn
    split
    · exact fb_X13_changeIn_0 (fq_X13_changeIn k) hz (h9_r0 (by decide))
    · exact fb_X13_changeIn_1 (fq_X13_changeIn k) hz (h9_r0 (by decide))
    · exact fb_X13_changeIn_2 (fq_X13_changeIn k) hz (h9_r0 (by decide))
    · exact fo_none
theorem ff_X13_changeIn {K : Nat} {r0 : Nat} {x1 : Int32} {z : ow_MS} (hr0 : 1000 ≤ r0) : Fo id (pf [] []) z (qe_X13_changeIn K r0 x1 z) := fq_X13_changeIn K 0 _ _ _ z fr_rf (fun _ => (by first | omega | decide))
theorem fb_X13_change_0 {K : Nat} {z0 z : ow_MS}  {go : Nat → Int32 → Int32 → ow_MS → Option (Int32 × ow_MS)} {x1 : Int32} {x2 : Int32}  (hgo : ∀ (L : Nat) (x1 : Int32) (x2 : Int32) (z : ow_MS), fr (pf [1, 2, 3, 4, 5, 6, 7, 8, 9, 12] []) z0 z → Fo Prod.snd (pf [1, 2, 3, 4, 5, 6, 7, 8, 9, 12] []) z0 (go L x1 x2 z)) (hz : fr (pf [1, 2, 3, 4, 5, 6, 7, 8, 9, 12] []) z0 z)  : Fo Prod.snd (pf [1, 2, 3, 4, 5, 6, 7, 8, 9, 12] []) z0 (qm_X13_change_0 K go x1 x2 z) := by
  unfold qm_X13_change_0
  exact (fo_wrF (Or.inl (by decide)) hz (fun z1 h_z1 => (fo_cs1 (ff_X13_has) (pf_sub (by decide) pf_0) h_z1 (fun v3 z2 h_z2 => (fo_if (fo_cs1 (ff_X13_fails) (pf_sub (by decide) pf_0) h_z2 (fun v14 z13 h_z13 => (fo_some h_z13))) (fo_cs0 (ff_X13_open (by first | omega | decide)) (pf_sub (by decide) pf_0) h_z2 (fun z4 h_z4 => (fo_if (hgo 1 _ _ z4 h_z4) (fo_rdF (fun v5 => (fo_nzI (fo_if (fo_cs1 (ff_X13_free) (pf_sub (by decide) pf_0) h_z4 (fun v7 z6 h_z6 => (fo_if (fo_cs1 (ff_X13_fails) (pf_sub (by decide) pf_0) h_z6 (fun v12 z11 h_z11 => (fo_some h_z11))) (fo_cs0 (ff_X13_changeIn (by first | omega | decide)) (pf_sub (by decide) pf_0) h_z6 (fun z8 h_z8 => (fo_cs1 (ff_X13_keep) (pf_sub (by decide) pf_0) h_z8 (fun v10 z9 h_z9 => (fo_some h_z9)))))))) (hgo 1 _ _ z4 h_z4)))))))))))))
theorem fb_X13_change_1 {K : Nat} {z0 z : ow_MS}  {go : Nat → Int32 → Int32 → ow_MS → Option (Int32 × ow_MS)} {x1 : Int32} {x2 : Int32}  (hgo : ∀ (L : Nat) (x1 : Int32) (x2 : Int32) (z : ow_MS), fr (pf [1, 2, 3, 4, 5, 6, 7, 8, 9, 12] []) z0 z → Fo Prod.snd (pf [1, 2, 3, 4, 5, 6, 7, 8, 9, 12] []) z0 (go L x1 x2 z)) (hz : fr (pf [1, 2, 3, 4, 5, 6, 7, 8, 9, 12] []) z0 z)  : Fo Prod.snd (pf [1, 2, 3, 4, 5, 6, 7, 8, 9, 12] []) z0 (qm_X13_change_1 K go x1 x2 z) := by
  unfold qm_X13_change_1
  exact (fo_cs1 (ff_X13_fails) (pf_sub (by decide) pf_0) hz (fun v16 z15 h_z15 => (fo_some h_z15)))
theorem fq_X13_change {K : Nat} {z0 : ow_MS}   : ∀ (k L : Nat) (x1 : Int32) (x2 : Int32) (z : ow_MS), fr (pf [1, 2, 3, 4, 5, 6, 7, 8, 9, 12] []) z0 z → Fo Prod.snd (pf [1, 2, 3, 4, 5, 6, 7, 8, 9, 12] []) z0 (q_X13_change K k L x1 x2 z)
  | 0 => by
    intros
    exact fo_none
  | k + 1 => by
    intro L x1 x2 z hz 
    show Fo Prod.snd (pf [1, 2, 3, 4, 5, 6, 7, 8, 9, 12] []) z0 (qb_X13_change K (q_X13_change K k) L x1 x2 z)
    unfold qb_X13_change
    split
    · exact fb_X13_change_0 (fq_X13_change k) hz 
    · exact fb_X13_change_1 (fq_X13_change k) hz 
    · exact fo_none
theorem ff_X13_change {K : Nat} {x1 : Int32} {x2 : Int32} {z : ow_MS}  : Fo Prod.snd (pf [1, 2, 3, 4, 5, 6, 7, 8, 9, 12] []) z (qe_X13_change K x1 x2 z) := fq_X13_change K 0 _ _ z fr_rf 
theorem fb_X13_smoothIn_0 {K : Nat} {z0 z : ow_MS}  {go : Nat → Int32 → Int32 → Int32 → Int32 → Int32 → Int32 → Int32 → Nat → Nat → Int32 → ow_MS → Option ow_MS} {x1 : Int32} {x2 : Int32} {x3 : Int32} {x5 : Int32} {x6 : Int32} {x7 : Int32} {x8 : Int32} {r0 : Nat} {r4 : Nat} {t0 : Int32}  (hgo : ∀ (L : Nat) (x1 : Int32) (x2 : Int32) (x3 : Int32) (x5 : Int32) (x6 : Int32) (x7 : Int32) (x8 : Int32) (r0 : Nat) (r4 : Nat) (t0 : Int32) (z : ow_MS), fr (pf [] []) z0 z → (L = 0 ∨ L = 1 ∨ L = 2 ∨ L = 3 ∨ L = 4 ∨ L = 5 ∨ L = 6 ∨ L = 7 ∨ L = 8 ∨ L = 9 ∨ L = 10 ∨ L = 11 ∨ L = 12 ∨ L = 13 → 1000 ≤ r0) → (L = 0 ∨ L = 1 ∨ L = 2 ∨ L = 3 ∨ L = 4 ∨ L = 5 ∨ L = 6 ∨ L = 7 ∨ L = 8 ∨ L = 9 ∨ L = 10 ∨ L = 11 ∨ L = 12 ∨ L = 13 → 1000 ≤ r4) → Fo id (pf [] []) z0 (go L x1 x2 x3 x5 x6 x7 x8 r0 r4 t0 z)) (hz : fr (pf [] []) z0 z) (hr0 : 1000 ≤ r0) (hr4 : 1000 ≤ r4) : Fo id (pf [] []) z0 (qm_X13_smoothIn_0 K go x1 x2 x3 x5 x6 x7 x8 r0 r4 t0 z) := by
  unfold qm_X13_smoothIn_0
  exact (fo_cs0 (ff_X12_clear (by first | omega | decide)) (pf_sub (by decide) pf_0) hz (fun z1 h_z1 => (fo_cs0 (ff_X12_signsOf (by first | omega | decide) (by first | omega | decide)) (pf_sub (by decide) pf_0) h_z1 (fun z2 h_z2 => (fo_rdI (fun v3 => (fo_if (hgo 1 _ _ _ _ _ _ _ _ _ _ z2 h_z2 (fun _ => (by first | omega | decide)) (fun _ => (by first | omega | decide))) (hgo 1 _ _ _ _ _ _ _ _ _ _ z2 h_z2 (fun _ => (by first | omega | decide)) (fun _ => (by first | omega | decide))))))))))
theorem fb_X13_smoothIn_1 {K : Nat} {z0 z : ow_MS}  {go : Nat → Int32 → Int32 → Int32 → Int32 → Int32 → Int32 → Int32 → Nat → Nat → Int32 → ow_MS → Option ow_MS} {x1 : Int32} {x2 : Int32} {x3 : Int32} {x5 : Int32} {x6 : Int32} {x7 : Int32} {x8 : Int32} {r0 : Nat} {r4 : Nat} {t0 : Int32}  (hgo : ∀ (L : Nat) (x1 : Int32) (x2 : Int32) (x3 : Int32) (x5 : Int32) (x6 : Int32) (x7 : Int32) (x8 : Int32) (r0 : Nat) (r4 : Nat) (t0 : Int32) (z : ow_MS), fr (pf [] []) z0 z → (L = 0 ∨ L = 1 ∨ L = 2 ∨ L = 3 ∨ L = 4 ∨ L = 5 ∨ L = 6 ∨ L = 7 ∨ L = 8 ∨ L = 9 ∨ L = 10 ∨ L = 11 ∨ L = 12 ∨ L = 13 → 1000 ≤ r0) → (L = 0 ∨ L = 1 ∨ L = 2 ∨ L = 3 ∨ L = 4 ∨ L = 5 ∨ L = 6 ∨ L = 7 ∨ L = 8 ∨ L = 9 ∨ L = 10 ∨ L = 11 ∨ L = 12 ∨ L = 13 → 1000 ≤ r4) → Fo id (pf [] []) z0 (go L x1 x2 x3 x5 x6 x7 x8 r0 r4 t0 z)) (hz : fr (pf [] []) z0 z) (hr0 : 1000 ≤ r0) (hr4 : 1000 ≤ r4) : Fo id (pf [] []) z0 (qm_X13_smoothIn_1 K go x1 x2 x3 x5 x6 x7 x8 r0 r4 t0 z) := by
  unfold qm_X13_smoothIn_1
  exact (hgo 2 _ _ _ _ _ _ _ _ _ _ z hz (fun _ => (by first | omega | decide)) (fun _ => (by first | omega | decide)))
theorem fb_X13_smoothIn_2 {K : Nat} {z0 z : ow_MS}  {go : Nat → Int32 → Int32 → Int32 → Int32 → Int32 → Int32 → Int32 → Nat → Nat → Int32 → ow_MS → Option ow_MS} {x1 : Int32} {x2 : Int32} {x3 : Int32} {x5 : Int32} {x6 : Int32} {x7 : Int32} {x8 : Int32} {r0 : Nat} {r4 : Nat} {t0 : Int32}  (hgo : ∀ (L : Nat) (x1 : Int32) (x2 : Int32) (x3 : Int32) (x5 : Int32) (x6 : Int32) (x7 : Int32) (x8 : Int32) (r0 : Nat) (r4 : Nat) (t0 : Int32) (z : ow_MS), fr (pf [] []) z0 z → (L = 0 ∨ L = 1 ∨ L = 2 ∨ L = 3 ∨ L = 4 ∨ L = 5 ∨ L = 6 ∨ L = 7 ∨ L = 8 ∨ L = 9 ∨ L = 10 ∨ L = 11 ∨ L = 12 ∨ L = 13 → 1000 ≤ r0) → (L = 0 ∨ L = 1 ∨ L = 2 ∨ L = 3 ∨ L = 4 ∨ L = 5 ∨ L = 6 ∨ L = 7 ∨ L = 8 ∨ L = 9 ∨ L = 10 ∨ L = 11 ∨ L = 12 ∨ L = 13 → 1000 ≤ r4) → Fo id (pf [] []) z0 (go L x1 x2 x3 x5 x6 x7 x8 r0 r4 t0 z)) (hz : fr (pf [] []) z0 z) (hr0 : 1000 ≤ r0) (hr4 : 1000 ≤ r4) : Fo id (pf [] []) z0 (qm_X13_smoothIn_2 K go x1 x2 x3 x5 x6 x7 x8 r0 r4 t0 z) := by
  unfold qm_X13_smoothIn_2
  exact (fo_rdF (fun v4 => (fo_if (fo_if (fo_some hz) (hgo 13 _ _ _ _ _ _ _ _ _ _ z hz (fun _ => (by first | omega | decide)) (fun _ => (by first | omega | decide)))) (fo_if (fo_rdI (fun v7 => (hgo 3 _ _ _ _ _ _ _ _ _ _ z hz (fun _ => (by first | omega | decide)) (fun _ => (by first | omega | decide))))) (fo_if (fo_rdI (fun v5 => (fo_if (hgo 10 _ _ _ _ _ _ _ _ _ _ z hz (fun _ => (by first | omega | decide)) (fun _ => (by first | omega | decide))) (fo_rdI (fun v6 => (fo_if (hgo 12 _ _ _ _ _ _ _ _ _ _ z hz (fun _ => (by first | omega | decide)) (fun _ => (by first | omega | decide))) (hgo 10 _ _ _ _ _ _ _ _ _ _ z hz (fun _ => (by first | omega | decide)) (fun _ => (by first | omega | decide))))))))) (hgo 10 _ _ _ _ _ _ _ _ _ _ z hz (fun _ => (by first | omega | decide)) (fun _ => (by first | omega | decide))))))))
theorem fb_X13_smoothIn_3 {K : Nat} {z0 z : ow_MS}  {go : Nat → Int32 → Int32 → Int32 → Int32 → Int32 → Int32 → Int32 → Nat → Nat → Int32 → ow_MS → Option ow_MS} {x1 : Int32} {x2 : Int32} {x3 : Int32} {x5 : Int32} {x6 : Int32} {x7 : Int32} {x8 : Int32} {r0 : Nat} {r4 : Nat} {t0 : Int32}  (hgo : ∀ (L : Nat) (x1 : Int32) (x2 : Int32) (x3 : Int32) (x5 : Int32) (x6 : Int32) (x7 : Int32) (x8 : Int32) (r0 : Nat) (r4 : Nat) (t0 : Int32) (z : ow_MS), fr (pf [] []) z0 z → (L = 0 ∨ L = 1 ∨ L = 2 ∨ L = 3 ∨ L = 4 ∨ L = 5 ∨ L = 6 ∨ L = 7 ∨ L = 8 ∨ L = 9 ∨ L = 10 ∨ L = 11 ∨ L = 12 ∨ L = 13 → 1000 ≤ r0) → (L = 0 ∨ L = 1 ∨ L = 2 ∨ L = 3 ∨ L = 4 ∨ L = 5 ∨ L = 6 ∨ L = 7 ∨ L = 8 ∨ L = 9 ∨ L = 10 ∨ L = 11 ∨ L = 12 ∨ L = 13 → 1000 ≤ r4) → Fo id (pf [] []) z0 (go L x1 x2 x3 x5 x6 x7 x8 r0 r4 t0 z)) (hz : fr (pf [] []) z0 z) (hr0 : 1000 ≤ r0) (hr4 : 1000 ≤ r4) : Fo id (pf [] []) z0 (qm_X13_smoothIn_3 K go x1 x2 x3 x5 x6 x7 x8 r0 r4 t0 z) := by
  unfold qm_X13_smoothIn_3
  exact (fo_if (fo_if (hgo 5 _ _ _ _ _ _ _ _ _ _ z hz (fun _ => (by first | omega | decide)) (fun _ => (by first | omega | decide))) (hgo 4 _ _ _ _ _ _ _ _ _ _ z hz (fun _ => (by first | omega | decide)) (fun _ => (by first | omega | decide)))) (fo_rdI (fun v8 => (fo_rdI (fun v9 => (fo_cs0 (ff_X12_add (by first | omega | decide)) (pf_sub (by decide) pf_0) hz (fun z10 h_z10 => (hgo 3 _ _ _ _ _ _ _ _ _ _ z10 h_z10 (fun _ => (by first | omega | decide)) (fun _ => (by first | omega | decide))))))))))
theorem fb_X13_smoothIn_4 {K : Nat} {z0 z : ow_MS}  {go : Nat → Int32 → Int32 → Int32 → Int32 → Int32 → Int32 → Int32 → Nat → Nat → Int32 → ow_MS → Option ow_MS} {x1 : Int32} {x2 : Int32} {x3 : Int32} {x5 : Int32} {x6 : Int32} {x7 : Int32} {x8 : Int32} {r0 : Nat} {r4 : Nat} {t0 : Int32}  (hgo : ∀ (L : Nat) (x1 : Int32) (x2 : Int32) (x3 : Int32) (x5 : Int32) (x6 : Int32) (x7 : Int32) (x8 : Int32) (r0 : Nat) (r4 : Nat) (t0 : Int32) (z : ow_MS), fr (pf [] []) z0 z → (L = 0 ∨ L = 1 ∨ L = 2 ∨ L = 3 ∨ L = 4 ∨ L = 5 ∨ L = 6 ∨ L = 7 ∨ L = 8 ∨ L = 9 ∨ L = 10 ∨ L = 11 ∨ L = 12 ∨ L = 13 → 1000 ≤ r0) → (L = 0 ∨ L = 1 ∨ L = 2 ∨ L = 3 ∨ L = 4 ∨ L = 5 ∨ L = 6 ∨ L = 7 ∨ L = 8 ∨ L = 9 ∨ L = 10 ∨ L = 11 ∨ L = 12 ∨ L = 13 → 1000 ≤ r4) → Fo id (pf [] []) z0 (go L x1 x2 x3 x5 x6 x7 x8 r0 r4 t0 z)) (hz : fr (pf [] []) z0 z) (hr0 : 1000 ≤ r0) (hr4 : 1000 ≤ r4) : Fo id (pf [] []) z0 (qm_X13_smoothIn_4 K go x1 x2 x3 x5 x6 x7 x8 r0 r4 t0 z) := by
  unfold qm_X13_smoothIn_4
  exact (fo_rdI (fun v11 => (fo_if (hgo 9 _ _ _ _ _ _ _ _ _ _ z hz (fun _ => (by first | omega | decide)) (fun _ => (by first | omega | decide))) (fo_rdI (fun v12 => (fo_rdI (fun v13 => (fo_cs0 (ff_X12_add (by first | omega | decide)) (pf_sub (by decide) pf_0) hz (fun z14 h_z14 => (hgo 4 _ _ _ _ _ _ _ _ _ _ z14 h_z14 (fun _ => (by first | omega | decide)) (fun _ => (by first | omega | decide))))))))))))
theorem fb_X13_smoothIn_5 {K : Nat} {z0 z : ow_MS}  {go : Nat → Int32 → Int32 → Int32 → Int32 → Int32 → Int32 → Int32 → Nat → Nat → Int32 → ow_MS → Option ow_MS} {x1 : Int32} {x2 : Int32} {x3 : Int32} {x5 : Int32} {x6 : Int32} {x7 : Int32} {x8 : Int32} {r0 : Nat} {r4 : Nat} {t0 : Int32}  (hgo : ∀ (L : Nat) (x1 : Int32) (x2 : Int32) (x3 : Int32) (x5 : Int32) (x6 : Int32) (x7 : Int32) (x8 : Int32) (r0 : Nat) (r4 : Nat) (t0 : Int32) (z : ow_MS), fr (pf [] []) z0 z → (L = 0 ∨ L = 1 ∨ L = 2 ∨ L = 3 ∨ L = 4 ∨ L = 5 ∨ L = 6 ∨ L = 7 ∨ L = 8 ∨ L = 9 ∨ L = 10 ∨ L = 11 ∨ L = 12 ∨ L = 13 → 1000 ≤ r0) → (L = 0 ∨ L = 1 ∨ L = 2 ∨ L = 3 ∨ L = 4 ∨ L = 5 ∨ L = 6 ∨ L = 7 ∨ L = 8 ∨ L = 9 ∨ L = 10 ∨ L = 11 ∨ L = 12 ∨ L = 13 → 1000 ≤ r4) → Fo id (pf [] []) z0 (go L x1 x2 x3 x5 x6 x7 x8 r0 r4 t0 z)) (hz : fr (pf [] []) z0 z) (hr0 : 1000 ≤ r0) (hr4 : 1000 ≤ r4) : Fo id (pf [] []) z0 (qm_X13_smoothIn_5 K go x1 x2 x3 x5 x6 x7 x8 r0 r4 t0 z) := by
  unfold qm_X13_smoothIn_5
  exact (fo_rdI (fun v15 => (fo_if (hgo 6 _ _ _ _ _ _ _ _ _ _ z hz (fun _ => (by first | omega | decide)) (fun _ => (by first | omega | decide))) (hgo 5 _ _ _ _ _ _ _ _ _ _ z hz (fun _ => (by first | omega | decide)) (fun _ => (by first | omega | decide))))))
theorem fb_X13_smoothIn_6 {K : Nat} {z0 z : ow_MS}  {go : Nat → Int32 → Int32 → Int32 → Int32 → Int32 → Int32 → Int32 → Nat → Nat → Int32 → ow_MS → Option ow_MS} {x1 : Int32} {x2 : Int32} {x3 : Int32} {x5 : Int32} {x6 : Int32} {x7 : Int32} {x8 : Int32} {r0 : Nat} {r4 : Nat} {t0 : Int32}  (hgo : ∀ (L : Nat) (x1 : Int32) (x2 : Int32) (x3 : Int32) (x5 : Int32) (x6 : Int32) (x7 : Int32) (x8 : Int32) (r0 : Nat) (r4 : Nat) (t0 : Int32) (z : ow_MS), fr (pf [] []) z0 z → (L = 0 ∨ L = 1 ∨ L = 2 ∨ L = 3 ∨ L = 4 ∨ L = 5 ∨ L = 6 ∨ L = 7 ∨ L = 8 ∨ L = 9 ∨ L = 10 ∨ L = 11 ∨ L = 12 ∨ L = 13 → 1000 ≤ r0) → (L = 0 ∨ L = 1 ∨ L = 2 ∨ L = 3 ∨ L = 4 ∨ L = 5 ∨ L = 6 ∨ L = 7 ∨ L = 8 ∨ L = 9 ∨ L = 10 ∨ L = 11 ∨ L = 12 ∨ L = 13 → 1000 ≤ r4) → Fo id (pf [] []) z0 (go L x1 x2 x3 x5 x6 x7 x8 r0 r4 t0 z)) (hz : fr (pf [] []) z0 z) (hr0 : 1000 ≤ r0) (hr4 : 1000 ≤ r4) : Fo id (pf [] []) z0 (qm_X13_smoothIn_6 K go x1 x2 x3 x5 x6 x7 x8 r0 r4 t0 z) := by
  unfold qm_X13_smoothIn_6
  exact (fo_rdI (fun v16 => (fo_if (fo_rdI (fun v17 => (hgo 7 _ _ _ _ _ _ _ _ _ _ z hz (fun _ => (by first | omega | decide)) (fun _ => (by first | omega | decide))))) (fo_rdI (fun v18 => (fo_rdI (fun v19 => (fo_cs0 (ff_X12_add (by first | omega | decide)) (pf_sub (by decide) pf_0) hz (fun z20 h_z20 => (hgo 6 _ _ _ _ _ _ _ _ _ _ z20 h_z20 (fun _ => (by first | omega | decide)) (fun _ => (by first | omega | decide))))))))))))
theorem fb_X13_smoothIn_7 {K : Nat} {z0 z : ow_MS}  {go : Nat → Int32 → Int32 → Int32 → Int32 → Int32 → Int32 → Int32 → Nat → Nat → Int32 → ow_MS → Option ow_MS} {x1 : Int32} {x2 : Int32} {x3 : Int32} {x5 : Int32} {x6 : Int32} {x7 : Int32} {x8 : Int32} {r0 : Nat} {r4 : Nat} {t0 : Int32}  (hgo : ∀ (L : Nat) (x1 : Int32) (x2 : Int32) (x3 : Int32) (x5 : Int32) (x6 : Int32) (x7 : Int32) (x8 : Int32) (r0 : Nat) (r4 : Nat) (t0 : Int32) (z : ow_MS), fr (pf [] []) z0 z → (L = 0 ∨ L = 1 ∨ L = 2 ∨ L = 3 ∨ L = 4 ∨ L = 5 ∨ L = 6 ∨ L = 7 ∨ L = 8 ∨ L = 9 ∨ L = 10 ∨ L = 11 ∨ L = 12 ∨ L = 13 → 1000 ≤ r0) → (L = 0 ∨ L = 1 ∨ L = 2 ∨ L = 3 ∨ L = 4 ∨ L = 5 ∨ L = 6 ∨ L = 7 ∨ L = 8 ∨ L = 9 ∨ L = 10 ∨ L = 11 ∨ L = 12 ∨ L = 13 → 1000 ≤ r4) → Fo id (pf [] []) z0 (go L x1 x2 x3 x5 x6 x7 x8 r0 r4 t0 z)) (hz : fr (pf [] []) z0 z) (hr0 : 1000 ≤ r0) (hr4 : 1000 ≤ r4) : Fo id (pf [] []) z0 (qm_X13_smoothIn_7 K go x1 x2 x3 x5 x6 x7 x8 r0 r4 t0 z) := by
  unfold qm_X13_smoothIn_7
  exact (fo_if (hgo 8 _ _ _ _ _ _ _ _ _ _ z hz (fun _ => (by first | omega | decide)) (fun _ => (by first | omega | decide))) (fo_rdI (fun v21 => (fo_rdI (fun v22 => (fo_cs0 (ff_X12_add (by first | omega | decide)) (pf_sub (by decide) pf_0) hz (fun z23 h_z23 => (hgo 7 _ _ _ _ _ _ _ _ _ _ z23 h_z23 (fun _ => (by first | omega | decide)) (fun _ => (by first | omega | decide))))))))))
theorem fb_X13_smoothIn_8 {K : Nat} {z0 z : ow_MS}  {go : Nat → Int32 → Int32 → Int32 → Int32 → Int32 → Int32 → Int32 → Nat → Nat → Int32 → ow_MS → Option ow_MS} {x1 : Int32} {x2 : Int32} {x3 : Int32} {x5 : Int32} {x6 : Int32} {x7 : Int32} {x8 : Int32} {r0 : Nat} {r4 : Nat} {t0 : Int32}  (hgo : ∀ (L : Nat) (x1 : Int32) (x2 : Int32) (x3 : Int32) (x5 : Int32) (x6 : Int32) (x7 : Int32) (x8 : Int32) (r0 : Nat) (r4 : Nat) (t0 : Int32) (z : ow_MS), fr (pf [] []) z0 z → (L = 0 ∨ L = 1 ∨ L = 2 ∨ L = 3 ∨ L = 4 ∨ L = 5 ∨ L = 6 ∨ L = 7 ∨ L = 8 ∨ L = 9 ∨ L = 10 ∨ L = 11 ∨ L = 12 ∨ L = 13 → 1000 ≤ r0) → (L = 0 ∨ L = 1 ∨ L = 2 ∨ L = 3 ∨ L = 4 ∨ L = 5 ∨ L = 6 ∨ L = 7 ∨ L = 8 ∨ L = 9 ∨ L = 10 ∨ L = 11 ∨ L = 12 ∨ L = 13 → 1000 ≤ r4) → Fo id (pf [] []) z0 (go L x1 x2 x3 x5 x6 x7 x8 r0 r4 t0 z)) (hz : fr (pf [] []) z0 z) (hr0 : 1000 ≤ r0) (hr4 : 1000 ≤ r4) : Fo id (pf [] []) z0 (qm_X13_smoothIn_8 K go x1 x2 x3 x5 x6 x7 x8 r0 r4 t0 z) := by
  unfold qm_X13_smoothIn_8
  exact (fo_rdI (fun v24 => (fo_if (hgo 9 _ _ _ _ _ _ _ _ _ _ z hz (fun _ => (by first | omega | decide)) (fun _ => (by first | omega | decide))) (fo_rdI (fun v25 => (fo_rdI (fun v26 => (fo_cs0 (ff_X12_add (by first | omega | decide)) (pf_sub (by decide) pf_0) hz (fun z27 h_z27 => (hgo 8 _ _ _ _ _ _ _ _ _ _ z27 h_z27 (fun _ => (by first | omega | decide)) (fun _ => (by first | omega | decide))))))))))))
theorem fb_X13_smoothIn_9 {K : Nat} {z0 z : ow_MS}  {go : Nat → Int32 → Int32 → Int32 → Int32 → Int32 → Int32 → Int32 → Nat → Nat → Int32 → ow_MS → Option ow_MS} {x1 : Int32} {x2 : Int32} {x3 : Int32} {x5 : Int32} {x6 : Int32} {x7 : Int32} {x8 : Int32} {r0 : Nat} {r4 : Nat} {t0 : Int32}  (hgo : ∀ (L : Nat) (x1 : Int32) (x2 : Int32) (x3 : Int32) (x5 : Int32) (x6 : Int32) (x7 : Int32) (x8 : Int32) (r0 : Nat) (r4 : Nat) (t0 : Int32) (z : ow_MS), fr (pf [] []) z0 z → (L = 0 ∨ L = 1 ∨ L = 2 ∨ L = 3 ∨ L = 4 ∨ L = 5 ∨ L = 6 ∨ L = 7 ∨ L = 8 ∨ L = 9 ∨ L = 10 ∨ L = 11 ∨ L = 12 ∨ L = 13 → 1000 ≤ r0) → (L = 0 ∨ L = 1 ∨ L = 2 ∨ L = 3 ∨ L = 4 ∨ L = 5 ∨ L = 6 ∨ L = 7 ∨ L = 8 ∨ L = 9 ∨ L = 10 ∨ L = 11 ∨ L = 12 ∨ L = 13 → 1000 ≤ r4) → Fo id (pf [] []) z0 (go L x1 x2 x3 x5 x6 x7 x8 r0 r4 t0 z)) (hz : fr (pf [] []) z0 z) (hr0 : 1000 ≤ r0) (hr4 : 1000 ≤ r4) : Fo id (pf [] []) z0 (qm_X13_smoothIn_9 K go x1 x2 x3 x5 x6 x7 x8 r0 r4 t0 z) := by
  unfold qm_X13_smoothIn_9
  exact (fo_cs0 (ff_X12_end (by first | omega | decide)) (pf_sub (by decide) pf_0) hz (fun z28 h_z28 => (hgo 12 _ _ _ _ _ _ _ _ _ _ z28 h_z28 (fun _ => (by first | omega | decide)) (fun _ => (by first | omega | decide)))))
theorem fb_X13_smoothIn_10 {K : Nat} {z0 z : ow_MS}  {go : Nat → Int32 → Int32 → Int32 → Int32 → Int32 → Int32 → Int32 → Nat → Nat → Int32 → ow_MS → Option ow_MS} {x1 : Int32} {x2 : Int32} {x3 : Int32} {x5 : Int32} {x6 : Int32} {x7 : Int32} {x8 : Int32} {r0 : Nat} {r4 : Nat} {t0 : Int32}  (hgo : ∀ (L : Nat) (x1 : Int32) (x2 : Int32) (x3 : Int32) (x5 : Int32) (x6 : Int32) (x7 : Int32) (x8 : Int32) (r0 : Nat) (r4 : Nat) (t0 : Int32) (z : ow_MS), fr (pf [] []) z0 z → (L = 0 ∨ L = 1 ∨ L = 2 ∨ L = 3 ∨ L = 4 ∨ L = 5 ∨ L = 6 ∨ L = 7 ∨ L = 8 ∨ L = 9 ∨ L = 10 ∨ L = 11 ∨ L = 12 ∨ L = 13 → 1000 ≤ r0) → (L = 0 ∨ L = 1 ∨ L = 2 ∨ L = 3 ∨ L = 4 ∨ L = 5 ∨ L = 6 ∨ L = 7 ∨ L = 8 ∨ L = 9 ∨ L = 10 ∨ L = 11 ∨ L = 12 ∨ L = 13 → 1000 ≤ r4) → Fo id (pf [] []) z0 (go L x1 x2 x3 x5 x6 x7 x8 r0 r4 t0 z)) (hz : fr (pf [] []) z0 z) (hr0 : 1000 ≤ r0) (hr4 : 1000 ≤ r4) : Fo id (pf [] []) z0 (qm_X13_smoothIn_10 K go x1 x2 x3 x5 x6 x7 x8 r0 r4 t0 z) := by
  unfold qm_X13_smoothIn_10
  exact (fo_rdI (fun v29 => (hgo 11 _ _ _ _ _ _ _ _ _ _ z hz (fun _ => (by first | omega | decide)) (fun _ => (by first | omega | decide)))))
theorem fb_X13_smoothIn_11 {K : Nat} {z0 z : ow_MS}  {go : Nat → Int32 → Int32 → Int32 → Int32 → Int32 → Int32 → Int32 → Nat → Nat → Int32 → ow_MS → Option ow_MS} {x1 : Int32} {x2 : Int32} {x3 : Int32} {x5 : Int32} {x6 : Int32} {x7 : Int32} {x8 : Int32} {r0 : Nat} {r4 : Nat} {t0 : Int32}  (hgo : ∀ (L : Nat) (x1 : Int32) (x2 : Int32) (x3 : Int32) (x5 : Int32) (x6 : Int32) (x7 : Int32) (x8 : Int32) (r0 : Nat) (r4 : Nat) (t0 : Int32) (z : ow_MS), fr (pf [] []) z0 z → (L = 0 ∨ L = 1 ∨ L = 2 ∨ L = 3 ∨ L = 4 ∨ L = 5 ∨ L = 6 ∨ L = 7 ∨ L = 8 ∨ L = 9 ∨ L = 10 ∨ L = 11 ∨ L = 12 ∨ L = 13 → 1000 ≤ r0) → (L = 0 ∨ L = 1 ∨ L = 2 ∨ L = 3 ∨ L = 4 ∨ L = 5 ∨ L = 6 ∨ L = 7 ∨ L = 8 ∨ L = 9 ∨ L = 10 ∨ L = 11 ∨ L = 12 ∨ L = 13 → 1000 ≤ r4) → Fo id (pf [] []) z0 (go L x1 x2 x3 x5 x6 x7 x8 r0 r4 t0 z)) (hz : fr (pf [] []) z0 z) (hr0 : 1000 ≤ r0) (hr4 : 1000 ≤ r4) : Fo id (pf [] []) z0 (qm_X13_smoothIn_11 K go x1 x2 x3 x5 x6 x7 x8 r0 r4 t0 z) := by
  unfold qm_X13_smoothIn_11
  exact (fo_rdI (fun v30 => (fo_if (fo_cs0 (ff_X12_end (by first | omega | decide)) (pf_sub (by decide) pf_0) hz (fun z31 h_z31 => (hgo 12 _ _ _ _ _ _ _ _ _ _ z31 h_z31 (fun _ => (by first | omega | decide)) (fun _ => (by first | omega | decide))))) (fo_rdI (fun v32 => (fo_rdI (fun v33 => (fo_cs0 (ff_X12_add (by first | omega | decide)) (pf_sub (by decide) pf_0) hz (fun z34 h_z34 => (hgo 11 _ _ _ _ _ _ _ _ _ _ z34 h_z34 (fun _ => (by first | omega | decide)) (fun _ => (by first | omega | decide))))))))))))
theorem fb_X13_smoothIn_12 {K : Nat} {z0 z : ow_MS}  {go : Nat → Int32 → Int32 → Int32 → Int32 → Int32 → Int32 → Int32 → Nat → Nat → Int32 → ow_MS → Option ow_MS} {x1 : Int32} {x2 : Int32} {x3 : Int32} {x5 : Int32} {x6 : Int32} {x7 : Int32} {x8 : Int32} {r0 : Nat} {r4 : Nat} {t0 : Int32}  (hgo : ∀ (L : Nat) (x1 : Int32) (x2 : Int32) (x3 : Int32) (x5 : Int32) (x6 : Int32) (x7 : Int32) (x8 : Int32) (r0 : Nat) (r4 : Nat) (t0 : Int32) (z : ow_MS), fr (pf [] []) z0 z → (L = 0 ∨ L = 1 ∨ L = 2 ∨ L = 3 ∨ L = 4 ∨ L = 5 ∨ L = 6 ∨ L = 7 ∨ L = 8 ∨ L = 9 ∨ L = 10 ∨ L = 11 ∨ L = 12 ∨ L = 13 → 1000 ≤ r0) → (L = 0 ∨ L = 1 ∨ L = 2 ∨ L = 3 ∨ L = 4 ∨ L = 5 ∨ L = 6 ∨ L = 7 ∨ L = 8 ∨ L = 9 ∨ L = 10 ∨ L = 11 ∨ L = 12 ∨ L = 13 → 1000 ≤ r4) → Fo id (pf [] []) z0 (go L x1 x2 x3 x5 x6 x7 x8 r0 r4 t0 z)) (hz : fr (pf [] []) z0 z) (hr0 : 1000 ≤ r0) (hr4 : 1000 ≤ r4) : Fo id (pf [] []) z0 (qm_X13_smoothIn_12 K go x1 x2 x3 x5 x6 x7 x8 r0 r4 t0 z) := by
  unfold qm_X13_smoothIn_12
  exact (hgo 2 _ _ _ _ _ _ _ _ _ _ z hz (fun _ => (by first | omega | decide)) (fun _ => (by first | omega | decide)))
theorem fb_X13_smoothIn_13 {K : Nat} {z0 z : ow_MS}  {go : Nat → Int32 → Int32 → Int32 → Int32 → Int32 → Int32 → Int32 → Nat → Nat → Int32 → ow_MS → Option ow_MS} {x1 : Int32} {x2 : Int32} {x3 : Int32} {x5 : Int32} {x6 : Int32} {x7 : Int32} {x8 : Int32} {r0 : Nat} {r4 : Nat} {t0 : Int32}  (hgo : ∀ (L : Nat) (x1 : Int32) (x2 : Int32) (x3 : Int32) (x5 : Int32) (x6 : Int32) (x7 : Int32) (x8 : Int32) (r0 : Nat) (r4 : Nat) (t0 : Int32) (z : ow_MS), fr (pf [] []) z0 z → (L = 0 ∨ L = 1 ∨ L = 2 ∨ L = 3 ∨ L = 4 ∨ L = 5 ∨ L = 6 ∨ L = 7 ∨ L = 8 ∨ L = 9 ∨ L = 10 ∨ L = 11 ∨ L = 12 ∨ L = 13 → 1000 ≤ r0) → (L = 0 ∨ L = 1 ∨ L = 2 ∨ L = 3 ∨ L = 4 ∨ L = 5 ∨ L = 6 ∨ L = 7 ∨ L = 8 ∨ L = 9 ∨ L = 10 ∨ L = 11 ∨ L = 12 ∨ L = 13 → 1000 ≤ r4) → Fo id (pf [] []) z0 (go L x1 x2 x3 x5 x6 x7 x8 r0 r4 t0 z)) (hz : fr (pf [] []) z0 z) (hr0 : 1000 ≤ r0) (hr4 : 1000 ≤ r4) : Fo id (pf [] []) z0 (qm_X13_smoothIn_13 K go x1 x2 x3 x5 x6 x7 x8 r0 r4 t0 z) := by
  unfold qm_X13_smoothIn_13
  exact (fo_if (fo_cs0 (ff_X12_end (by first | omega | decide)) (pf_sub (by decide) pf_0) hz (fun z35 h_z35 => (fo_some h_z35))) (fo_rdI (fun v36 => (fo_rdI (fun v37 => (fo_cs0 (ff_X12_add (by first | omega | decide)) (pf_sub (by decide) pf_0) hz (fun z38 h_z38 => (hgo 13 _ _ _ _ _ _ _ _ _ _ z38 h_z38 (fun _ => (by first | omega | decide)) (fun _ => (by first | omega | decide))))))))))
theorem fq_X13_smoothIn {K : Nat} {z0 : ow_MS}   : ∀ (k L : Nat) (x1 : Int32) (x2 : Int32) (x3 : Int32) (x5 : Int32) (x6 : Int32) (x7 : Int32) (x8 : Int32) (r0 : Nat) (r4 : Nat) (t0 : Int32) (z : ow_MS), fr (pf [] []) z0 z → (L = 0 ∨ L = 1 ∨ L = 2 ∨ L = 3 ∨ L = 4 ∨ L = 5 ∨ L = 6 ∨ L = 7 ∨ L = 8 ∨ L = 9 ∨ L = 10 ∨ L = 11 ∨ L = 12 ∨ L = 13 → 1000 ≤ r0) → (L = 0 ∨ L = 1 ∨ L = 2 ∨ L = 3 ∨ L = 4 ∨ L = 5 ∨ L = 6 ∨ L = 7 ∨ L = 8 ∨ L = 9 ∨ L = 10 ∨ L = 11 ∨ L = 12 ∨ L = 13 → 1000 ≤ r4) → Fo id (pf [] []) z0 (q_X13_smoothIn K k L x1 x2 x3 x5 x6 x7 x8 r0 r4 t0 z)
  | 0 => by
    intros
    exact fo_none
  | k + 1 => by
    intro L x1 x2 x3 x5 x6 x7 x8 r0 r4 t0 z hz h9_r0 h9_r4
    show Fo id (pf [] []) z0 (qb_X13_smoothIn K (q_X13_smoothIn K k) L x1 x2 x3 x5 x6 x7 x8 r0 r4 t0 z)
    unfold qb_X13_smoothIn
    split
    · exact fb_X13_smoothIn_0 (fq_X13_smoothIn k) hz (h9_r0 (by decide)) (h9_r4 (by decide))
    · exact fb_X13_smoothIn_1 (fq_X13_smoothIn k) hz (h9_r0 (by decide)) (h9_r4 (by decide))
    · exact fb_X13_smoothIn_2 (fq_X13_smoothIn k) hz (h9_r0 (by decide)) (h9_r4 (by decide))
    · exact fb_X13_smoothIn_3 (fq_X13_smoothIn k) hz (h9_r0 (by decide)) (h9_r4 (by decide))
    · exact fb_X13_smoothIn_4 (fq_X13_smoothIn k) hz (h9_r0 (by decide)) (h9_r4 (by decide))
    · exact fb_X13_smoothIn_5 (fq_X13_smoothIn k) hz (h9_r0 (by decide)) (h9_r4 (by decide))
    · exact fb_X13_smoothIn_6 (fq_X13_smoothIn k) hz (h9_r0 (by decide)) (h9_r4 (by decide))
    · exact fb_X13_smoothIn_7 (fq_X13_smoothIn k) hz (h9_r0 (by decide)) (h9_r4 (by decide))
    · exact fb_X13_smoothIn_8 (fq_X13_smoothIn k) hz (h9_r0 (by decide)) (h9_r4 (by decide))
    · exact fb_X13_smoothIn_9 (fq_X13_smoothIn k) hz (h9_r0 (by decide)) (h9_r4 (by decide))
    · exact fb_X13_smoothIn_10 (fq_X13_smoothIn k) hz (h9_r0 (by decide)) (h9_r4 (by decide))
    · exact fb_X13_smoothIn_11 (fq_X13_smoothIn k) hz (h9_r0 (by decide)) (h9_r4 (by decide))
    · exact fb_X13_smoothIn_12 (fq_X13_smoothIn k) hz (h9_r0 (by decide)) (h9_r4 (by decide))
    · exact fb_X13_smoothIn_13 (fq_X13_smoothIn k) hz (h9_r0 (by decide)) (h9_r4 (by decide))
    · exact fo_none
theorem ff_X13_smoothIn {K : Nat} {r0 : Nat} {x1 : Int32} {x2 : Int32} {x3 : Int32} {r4 : Nat} {z : ow_MS} (hr0 : 1000 ≤ r0) (hr4 : 1000 ≤ r4) : Fo id (pf [] []) z (qe_X13_smoothIn K r0 x1 x2 x3 r4 z) := fq_X13_smoothIn K 0 _ _ _ _ _ _ _ _ _ _ z fr_rf (fun _ => (by first | omega | decide)) (fun _ => (by first | omega | decide))
theorem fb_X13_smooth_0 {K : Nat} {z0 z : ow_MS}  {go : Nat → Int32 → Int32 → Int32 → ow_MS → Option (Int32 × ow_MS)} {x1 : Int32} {x2 : Int32} {x3 : Int32}  (hgo : ∀ (L : Nat) (x1 : Int32) (x2 : Int32) (x3 : Int32) (z : ow_MS), fr (pf [1, 2, 3, 4, 5, 6, 7, 8, 9, 12] []) z0 z → Fo Prod.snd (pf [1, 2, 3, 4, 5, 6, 7, 8, 9, 12] []) z0 (go L x1 x2 x3 z)) (hz : fr (pf [1, 2, 3, 4, 5, 6, 7, 8, 9, 12] []) z0 z)  : Fo Prod.snd (pf [1, 2, 3, 4, 5, 6, 7, 8, 9, 12] []) z0 (qm_X13_smooth_0 K go x1 x2 x3 z) := by
  unfold qm_X13_smooth_0
  exact (fo_wrF (Or.inl (by decide)) hz (fun z1 h_z1 => (fo_cs1 (ff_X13_has) (pf_sub (by decide) pf_0) h_z1 (fun v3 z2 h_z2 => (fo_if (fo_cs1 (ff_X13_fails) (pf_sub (by decide) pf_0) h_z2 (fun v7 z6 h_z6 => (fo_some h_z6))) (fo_cs0 (ff_X13_open (by first | omega | decide)) (pf_sub (by decide) pf_0) h_z2 (fun z4 h_z4 => (fo_if (hgo 1 _ _ _ z4 h_z4) (fo_rdF (fun v5 => (fo_nzI (fo_if (hgo 2 _ _ _ z4 h_z4) (hgo 1 _ _ _ z4 h_z4)))))))))))))
theorem fb_X13_smooth_1 {K : Nat} {z0 z : ow_MS}  {go : Nat → Int32 → Int32 → Int32 → ow_MS → Option (Int32 × ow_MS)} {x1 : Int32} {x2 : Int32} {x3 : Int32}  (hgo : ∀ (L : Nat) (x1 : Int32) (x2 : Int32) (x3 : Int32) (z : ow_MS), fr (pf [1, 2, 3, 4, 5, 6, 7, 8, 9, 12] []) z0 z → Fo Prod.snd (pf [1, 2, 3, 4, 5, 6, 7, 8, 9, 12] []) z0 (go L x1 x2 x3 z)) (hz : fr (pf [1, 2, 3, 4, 5, 6, 7, 8, 9, 12] []) z0 z)  : Fo Prod.snd (pf [1, 2, 3, 4, 5, 6, 7, 8, 9, 12] []) z0 (qm_X13_smooth_1 K go x1 x2 x3 z) := by
  unfold qm_X13_smooth_1
  exact (fo_cs1 (ff_X13_fails) (pf_sub (by decide) pf_0) hz (fun v9 z8 h_z8 => (fo_some h_z8)))
theorem fb_X13_smooth_2 {K : Nat} {z0 z : ow_MS}  {go : Nat → Int32 → Int32 → Int32 → ow_MS → Option (Int32 × ow_MS)} {x1 : Int32} {x2 : Int32} {x3 : Int32}  (hgo : ∀ (L : Nat) (x1 : Int32) (x2 : Int32) (x3 : Int32) (z : ow_MS), fr (pf [1, 2, 3, 4, 5, 6, 7, 8, 9, 12] []) z0 z → Fo Prod.snd (pf [1, 2, 3, 4, 5, 6, 7, 8, 9, 12] []) z0 (go L x1 x2 x3 z)) (hz : fr (pf [1, 2, 3, 4, 5, 6, 7, 8, 9, 12] []) z0 z)  : Fo Prod.snd (pf [1, 2, 3, 4, 5, 6, 7, 8, 9, 12] []) z0 (qm_X13_smooth_2 K go x1 x2 x3 z) := by
  unfold qm_X13_smooth_2
  exact (fo_rdI (fun v10 => (fo_if (fo_rdI (fun v11 => (fo_rdI (fun v12 => (fo_cs0 (ff_X13_smoothIn (by first | omega | decide) (by first | omega | decide)) (pf_sub (by decide) pf_0) hz (fun z13 h_z13 => (fo_rdF (fun v14 => (fo_if (fo_cs1 (ff_X13_free) (pf_sub (by decide) pf_0) h_z13 (fun v16 z15 h_z15 => (fo_if (fo_cs1 (ff_X13_fails) (pf_sub (by decide) pf_0) h_z15 (fun v20 z19 h_z19 => (fo_some h_z19))) (fo_cs1 (ff_X13_keep) (pf_sub (by decide) pf_0) h_z15 (fun v18 z17 h_z17 => (fo_some h_z17)))))) (fo_cs1 (ff_X13_fails) (pf_sub (by decide) pf_0) h_z13 (fun v22 z21 h_z21 => (fo_some h_z21)))))))))))) (hgo 2 _ _ _ z hz))))
theorem fq_X13_smooth {K : Nat} {z0 : ow_MS}   : ∀ (k L : Nat) (x1 : Int32) (x2 : Int32) (x3 : Int32) (z : ow_MS), fr (pf [1, 2, 3, 4, 5, 6, 7, 8, 9, 12] []) z0 z → Fo Prod.snd (pf [1, 2, 3, 4, 5, 6, 7, 8, 9, 12] []) z0 (q_X13_smooth K k L x1 x2 x3 z)
  | 0 => by
    intros
    exact fo_none
  | k + 1 => by
    intro L x1 x2 x3 z hz 
    show Fo Prod.snd (pf [1, 2, 3, 4, 5, 6, 7, 8, 9, 12] []) z0 (qb_X13_smooth K (q_X13_smooth K k) L x1 x2 x3 z)
    unfold qb_X13_smooth
    split
    · exact fb_X13_smooth_0 (fq_X13_smooth k) hz 
    · exact fb_X13_smooth_1 (fq_X13_smooth k) hz 
    · exact fb_X13_smooth_2 (fq_X13_smooth k) hz 
    · exact fo_none
theorem ff_X13_smooth {K : Nat} {x1 : Int32} {x2 : Int32} {z : ow_MS}  : Fo Prod.snd (pf [1, 2, 3, 4, 5, 6, 7, 8, 9, 12] []) z (qe_X13_smooth K x1 x2 z) := fq_X13_smooth K 0 _ _ _ z fr_rf 
theorem fb_X13_addNet_0 {K : Nat} {z0 z : ow_MS}  {go : Nat → Int32 → Int32 → Int32 → Nat → ow_MS → Option ow_MS} {x2 : Int32} {x3 : Int32} {x4 : Int32} {r1 : Nat}  (hgo : ∀ (L : Nat) (x2 : Int32) (x3 : Int32) (x4 : Int32) (r1 : Nat) (z : ow_MS), fr (pf [] []) z0 z → (L = 0 ∨ L = 1 ∨ L = 2 ∨ L = 3 → 1000 ≤ r1) → Fo id (pf [] []) z0 (go L x2 x3 x4 r1 z)) (hz : fr (pf [] []) z0 z) (hr1 : 1000 ≤ r1) : Fo id (pf [] []) z0 (qm_X13_addNet_0 K go x2 x3 x4 r1 z) := by
  unfold qm_X13_addNet_0
  exact (hgo 1 _ _ _ _ z hz (fun _ => (by first | omega | decide)))
theorem fb_X13_addNet_1 {K : Nat} {z0 z : ow_MS}  {go : Nat → Int32 → Int32 → Int32 → Nat → ow_MS → Option ow_MS} {x2 : Int32} {x3 : Int32} {x4 : Int32} {r1 : Nat}  (hgo : ∀ (L : Nat) (x2 : Int32) (x3 : Int32) (x4 : Int32) (r1 : Nat) (z : ow_MS), fr (pf [] []) z0 z → (L = 0 ∨ L = 1 ∨ L = 2 ∨ L = 3 → 1000 ≤ r1) → Fo id (pf [] []) z0 (go L x2 x3 x4 r1 z)) (hz : fr (pf [] []) z0 z) (hr1 : 1000 ≤ r1) : Fo id (pf [] []) z0 (qm_X13_addNet_1 K go x2 x3 x4 r1 z) := by
  unfold qm_X13_addNet_1
  exact (fo_rdF (fun v1 => (fo_if (hgo 3 _ _ _ _ z hz (fun _ => (by first | omega | decide))) (fo_rdI (fun v2 => (hgo 2 _ _ _ _ z hz (fun _ => (by first | omega | decide))))))))
theorem fb_X13_addNet_2 {K : Nat} {z0 z : ow_MS}  {go : Nat → Int32 → Int32 → Int32 → Nat → ow_MS → Option ow_MS} {x2 : Int32} {x3 : Int32} {x4 : Int32} {r1 : Nat}  (hgo : ∀ (L : Nat) (x2 : Int32) (x3 : Int32) (x4 : Int32) (r1 : Nat) (z : ow_MS), fr (pf [] []) z0 z → (L = 0 ∨ L = 1 ∨ L = 2 ∨ L = 3 → 1000 ≤ r1) → Fo id (pf [] []) z0 (go L x2 x3 x4 r1 z)) (hz : fr (pf [] []) z0 z) (hr1 : 1000 ≤ r1) : Fo id (pf [] []) z0 (qm_X13_addNet_2 K go x2 x3 x4 r1 z) := by
  unfold qm_X13_addNet_2
  exact (fo_rdI (fun v3 => (fo_if (fo_cs0 (ff_X12_end (by first | omega | decide)) (pf_sub (by decide) pf_0) hz (fun z4 h_z4 => (hgo 1 _ _ _ _ z4 h_z4 (fun _ => (by first | omega | decide))))) (fo_rdI (fun v5 => (fo_rdI (fun v6 => (fo_cs0 (ff_X12_add (by first | omega | decide)) (pf_sub (by decide) pf_0) hz (fun z7 h_z7 => (hgo 2 _ _ _ _ z7 h_z7 (fun _ => (by first | omega | decide))))))))))))
theorem fb_X13_addNet_3 {K : Nat} {z0 z : ow_MS}  {go : Nat → Int32 → Int32 → Int32 → Nat → ow_MS → Option ow_MS} {x2 : Int32} {x3 : Int32} {x4 : Int32} {r1 : Nat}  (hgo : ∀ (L : Nat) (x2 : Int32) (x3 : Int32) (x4 : Int32) (r1 : Nat) (z : ow_MS), fr (pf [] []) z0 z → (L = 0 ∨ L = 1 ∨ L = 2 ∨ L = 3 → 1000 ≤ r1) → Fo id (pf [] []) z0 (go L x2 x3 x4 r1 z)) (hz : fr (pf [] []) z0 z) (hr1 : 1000 ≤ r1) : Fo id (pf [] []) z0 (qm_X13_addNet_3 K go x2 x3 x4 r1 z) := by
  unfold qm_X13_addNet_3
  exact (fo_rdF (fun v8 => (fo_nzI (fo_if (fo_some hz) (fo_rdI (fun v9 => (fo_wrI (Or.inr (Or.inr (by decide))) hz (fun z10 h_z10 => (hgo 3 _ _ _ _ z10 h_z10 (fun _ => (by first | omega | decide)))))))))))
theorem fq_X13_addNet {K : Nat} {z0 : ow_MS}   : ∀ (k L : Nat) (x2 : Int32) (x3 : Int32) (x4 : Int32) (r1 : Nat) (z : ow_MS), fr (pf [] []) z0 z → (L = 0 ∨ L = 1 ∨ L = 2 ∨ L = 3 → 1000 ≤ r1) → Fo id (pf [] []) z0 (q_X13_addNet K k L x2 x3 x4 r1 z)
  | 0 => by
    intros
    exact fo_none
  | k + 1 => by
    intro L x2 x3 x4 r1 z hz h9_r1
    show Fo id (pf [] []) z0 (qb_X13_addNet K (q_X13_addNet K k) L x2 x3 x4 r1 z)
    unfold qb_X13_addNet
    split
    · exact fb_X13_addNet_0 (fq_X13_addNet k) hz (h9_r1 (by decide))
    · exact fb_X13_addNet_1 (fq_X13_addNet k) hz (h9_r1 (by decide))
    · exact fb_X13_addNet_2 (fq_X13_addNet k) hz (h9_r1 (by decide))
    · exact fb_X13_addNet_3 (fq_X13_addNet k) hz (h9_r1 (by decide))
    · exact fo_none
theorem ff_X13_addNet {K : Nat} {r1 : Nat} {x2 : Int32} {z : ow_MS} (hr1 : 1000 ≤ r1) : Fo id (pf [] []) z (qe_X13_addNet K r1 x2 z) := fq_X13_addNet K 0 _ _ _ _ z fr_rf (fun _ => (by first | omega | decide))
theorem fb_X13_apart_0 {K : Nat} {z0 z : ow_MS}  {go : Nat → Int32 → Int32 → ow_MS → Option (Int32 × ow_MS)} {x1 : Int32} {x2 : Int32}  (hgo : ∀ (L : Nat) (x1 : Int32) (x2 : Int32) (z : ow_MS), fr (pf [1, 2, 3, 4, 5, 6, 7, 8, 9, 12] []) z0 z → Fo Prod.snd (pf [1, 2, 3, 4, 5, 6, 7, 8, 9, 12] []) z0 (go L x1 x2 z)) (hz : fr (pf [1, 2, 3, 4, 5, 6, 7, 8, 9, 12] []) z0 z)  : Fo Prod.snd (pf [1, 2, 3, 4, 5, 6, 7, 8, 9, 12] []) z0 (qm_X13_apart_0 K go x1 x2 z) := by
  unfold qm_X13_apart_0
  exact (fo_wrF (Or.inl (by decide)) hz (fun z1 h_z1 => (fo_cs1 (ff_X13_has) (pf_sub (by decide) pf_0) h_z1 (fun v3 z2 h_z2 => (fo_if (hgo 1 _ _ z2 h_z2) (fo_cs1 (ff_X13_has) (pf_sub (by decide) pf_0) h_z2 (fun v5 z4 h_z4 => (fo_if (hgo 1 _ _ z4 h_z4) (fo_cs0 (ff_X13_open (by first | omega | decide)) (pf_sub (by decide) pf_0) h_z4 (fun z6 h_z6 => (fo_cs0 (ff_X13_open (by first | omega | decide)) (pf_sub (by decide) pf_0) h_z6 (fun z7 h_z7 => (fo_rdF (fun v8 => (fo_rdF (fun v9 => (fo_if (hgo 2 _ _ z7 h_z7) (fo_rdF (fun v10 => (fo_rdF (fun v11 => (fo_if (fo_cs1 (ff_X13_free) (pf_sub (by decide) pf_0) h_z7 (fun v13 z12 h_z12 => (fo_if (fo_cs1 (ff_X13_fails) (pf_sub (by decide) pf_0) h_z12 (fun v21 z20 h_z20 => (fo_some h_z20))) (fo_cs0 (ff_X12_clear (by first | omega | decide)) (pf_sub (by decide) pf_0) h_z12 (fun z14 h_z14 => (fo_cs0 (ff_X13_addNet (by first | omega | decide)) (pf_sub (by decide) pf_0) h_z14 (fun z15 h_z15 => (fo_rdF (fun v16 => (fo_nzI (fo_cs0 (ff_X13_addNet (by first | omega | decide)) (pf_sub (by decide) pf_0) h_z15 (fun z17 h_z17 => (fo_cs1 (ff_X13_keep) (pf_sub (by decide) pf_0) h_z17 (fun v19 z18 h_z18 => (fo_some h_z18))))))))))))))) (hgo 2 _ _ z7 h_z7)))))))))))))))))))))))
theorem fb_X13_apart_1 {K : Nat} {z0 z : ow_MS}  {go : Nat → Int32 → Int32 → ow_MS → Option (Int32 × ow_MS)} {x1 : Int32} {x2 : Int32}  (hgo : ∀ (L : Nat) (x1 : Int32) (x2 : Int32) (z : ow_MS), fr (pf [1, 2, 3, 4, 5, 6, 7, 8, 9, 12] []) z0 z → Fo Prod.snd (pf [1, 2, 3, 4, 5, 6, 7, 8, 9, 12] []) z0 (go L x1 x2 z)) (hz : fr (pf [1, 2, 3, 4, 5, 6, 7, 8, 9, 12] []) z0 z)  : Fo Prod.snd (pf [1, 2, 3, 4, 5, 6, 7, 8, 9, 12] []) z0 (qm_X13_apart_1 K go x1 x2 z) := by
  unfold qm_X13_apart_1
  exact (fo_cs1 (ff_X13_fails) (pf_sub (by decide) pf_0) hz (fun v23 z22 h_z22 => (fo_some h_z22)))
theorem fb_X13_apart_2 {K : Nat} {z0 z : ow_MS}  {go : Nat → Int32 → Int32 → ow_MS → Option (Int32 × ow_MS)} {x1 : Int32} {x2 : Int32}  (hgo : ∀ (L : Nat) (x1 : Int32) (x2 : Int32) (z : ow_MS), fr (pf [1, 2, 3, 4, 5, 6, 7, 8, 9, 12] []) z0 z → Fo Prod.snd (pf [1, 2, 3, 4, 5, 6, 7, 8, 9, 12] []) z0 (go L x1 x2 z)) (hz : fr (pf [1, 2, 3, 4, 5, 6, 7, 8, 9, 12] []) z0 z)  : Fo Prod.snd (pf [1, 2, 3, 4, 5, 6, 7, 8, 9, 12] []) z0 (qm_X13_apart_2 K go x1 x2 z) := by
  unfold qm_X13_apart_2
  exact (fo_cs1 (ff_X13_fails) (pf_sub (by decide) pf_0) hz (fun v25 z24 h_z24 => (fo_some h_z24)))
theorem fq_X13_apart {K : Nat} {z0 : ow_MS}   : ∀ (k L : Nat) (x1 : Int32) (x2 : Int32) (z : ow_MS), fr (pf [1, 2, 3, 4, 5, 6, 7, 8, 9, 12] []) z0 z → Fo Prod.snd (pf [1, 2, 3, 4, 5, 6, 7, 8, 9, 12] []) z0 (q_X13_apart K k L x1 x2 z)
  | 0 => by
    intros
    exact fo_none
  | k + 1 => by
    intro L x1 x2 z hz 
    show Fo Prod.snd (pf [1, 2, 3, 4, 5, 6, 7, 8, 9, 12] []) z0 (qb_X13_apart K (q_X13_apart K k) L x1 x2 z)
    unfold qb_X13_apart
    split
    · exact fb_X13_apart_0 (fq_X13_apart k) hz 
    · exact fb_X13_apart_1 (fq_X13_apart k) hz 
    · exact fb_X13_apart_2 (fq_X13_apart k) hz 
    · exact fo_none
theorem ff_X13_apart {K : Nat} {x1 : Int32} {x2 : Int32} {z : ow_MS}  : Fo Prod.snd (pf [1, 2, 3, 4, 5, 6, 7, 8, 9, 12] []) z (qe_X13_apart K x1 x2 z) := fq_X13_apart K 0 _ _ z fr_rf 
theorem fb_X13_join_0 {K : Nat} {z0 z : ow_MS}  {go : Nat → Int32 → Int32 → Int32 → Int32 → Int32 → Int32 → Int32 → Int32 → Int32 → Int32 → ow_MS → Option (Int32 × ow_MS)} {x1 : Int32} {x2 : Int32} {x3 : Int32} {x4 : Int32} {x5 : Int32} {x6 : Int32} {x7 : Int32} {x8 : Int32} {t0 : Int32} {t1 : Int32}  (hgo : ∀ (L : Nat) (x1 : Int32) (x2 : Int32) (x3 : Int32) (x4 : Int32) (x5 : Int32) (x6 : Int32) (x7 : Int32) (x8 : Int32) (t0 : Int32) (t1 : Int32) (z : ow_MS), fr (pf [1, 2, 3, 4, 5, 6, 7, 8, 9, 12] []) z0 z → Fo Prod.snd (pf [1, 2, 3, 4, 5, 6, 7, 8, 9, 12] []) z0 (go L x1 x2 x3 x4 x5 x6 x7 x8 t0 t1 z)) (hz : fr (pf [1, 2, 3, 4, 5, 6, 7, 8, 9, 12] []) z0 z)  : Fo Prod.snd (pf [1, 2, 3, 4, 5, 6, 7, 8, 9, 12] []) z0 (qm_X13_join_0 K go x1 x2 x3 x4 x5 x6 x7 x8 t0 t1 z) := by
  unfold qm_X13_join_0
  exact (fo_wrF (Or.inl (by decide)) hz (fun z1 h_z1 => (fo_cs1 (ff_X13_has) (pf_sub (by decide) pf_0) h_z1 (fun v3 z2 h_z2 => (fo_if (hgo 1 _ _ _ _ _ _ _ _ _ _ z2 h_z2) (fo_cs1 (ff_X13_has) (pf_sub (by decide) pf_0) h_z2 (fun v5 z4 h_z4 => (fo_if (hgo 1 _ _ _ _ _ _ _ _ _ _ z4 h_z4) (fo_cs0 (ff_X13_open (by first | omega | decide)) (pf_sub (by decide) pf_0) h_z4 (fun z6 h_z6 => (fo_cs0 (ff_X13_open (by first | omega | decide)) (pf_sub (by decide) pf_0) h_z6 (fun z7 h_z7 => (fo_if (hgo 2 _ _ _ _ _ _ _ _ _ _ z7 h_z7) (fo_rdF (fun v8 => (fo_if (hgo 2 _ _ _ _ _ _ _ _ _ _ z7 h_z7) (fo_if (hgo 2 _ _ _ _ _ _ _ _ _ _ z7 h_z7) (fo_rdF (fun v9 => (fo_if (fo_rdF (fun v10 => (fo_rdF (fun v11 => (fo_if (hgo 3 _ _ _ _ _ _ _ _ _ _ z7 h_z7) (fo_rdF (fun v12 => (fo_rdF (fun v13 => (fo_if (fo_cs1 (ff_X13_free) (pf_sub (by decide) pf_0) h_z7 (fun v15 z14 h_z14 => (fo_if (fo_cs1 (ff_X13_fails) (pf_sub (by decide) pf_0) h_z14 (fun v19 z18 h_z18 => (fo_some h_z18))) (fo_rdF (fun v16 => (fo_nzI (fo_cs0 (ff_X12_clear (by first | omega | decide)) (pf_sub (by decide) pf_0) h_z14 (fun z17 h_z17 => (hgo 4 _ _ _ _ _ _ _ _ _ _ z17 h_z17))))))))) (hgo 3 _ _ _ _ _ _ _ _ _ _ z7 h_z7))))))))))) (hgo 2 _ _ _ _ _ _ _ _ _ _ z7 h_z7)))))))))))))))))))))
theorem fb_X13_join_1 {K : Nat} {z0 z : ow_MS}  {go : Nat → Int32 → Int32 → Int32 → Int32 → Int32 → Int32 → Int32 → Int32 → Int32 → Int32 → ow_MS → Option (Int32 × ow_MS)} {x1 : Int32} {x2 : Int32} {x3 : Int32} {x4 : Int32} {x5 : Int32} {x6 : Int32} {x7 : Int32} {x8 : Int32} {t0 : Int32} {t1 : Int32}  (hgo : ∀ (L : Nat) (x1 : Int32) (x2 : Int32) (x3 : Int32) (x4 : Int32) (x5 : Int32) (x6 : Int32) (x7 : Int32) (x8 : Int32) (t0 : Int32) (t1 : Int32) (z : ow_MS), fr (pf [1, 2, 3, 4, 5, 6, 7, 8, 9, 12] []) z0 z → Fo Prod.snd (pf [1, 2, 3, 4, 5, 6, 7, 8, 9, 12] []) z0 (go L x1 x2 x3 x4 x5 x6 x7 x8 t0 t1 z)) (hz : fr (pf [1, 2, 3, 4, 5, 6, 7, 8, 9, 12] []) z0 z)  : Fo Prod.snd (pf [1, 2, 3, 4, 5, 6, 7, 8, 9, 12] []) z0 (qm_X13_join_1 K go x1 x2 x3 x4 x5 x6 x7 x8 t0 t1 z) := by
  unfold qm_X13_join_1
  exact (fo_cs1 (ff_X13_fails) (pf_sub (by decide) pf_0) hz (fun v21 z20 h_z20 => (fo_some h_z20)))
theorem fb_X13_join_2 {K : Nat} {z0 z : ow_MS}  {go : Nat → Int32 → Int32 → Int32 → Int32 → Int32 → Int32 → Int32 → Int32 → Int32 → Int32 → ow_MS → Option (Int32 × ow_MS)} {x1 : Int32} {x2 : Int32} {x3 : Int32} {x4 : Int32} {x5 : Int32} {x6 : Int32} {x7 : Int32} {x8 : Int32} {t0 : Int32} {t1 : Int32}  (hgo : ∀ (L : Nat) (x1 : Int32) (x2 : Int32) (x3 : Int32) (x4 : Int32) (x5 : Int32) (x6 : Int32) (x7 : Int32) (x8 : Int32) (t0 : Int32) (t1 : Int32) (z : ow_MS), fr (pf [1, 2, 3, 4, 5, 6, 7, 8, 9, 12] []) z0 z → Fo Prod.snd (pf [1, 2, 3, 4, 5, 6, 7, 8, 9, 12] []) z0 (go L x1 x2 x3 x4 x5 x6 x7 x8 t0 t1 z)) (hz : fr (pf [1, 2, 3, 4, 5, 6, 7, 8, 9, 12] []) z0 z)  : Fo Prod.snd (pf [1, 2, 3, 4, 5, 6, 7, 8, 9, 12] []) z0 (qm_X13_join_2 K go x1 x2 x3 x4 x5 x6 x7 x8 t0 t1 z) := by
  unfold qm_X13_join_2
  exact (fo_cs1 (ff_X13_fails) (pf_sub (by decide) pf_0) hz (fun v23 z22 h_z22 => (fo_some h_z22)))
theorem fb_X13_join_3 {K : Nat} {z0 z : ow_MS}  {go : Nat → Int32 → Int32 → Int32 → Int32 → Int32 → Int32 → Int32 → Int32 → Int32 → Int32 → ow_MS → Option (Int32 × ow_MS)} {x1 : Int32} {x2 : Int32} {x3 : Int32} {x4 : Int32} {x5 : Int32} {x6 : Int32} {x7 : Int32} {x8 : Int32} {t0 : Int32} {t1 : Int32}  (hgo : ∀ (L : Nat) (x1 : Int32) (x2 : Int32) (x3 : Int32) (x4 : Int32) (x5 : Int32) (x6 : Int32) (x7 : Int32) (x8 : Int32) (t0 : Int32) (t1 : Int32) (z : ow_MS), fr (pf [1, 2, 3, 4, 5, 6, 7, 8, 9, 12] []) z0 z → Fo Prod.snd (pf [1, 2, 3, 4, 5, 6, 7, 8, 9, 12] []) z0 (go L x1 x2 x3 x4 x5 x6 x7 x8 t0 t1 z)) (hz : fr (pf [1, 2, 3, 4, 5, 6, 7, 8, 9, 12] []) z0 z)  : Fo Prod.snd (pf [1, 2, 3, 4, 5, 6, 7, 8, 9, 12] []) z0 (qm_X13_join_3 K go x1 x2 x3 x4 x5 x6 x7 x8 t0 t1 z) := by
  unfold qm_X13_join_3
  exact (fo_cs1 (ff_X13_fails) (pf_sub (by decide) pf_0) hz (fun v25 z24 h_z24 => (fo_some h_z24)))
theorem fb_X13_join_4 {K : Nat} {z0 z : ow_MS}  {go : Nat → Int32 → Int32 → Int32 → Int32 → Int32 → Int32 → Int32 → Int32 → Int32 → Int32 → ow_MS → Option (Int32 × ow_MS)} {x1 : Int32} {x2 : Int32} {x3 : Int32} {x4 : Int32} {x5 : Int32} {x6 : Int32} {x7 : Int32} {x8 : Int32} {t0 : Int32} {t1 : Int32}  (hgo : ∀ (L : Nat) (x1 : Int32) (x2 : Int32) (x3 : Int32) (x4 : Int32) (x5 : Int32) (x6 : Int32) (x7 : Int32) (x8 : Int32) (t0 : Int32) (t1 : Int32) (z : ow_MS), fr (pf [1, 2, 3, 4, 5, 6, 7, 8, 9, 12] []) z0 z → Fo Prod.snd (pf [1, 2, 3, 4, 5, 6, 7, 8, 9, 12] []) z0 (go L x1 x2 x3 x4 x5 x6 x7 x8 t0 t1 z)) (hz : fr (pf [1, 2, 3, 4, 5, 6, 7, 8, 9, 12] []) z0 z)  : Fo Prod.snd (pf [1, 2, 3, 4, 5, 6, 7, 8, 9, 12] []) z0 (qm_X13_join_4 K go x1 x2 x3 x4 x5 x6 x7 x8 t0 t1 z) := by
  unfold qm_X13_join_4
  exact (fo_rdF (fun v26 => (fo_if (hgo 8 _ _ _ _ _ _ _ _ _ _ z hz) (fo_rdI (fun v27 => (hgo 5 _ _ _ _ _ _ _ _ _ _ z hz))))))
theorem fb_X13_join_5 {K : Nat} {z0 z : ow_MS}  {go : Nat → Int32 → Int32 → Int32 → Int32 → Int32 → Int32 → Int32 → Int32 → Int32 → Int32 → ow_MS → Option (Int32 × ow_MS)} {x1 : Int32} {x2 : Int32} {x3 : Int32} {x4 : Int32} {x5 : Int32} {x6 : Int32} {x7 : Int32} {x8 : Int32} {t0 : Int32} {t1 : Int32}  (hgo : ∀ (L : Nat) (x1 : Int32) (x2 : Int32) (x3 : Int32) (x4 : Int32) (x5 : Int32) (x6 : Int32) (x7 : Int32) (x8 : Int32) (t0 : Int32) (t1 : Int32) (z : ow_MS), fr (pf [1, 2, 3, 4, 5, 6, 7, 8, 9, 12] []) z0 z → Fo Prod.snd (pf [1, 2, 3, 4, 5, 6, 7, 8, 9, 12] []) z0 (go L x1 x2 x3 x4 x5 x6 x7 x8 t0 t1 z)) (hz : fr (pf [1, 2, 3, 4, 5, 6, 7, 8, 9, 12] []) z0 z)  : Fo Prod.snd (pf [1, 2, 3, 4, 5, 6, 7, 8, 9, 12] []) z0 (qm_X13_join_5 K go x1 x2 x3 x4 x5 x6 x7 x8 t0 t1 z) := by
  unfold qm_X13_join_5
  exact (fo_rdI (fun v28 => (fo_if (fo_cs0 (ff_X12_end (by first | omega | decide)) (pf_sub (by decide) pf_0) hz (fun z29 h_z29 => (hgo 4 _ _ _ _ _ _ _ _ _ _ z29 h_z29))) (fo_rdI (fun v30 => (fo_rdI (fun v31 => (fo_cs0 (ff_X12_add (by first | omega | decide)) (pf_sub (by decide) pf_0) hz (fun z32 h_z32 => (fo_if (hgo 6 _ _ _ _ _ _ _ _ _ _ z32 h_z32) (hgo 7 _ _ _ _ _ _ _ _ _ _ z32 h_z32)))))))))))
theorem fb_X13_join_6 {K : Nat} {z0 z : ow_MS}  {go : Nat → Int32 → Int32 → Int32 → Int32 → Int32 → Int32 → Int32 → Int32 → Int32 → Int32 → ow_MS → Option (Int32 × ow_MS)} {x1 : Int32} {x2 : Int32} {x3 : Int32} {x4 : Int32} {x5 : Int32} {x6 : Int32} {x7 : Int32} {x8 : Int32} {t0 : Int32} {t1 : Int32}  (hgo : ∀ (L : Nat) (x1 : Int32) (x2 : Int32) (x3 : Int32) (x4 : Int32) (x5 : Int32) (x6 : Int32) (x7 : Int32) (x8 : Int32) (t0 : Int32) (t1 : Int32) (z : ow_MS), fr (pf [1, 2, 3, 4, 5, 6, 7, 8, 9, 12] []) z0 z → Fo Prod.snd (pf [1, 2, 3, 4, 5, 6, 7, 8, 9, 12] []) z0 (go L x1 x2 x3 x4 x5 x6 x7 x8 t0 t1 z)) (hz : fr (pf [1, 2, 3, 4, 5, 6, 7, 8, 9, 12] []) z0 z)  : Fo Prod.snd (pf [1, 2, 3, 4, 5, 6, 7, 8, 9, 12] []) z0 (qm_X13_join_6 K go x1 x2 x3 x4 x5 x6 x7 x8 t0 t1 z) := by
  unfold qm_X13_join_6
  exact (fo_rdI (fun v33 => (fo_rdI (fun v34 => (fo_rdI (fun v35 => (fo_cs0 (ff_X12_add (by first | omega | decide)) (pf_sub (by decide) pf_0) hz (fun z36 h_z36 => (fo_if (hgo 7 _ _ _ _ _ _ _ _ _ _ z36 h_z36) (hgo 6 _ _ _ _ _ _ _ _ _ _ z36 h_z36))))))))))
theorem fb_X13_join_7 {K : Nat} {z0 z : ow_MS}  {go : Nat → Int32 → Int32 → Int32 → Int32 → Int32 → Int32 → Int32 → Int32 → Int32 → Int32 → ow_MS → Option (Int32 × ow_MS)} {x1 : Int32} {x2 : Int32} {x3 : Int32} {x4 : Int32} {x5 : Int32} {x6 : Int32} {x7 : Int32} {x8 : Int32} {t0 : Int32} {t1 : Int32}  (hgo : ∀ (L : Nat) (x1 : Int32) (x2 : Int32) (x3 : Int32) (x4 : Int32) (x5 : Int32) (x6 : Int32) (x7 : Int32) (x8 : Int32) (t0 : Int32) (t1 : Int32) (z : ow_MS), fr (pf [1, 2, 3, 4, 5, 6, 7, 8, 9, 12] []) z0 z → Fo Prod.snd (pf [1, 2, 3, 4, 5, 6, 7, 8, 9, 12] []) z0 (go L x1 x2 x3 x4 x5 x6 x7 x8 t0 t1 z)) (hz : fr (pf [1, 2, 3, 4, 5, 6, 7, 8, 9, 12] []) z0 z)  : Fo Prod.snd (pf [1, 2, 3, 4, 5, 6, 7, 8, 9, 12] []) z0 (qm_X13_join_7 K go x1 x2 x3 x4 x5 x6 x7 x8 t0 t1 z) := by
  unfold qm_X13_join_7
  exact (hgo 5 _ _ _ _ _ _ _ _ _ _ z hz)
theorem fb_X13_join_8 {K : Nat} {z0 z : ow_MS}  {go : Nat → Int32 → Int32 → Int32 → Int32 → Int32 → Int32 → Int32 → Int32 → Int32 → Int32 → ow_MS → Option (Int32 × ow_MS)} {x1 : Int32} {x2 : Int32} {x3 : Int32} {x4 : Int32} {x5 : Int32} {x6 : Int32} {x7 : Int32} {x8 : Int32} {t0 : Int32} {t1 : Int32}  (hgo : ∀ (L : Nat) (x1 : Int32) (x2 : Int32) (x3 : Int32) (x4 : Int32) (x5 : Int32) (x6 : Int32) (x7 : Int32) (x8 : Int32) (t0 : Int32) (t1 : Int32) (z : ow_MS), fr (pf [1, 2, 3, 4, 5, 6, 7, 8, 9, 12] []) z0 z → Fo Prod.snd (pf [1, 2, 3, 4, 5, 6, 7, 8, 9, 12] []) z0 (go L x1 x2 x3 x4 x5 x6 x7 x8 t0 t1 z)) (hz : fr (pf [1, 2, 3, 4, 5, 6, 7, 8, 9, 12] []) z0 z)  : Fo Prod.snd (pf [1, 2, 3, 4, 5, 6, 7, 8, 9, 12] []) z0 (qm_X13_join_8 K go x1 x2 x3 x4 x5 x6 x7 x8 t0 t1 z) := by
  unfold qm_X13_join_8
  exact (fo_rdF (fun v37 => (fo_if (hgo 11 _ _ _ _ _ _ _ _ _ _ z hz) (fo_rdI (fun v38 => (fo_if (hgo 10 _ _ _ _ _ _ _ _ _ _ z hz) (fo_rdI (fun v39 => (hgo 9 _ _ _ _ _ _ _ _ _ _ z hz)))))))))
theorem fb_X13_join_9 {K : Nat} {z0 z : ow_MS}  {go : Nat → Int32 → Int32 → Int32 → Int32 → Int32 → Int32 → Int32 → Int32 → Int32 → Int32 → ow_MS → Option (Int32 × ow_MS)} {x1 : Int32} {x2 : Int32} {x3 : Int32} {x4 : Int32} {x5 : Int32} {x6 : Int32} {x7 : Int32} {x8 : Int32} {t0 : Int32} {t1 : Int32}  (hgo : ∀ (L : Nat) (x1 : Int32) (x2 : Int32) (x3 : Int32) (x4 : Int32) (x5 : Int32) (x6 : Int32) (x7 : Int32) (x8 : Int32) (t0 : Int32) (t1 : Int32) (z : ow_MS), fr (pf [1, 2, 3, 4, 5, 6, 7, 8, 9, 12] []) z0 z → Fo Prod.snd (pf [1, 2, 3, 4, 5, 6, 7, 8, 9, 12] []) z0 (go L x1 x2 x3 x4 x5 x6 x7 x8 t0 t1 z)) (hz : fr (pf [1, 2, 3, 4, 5, 6, 7, 8, 9, 12] []) z0 z)  : Fo Prod.snd (pf [1, 2, 3, 4, 5, 6, 7, 8, 9, 12] []) z0 (qm_X13_join_9 K go x1 x2 x3 x4 x5 x6 x7 x8 t0 t1 z) := by
  unfold qm_X13_join_9
  exact (fo_rdI (fun v40 => (fo_if (fo_cs0 (ff_X12_end (by first | omega | decide)) (pf_sub (by decide) pf_0) hz (fun z41 h_z41 => (hgo 10 _ _ _ _ _ _ _ _ _ _ z41 h_z41))) (fo_rdI (fun v42 => (fo_rdI (fun v43 => (fo_cs0 (ff_X12_add (by first | omega | decide)) (pf_sub (by decide) pf_0) hz (fun z44 h_z44 => (hgo 9 _ _ _ _ _ _ _ _ _ _ z44 h_z44))))))))))
theorem fb_X13_join_10 {K : Nat} {z0 z : ow_MS}  {go : Nat → Int32 → Int32 → Int32 → Int32 → Int32 → Int32 → Int32 → Int32 → Int32 → Int32 → ow_MS → Option (Int32 × ow_MS)} {x1 : Int32} {x2 : Int32} {x3 : Int32} {x4 : Int32} {x5 : Int32} {x6 : Int32} {x7 : Int32} {x8 : Int32} {t0 : Int32} {t1 : Int32}  (hgo : ∀ (L : Nat) (x1 : Int32) (x2 : Int32) (x3 : Int32) (x4 : Int32) (x5 : Int32) (x6 : Int32) (x7 : Int32) (x8 : Int32) (t0 : Int32) (t1 : Int32) (z : ow_MS), fr (pf [1, 2, 3, 4, 5, 6, 7, 8, 9, 12] []) z0 z → Fo Prod.snd (pf [1, 2, 3, 4, 5, 6, 7, 8, 9, 12] []) z0 (go L x1 x2 x3 x4 x5 x6 x7 x8 t0 t1 z)) (hz : fr (pf [1, 2, 3, 4, 5, 6, 7, 8, 9, 12] []) z0 z)  : Fo Prod.snd (pf [1, 2, 3, 4, 5, 6, 7, 8, 9, 12] []) z0 (qm_X13_join_10 K go x1 x2 x3 x4 x5 x6 x7 x8 t0 t1 z) := by
  unfold qm_X13_join_10
  exact (hgo 8 _ _ _ _ _ _ _ _ _ _ z hz)
theorem fb_X13_join_11 {K : Nat} {z0 z : ow_MS}  {go : Nat → Int32 → Int32 → Int32 → Int32 → Int32 → Int32 → Int32 → Int32 → Int32 → Int32 → ow_MS → Option (Int32 × ow_MS)} {x1 : Int32} {x2 : Int32} {x3 : Int32} {x4 : Int32} {x5 : Int32} {x6 : Int32} {x7 : Int32} {x8 : Int32} {t0 : Int32} {t1 : Int32}  (hgo : ∀ (L : Nat) (x1 : Int32) (x2 : Int32) (x3 : Int32) (x4 : Int32) (x5 : Int32) (x6 : Int32) (x7 : Int32) (x8 : Int32) (t0 : Int32) (t1 : Int32) (z : ow_MS), fr (pf [1, 2, 3, 4, 5, 6, 7, 8, 9, 12] []) z0 z → Fo Prod.snd (pf [1, 2, 3, 4, 5, 6, 7, 8, 9, 12] []) z0 (go L x1 x2 x3 x4 x5 x6 x7 x8 t0 t1 z)) (hz : fr (pf [1, 2, 3, 4, 5, 6, 7, 8, 9, 12] []) z0 z)  : Fo Prod.snd (pf [1, 2, 3, 4, 5, 6, 7, 8, 9, 12] []) z0 (qm_X13_join_11 K go x1 x2 x3 x4 x5 x6 x7 x8 t0 t1 z) := by
  unfold qm_X13_join_11
  exact (fo_if (fo_cs1 (ff_X13_keep) (pf_sub (by decide) pf_0) hz (fun v46 z45 h_z45 => (fo_some h_z45))) (fo_if (fo_rdI (fun v47 => (hgo 12 _ _ _ _ _ _ _ _ _ _ z hz))) (fo_rdI (fun v48 => (hgo 12 _ _ _ _ _ _ _ _ _ _ z hz)))))
theorem fb_X13_join_12 {K : Nat} {z0 z : ow_MS}  {go : Nat → Int32 → Int32 → Int32 → Int32 → Int32 → Int32 → Int32 → Int32 → Int32 → Int32 → ow_MS → Option (Int32 × ow_MS)} {x1 : Int32} {x2 : Int32} {x3 : Int32} {x4 : Int32} {x5 : Int32} {x6 : Int32} {x7 : Int32} {x8 : Int32} {t0 : Int32} {t1 : Int32}  (hgo : ∀ (L : Nat) (x1 : Int32) (x2 : Int32) (x3 : Int32) (x4 : Int32) (x5 : Int32) (x6 : Int32) (x7 : Int32) (x8 : Int32) (t0 : Int32) (t1 : Int32) (z : ow_MS), fr (pf [1, 2, 3, 4, 5, 6, 7, 8, 9, 12] []) z0 z → Fo Prod.snd (pf [1, 2, 3, 4, 5, 6, 7, 8, 9, 12] []) z0 (go L x1 x2 x3 x4 x5 x6 x7 x8 t0 t1 z)) (hz : fr (pf [1, 2, 3, 4, 5, 6, 7, 8, 9, 12] []) z0 z)  : Fo Prod.snd (pf [1, 2, 3, 4, 5, 6, 7, 8, 9, 12] []) z0 (qm_X13_join_12 K go x1 x2 x3 x4 x5 x6 x7 x8 t0 t1 z) := by
  unfold qm_X13_join_12
  exact (fo_wrI (Or.inr (Or.inr (by decide))) hz (fun z49 h_z49 => (hgo 11 _ _ _ _ _ _ _ _ _ _ z49 h_z49)))
theorem fq_X13_join {K : Nat} {z0 : ow_MS}   : ∀ (k L : Nat) (x1 : Int32) (x2 : Int32) (x3 : Int32) (x4 : Int32) (x5 : Int32) (x6 : Int32) (x7 : Int32) (x8 : Int32) (t0 : Int32) (t1 : Int32) (z : ow_MS), fr (pf [1, 2, 3, 4, 5, 6, 7, 8, 9, 12] []) z0 z → Fo Prod.snd (pf [1, 2, 3, 4, 5, 6, 7, 8, 9, 12] []) z0 (q_X13_join K k L x1 x2 x3 x4 x5 x6 x7 x8 t0 t1 z)
  | 0 => by
    intros
    exact fo_none
  | k + 1 => by
    intro L x1 x2 x3 x4 x5 x6 x7 x8 t0 t1 z hz 
    show Fo Prod.snd (pf [1, 2, 3, 4, 5, 6, 7, 8, 9, 12] []) z0 (qb_X13_join K (q_X13_join K k) L x1 x2 x3 x4 x5 x6 x7 x8 t0 t1 z)
    unfold qb_X13_join
    split
    · exact fb_X13_join_0 (fq_X13_join k) hz 
    · exact fb_X13_join_1 (fq_X13_join k) hz 
    · exact fb_X13_join_2 (fq_X13_join k) hz 
    · exact fb_X13_join_3 (fq_X13_join k) hz 
    · exact fb_X13_join_4 (fq_X13_join k) hz 
    · exact fb_X13_join_5 (fq_X13_join k) hz 
    · exact fb_X13_join_6 (fq_X13_join k) hz 
    · exact fb_X13_join_7 (fq_X13_join k) hz 
    · exact fb_X13_join_8 (fq_X13_join k) hz 
    · exact fb_X13_join_9 (fq_X13_join k) hz 
    · exact fb_X13_join_10 (fq_X13_join k) hz 
    · exact fb_X13_join_11 (fq_X13_join k) hz 
    · exact fb_X13_join_12 (fq_X13_join k) hz 
    · exact fo_none
theorem ff_X13_join {K : Nat} {x1 : Int32} {x2 : Int32} {x3 : Int32} {x4 : Int32} {z : ow_MS}  : Fo Prod.snd (pf [1, 2, 3, 4, 5, 6, 7, 8, 9, 12] []) z (qe_X13_join K x1 x2 x3 x4 z) := fq_X13_join K 0 _ _ _ _ _ _ _ _ _ _ z fr_rf 
theorem fb_X12_copy_0 {K : Nat} {z0 z : ow_MS}  {go : Nat → Int32 → Int32 → Nat → Nat → ow_MS → Option ow_MS} {x2 : Int32} {x3 : Int32} {r0 : Nat} {r1 : Nat}  (hgo : ∀ (L : Nat) (x2 : Int32) (x3 : Int32) (r0 : Nat) (r1 : Nat) (z : ow_MS), fr (pf [] []) z0 z → (L = 0 ∨ L = 1 ∨ L = 2 → 1000 ≤ r0) → (L = 0 ∨ L = 1 ∨ L = 2 → 1000 ≤ r1) → Fo id (pf [] []) z0 (go L x2 x3 r0 r1 z)) (hz : fr (pf [] []) z0 z) (hr0 : 1000 ≤ r0) (hr1 : 1000 ≤ r1) : Fo id (pf [] []) z0 (qm_X12_copy_0 K go x2 x3 r0 r1 z) := by
  unfold qm_X12_copy_0
  exact (fo_cs0 (ff_X12_clear (by first | omega | decide)) (pf_sub (by decide) pf_0) hz (fun z1 h_z1 => (hgo 1 _ _ _ _ z1 h_z1 (fun _ => (by first | omega | decide)) (fun _ => (by first | omega | decide)))))
theorem fb_X12_copy_1 {K : Nat} {z0 z : ow_MS}  {go : Nat → Int32 → Int32 → Nat → Nat → ow_MS → Option ow_MS} {x2 : Int32} {x3 : Int32} {r0 : Nat} {r1 : Nat}  (hgo : ∀ (L : Nat) (x2 : Int32) (x3 : Int32) (r0 : Nat) (r1 : Nat) (z : ow_MS), fr (pf [] []) z0 z → (L = 0 ∨ L = 1 ∨ L = 2 → 1000 ≤ r0) → (L = 0 ∨ L = 1 ∨ L = 2 → 1000 ≤ r1) → Fo id (pf [] []) z0 (go L x2 x3 r0 r1 z)) (hz : fr (pf [] []) z0 z) (hr0 : 1000 ≤ r0) (hr1 : 1000 ≤ r1) : Fo id (pf [] []) z0 (qm_X12_copy_1 K go x2 x3 r0 r1 z) := by
  unfold qm_X12_copy_1
  exact (fo_rdF (fun v2 => (fo_if (fo_cs0 (ff_X12_signsOf (by first | omega | decide) (by first | omega | decide)) (pf_sub (by decide) pf_0) hz (fun z3 h_z3 => (fo_some h_z3))) (fo_rdI (fun v4 => (hgo 2 _ _ _ _ z hz (fun _ => (by first | omega | decide)) (fun _ => (by first | omega | decide))))))))
theorem fb_X12_copy_2 {K : Nat} {z0 z : ow_MS}  {go : Nat → Int32 → Int32 → Nat → Nat → ow_MS → Option ow_MS} {x2 : Int32} {x3 : Int32} {r0 : Nat} {r1 : Nat}  (hgo : ∀ (L : Nat) (x2 : Int32) (x3 : Int32) (r0 : Nat) (r1 : Nat) (z : ow_MS), fr (pf [] []) z0 z → (L = 0 ∨ L = 1 ∨ L = 2 → 1000 ≤ r0) → (L = 0 ∨ L = 1 ∨ L = 2 → 1000 ≤ r1) → Fo id (pf [] []) z0 (go L x2 x3 r0 r1 z)) (hz : fr (pf [] []) z0 z) (hr0 : 1000 ≤ r0) (hr1 : 1000 ≤ r1) : Fo id (pf [] []) z0 (qm_X12_copy_2 K go x2 x3 r0 r1 z) := by
  unfold qm_X12_copy_2
  exact (fo_rdI (fun v5 => (fo_if (fo_cs0 (ff_X12_end (by first | omega | decide)) (pf_sub (by decide) pf_0) hz (fun z6 h_z6 => (hgo 1 _ _ _ _ z6 h_z6 (fun _ => (by first | omega | decide)) (fun _ => (by first | omega | decide))))) (fo_rdI (fun v7 => (fo_rdI (fun v8 => (fo_cs0 (ff_X12_add (by first | omega | decide)) (pf_sub (by decide) pf_0) hz (fun z9 h_z9 => (hgo 2 _ _ _ _ z9 h_z9 (fun _ => (by first | omega | decide)) (fun _ => (by first | omega | decide))))))))))))
theorem fq_X12_copy {K : Nat} {z0 : ow_MS}   : ∀ (k L : Nat) (x2 : Int32) (x3 : Int32) (r0 : Nat) (r1 : Nat) (z : ow_MS), fr (pf [] []) z0 z → (L = 0 ∨ L = 1 ∨ L = 2 → 1000 ≤ r0) → (L = 0 ∨ L = 1 ∨ L = 2 → 1000 ≤ r1) → Fo id (pf [] []) z0 (q_X12_copy K k L x2 x3 r0 r1 z)
  | 0 => by
    intros
    exact fo_none
  | k + 1 => by
    intro L x2 x3 r0 r1 z hz h9_r0 h9_r1
    show Fo id (pf [] []) z0 (qb_X12_copy K (q_X12_copy K k) L x2 x3 r0 r1 z)
    unfold qb_X12_copy
    split
    · exact fb_X12_copy_0 (fq_X12_copy k) hz (h9_r0 (by decide)) (h9_r1 (by decide))
    · exact fb_X12_copy_1 (fq_X12_copy k) hz (h9_r0 (by decide)) (h9_r1 (by decide))
    · exact fb_X12_copy_2 (fq_X12_copy k) hz (h9_r0 (by decide)) (h9_r1 (by decide))
    · exact fo_none
theorem ff_X12_copy {K : Nat} {r0 : Nat} {r1 : Nat} {z : ow_MS} (hr0 : 1000 ≤ r0) (hr1 : 1000 ≤ r1) : Fo id (pf [] []) z (qe_X12_copy K r0 r1 z) := fq_X12_copy K 0 _ _ _ _ z fr_rf (fun _ => (by first | omega | decide)) (fun _ => (by first | omega | decide))
theorem fb_X13_offerRow_0 {K : Nat} {z0 z : ow_MS} {pr1 : Nat} {go : Nat → Int32 → Int32 → Int32 → Nat → ow_MS → Option (Int32 × ow_MS)} {x2 : Int32} {x3 : Int32} {x4 : Int32} {r1 : Nat}  (hgo : ∀ (L : Nat) (x2 : Int32) (x3 : Int32) (x4 : Int32) (r1 : Nat) (z : ow_MS), fr (pf [] [pr1]) z0 z → (L = 0 ∨ L = 1 ∨ L = 2 → r1 = pr1) → Fo Prod.snd (pf [] [pr1]) z0 (go L x2 x3 x4 r1 z)) (hz : fr (pf [] [pr1]) z0 z) (e_r1 : r1 = pr1) : Fo Prod.snd (pf [] [pr1]) z0 (qm_X13_offerRow_0 K go x2 x3 x4 r1 z) := by
  unfold qm_X13_offerRow_0
  exact (hgo 1 _ _ _ _ z hz (fun _ => e_r1))
theorem fb_X13_offerRow_1 {K : Nat} {z0 z : ow_MS} {pr1 : Nat} {go : Nat → Int32 → Int32 → Int32 → Nat → ow_MS → Option (Int32 × ow_MS)} {x2 : Int32} {x3 : Int32} {x4 : Int32} {r1 : Nat}  (hgo : ∀ (L : Nat) (x2 : Int32) (x3 : Int32) (x4 : Int32) (r1 : Nat) (z : ow_MS), fr (pf [] [pr1]) z0 z → (L = 0 ∨ L = 1 ∨ L = 2 → r1 = pr1) → Fo Prod.snd (pf [] [pr1]) z0 (go L x2 x3 x4 r1 z)) (hz : fr (pf [] [pr1]) z0 z) (e_r1 : r1 = pr1) : Fo Prod.snd (pf [] [pr1]) z0 (qm_X13_offerRow_1 K go x2 x3 x4 r1 z) := by
  unfold qm_X13_offerRow_1
  exact (fo_if (fo_if (fo_some hz) (hgo 2 _ _ _ _ z hz (fun _ => e_r1))) (fo_cs1 (ff_X13_isSame) (pf_sub (by decide) pf_0) hz (fun v2 z1 h_z1 => (fo_if (hgo 1 _ _ _ _ z1 h_z1 (fun _ => e_r1)) (fo_some h_z1)))))
theorem fb_X13_offerRow_2 {K : Nat} {z0 z : ow_MS} {pr1 : Nat} {go : Nat → Int32 → Int32 → Int32 → Nat → ow_MS → Option (Int32 × ow_MS)} {x2 : Int32} {x3 : Int32} {x4 : Int32} {r1 : Nat}  (hgo : ∀ (L : Nat) (x2 : Int32) (x3 : Int32) (x4 : Int32) (r1 : Nat) (z : ow_MS), fr (pf [] [pr1]) z0 z → (L = 0 ∨ L = 1 ∨ L = 2 → r1 = pr1) → Fo Prod.snd (pf [] [pr1]) z0 (go L x2 x3 x4 r1 z)) (hz : fr (pf [] [pr1]) z0 z) (e_r1 : r1 = pr1) : Fo Prod.snd (pf [] [pr1]) z0 (qm_X13_offerRow_2 K go x2 x3 x4 r1 z) := by
  unfold qm_X13_offerRow_2
  exact (fo_rdI (fun v3 => (fo_if (fo_some hz) (fo_rdI (fun v4 => (fo_wrI (Or.inr (Or.inl (by rw [e_r1]; simp))) hz (fun z5 h_z5 => (hgo 2 _ _ _ _ z5 h_z5 (fun _ => e_r1)))))))))
theorem fq_X13_offerRow {K : Nat} {z0 : ow_MS} {pr1 : Nat}  : ∀ (k L : Nat) (x2 : Int32) (x3 : Int32) (x4 : Int32) (r1 : Nat) (z : ow_MS), fr (pf [] [pr1]) z0 z → (L = 0 ∨ L = 1 ∨ L = 2 → r1 = pr1) → Fo Prod.snd (pf [] [pr1]) z0 (q_X13_offerRow K k L x2 x3 x4 r1 z)
  | 0 => by
    intros
    exact fo_none
  | k + 1 => by
    intro L x2 x3 x4 r1 z hz h9_r1
    show Fo Prod.snd (pf [] [pr1]) z0 (qb_X13_offerRow K (q_X13_offerRow K k) L x2 x3 x4 r1 z)
    unfold qb_X13_offerRow
    split
    · exact fb_X13_offerRow_0 (fq_X13_offerRow k) hz (h9_r1 (by decide))
    · exact fb_X13_offerRow_1 (fq_X13_offerRow k) hz (h9_r1 (by decide))
    · exact fb_X13_offerRow_2 (fq_X13_offerRow k) hz (h9_r1 (by decide))
    · exact fo_none
theorem ff_X13_offerRow {K : Nat} {r1 : Nat} {x2 : Int32} {x3 : Int32} {z : ow_MS}  : Fo Prod.snd (pf [] [r1]) z (qe_X13_offerRow K r1 x2 x3 z) := fq_X13_offerRow (pr1 := r1) K 0 _ _ _ _ z fr_rf (fun _ => rfl)
theorem fb_X13_visitsOf_0 {K : Nat} {z0 z : ow_MS}  {go : Nat → Int32 → Int32 → Int32 → Nat → Int32 → Int32 → ow_MS → Option (Int32 × ow_MS)} {x1 : Int32} {x2 : Int32} {x3 : Int32} {r0 : Nat} {t0 : Int32} {t1 : Int32}  (hgo : ∀ (L : Nat) (x1 : Int32) (x2 : Int32) (x3 : Int32) (r0 : Nat) (t0 : Int32) (t1 : Int32) (z : ow_MS), fr (pf [] []) z0 z → Fo Prod.snd (pf [] []) z0 (go L x1 x2 x3 r0 t0 t1 z)) (hz : fr (pf [] []) z0 z)  : Fo Prod.snd (pf [] []) z0 (qm_X13_visitsOf_0 K go x1 x2 x3 r0 t0 t1 z) := by
  unfold qm_X13_visitsOf_0
  exact (hgo 1 _ _ _ _ _ _ z hz)
theorem fb_X13_visitsOf_1 {K : Nat} {z0 z : ow_MS}  {go : Nat → Int32 → Int32 → Int32 → Nat → Int32 → Int32 → ow_MS → Option (Int32 × ow_MS)} {x1 : Int32} {x2 : Int32} {x3 : Int32} {r0 : Nat} {t0 : Int32} {t1 : Int32}  (hgo : ∀ (L : Nat) (x1 : Int32) (x2 : Int32) (x3 : Int32) (r0 : Nat) (t0 : Int32) (t1 : Int32) (z : ow_MS), fr (pf [] []) z0 z → Fo Prod.snd (pf [] []) z0 (go L x1 x2 x3 r0 t0 t1 z)) (hz : fr (pf [] []) z0 z)  : Fo Prod.snd (pf [] []) z0 (qm_X13_visitsOf_1 K go x1 x2 x3 r0 t0 t1 z) := by
  unfold qm_X13_visitsOf_1
  exact (fo_rdI (fun v1 => (fo_if (fo_some hz) (fo_rdI (fun v2 => (fo_if (hgo 2 _ _ _ _ _ _ z hz) (hgo 2 _ _ _ _ _ _ z hz)))))))
theorem fb_X13_visitsOf_2 {K : Nat} {z0 z : ow_MS}  {go : Nat → Int32 → Int32 → Int32 → Nat → Int32 → Int32 → ow_MS → Option (Int32 × ow_MS)} {x1 : Int32} {x2 : Int32} {x3 : Int32} {r0 : Nat} {t0 : Int32} {t1 : Int32}  (hgo : ∀ (L : Nat) (x1 : Int32) (x2 : Int32) (x3 : Int32) (r0 : Nat) (t0 : Int32) (t1 : Int32) (z : ow_MS), fr (pf [] []) z0 z → Fo Prod.snd (pf [] []) z0 (go L x1 x2 x3 r0 t0 t1 z)) (hz : fr (pf [] []) z0 z)  : Fo Prod.snd (pf [] []) z0 (qm_X13_visitsOf_2 K go x1 x2 x3 r0 t0 t1 z) := by
  unfold qm_X13_visitsOf_2
  exact (hgo 1 _ _ _ _ _ _ z hz)
theorem fq_X13_visitsOf {K : Nat} {z0 : ow_MS}   : ∀ (k L : Nat) (x1 : Int32) (x2 : Int32) (x3 : Int32) (r0 : Nat) (t0 : Int32) (t1 : Int32) (z : ow_MS), fr (pf [] []) z0 z → Fo Prod.snd (pf [] []) z0 (q_X13_visitsOf K k L x1 x2 x3 r0 t0 t1 z)
  | 0 => by
    intros
    exact fo_none
  | k + 1 => by
    intro L x1 x2 x3 r0 t0 t1 z hz 
    show Fo Prod.snd (pf [] []) z0 (qb_X13_visitsOf K (q_X13_visitsOf K k) L x1 x2 x3 r0 t0 t1 z)
    unfold qb_X13_visitsOf
    split
    · exact fb_X13_visitsOf_0 (fq_X13_visitsOf k) hz 
    · exact fb_X13_visitsOf_1 (fq_X13_visitsOf k) hz 
    · exact fb_X13_visitsOf_2 (fq_X13_visitsOf k) hz 
    · exact fo_none
theorem ff_X13_visitsOf {K : Nat} {r0 : Nat} {x1 : Int32} {z : ow_MS}  : Fo Prod.snd (pf [] []) z (qe_X13_visitsOf K r0 x1 z) := fq_X13_visitsOf K 0 _ _ _ _ _ _ z fr_rf 
theorem ff_X13_isLesser {K : Nat} {r0 : Nat} {x1 : Int32} {r2 : Nat} {x3 : Int32} {z : ow_MS}  : Fo Prod.snd (pf [] []) z (qe_X13_isLesser K r0 x1 r2 x3 z) := by
  unfold qe_X13_isLesser qm_X13_isLesser_0
  exact (fo_cs1 (ff_X13_visitsOf) (pf_sub (by decide) pf_0) fr_rf (fun v2 z1 h_z1 => (fo_cs1 (ff_X13_visitsOf) (pf_sub (by decide) pf_0) h_z1 (fun v4 z3 h_z3 => (fo_if (fo_cs1 (ff_X13_isBelow) (pf_sub (by decide) pf_0) h_z3 (fun v6 z5 h_z5 => (fo_okZ (fo_some h_z5)))) (fo_if (fo_okZ (fo_some h_z3)) (fo_okZ (fo_some h_z3))))))))
theorem fb_X13_offerList_0 {K : Nat} {z0 z : ow_MS}  {go : Nat → Int32 → Int32 → Int32 → ow_MS → Option ow_MS} {x1 : Int32} {x2 : Int32} {x3 : Int32}  (hgo : ∀ (L : Nat) (x1 : Int32) (x2 : Int32) (x3 : Int32) (z : ow_MS), fr (pf [20, 21, 22] []) z0 z → Fo id (pf [20, 21, 22] []) z0 (go L x1 x2 x3 z)) (hz : fr (pf [20, 21, 22] []) z0 z)  : Fo id (pf [20, 21, 22] []) z0 (qm_X13_offerList_0 K go x1 x2 x3 z) := by
  unfold qm_X13_offerList_0
  exact (fo_rdF (fun v1 => (hgo 1 _ _ _ z hz)))
theorem fb_X13_offerList_1 {K : Nat} {z0 z : ow_MS}  {go : Nat → Int32 → Int32 → Int32 → ow_MS → Option ow_MS} {x1 : Int32} {x2 : Int32} {x3 : Int32}  (hgo : ∀ (L : Nat) (x1 : Int32) (x2 : Int32) (x3 : Int32) (z : ow_MS), fr (pf [20, 21, 22] []) z0 z → Fo id (pf [20, 21, 22] []) z0 (go L x1 x2 x3 z)) (hz : fr (pf [20, 21, 22] []) z0 z)  : Fo id (pf [20, 21, 22] []) z0 (qm_X13_offerList_1 K go x1 x2 x3 z) := by
  unfold qm_X13_offerList_1
  exact (fo_if (fo_rdF (fun v2 => (fo_if (hgo 3 _ _ _ z hz) (fo_rdI (fun v3 => (fo_cs1 (ff_X13_isSame) (pf_sub (by decide) pf_0) hz (fun v5 z4 h_z4 => (fo_if (hgo 3 _ _ _ z4 h_z4) (fo_some h_z4))))))))) (fo_nzI (fo_rdI (fun v6 => (fo_cs1 (ff_X13_isLesser) (pf_sub (by decide) pf_0) hz (fun v8 z7 h_z7 => (fo_if (hgo 2 _ _ _ z7 h_z7) (hgo 2 _ _ _ z7 h_z7))))))))
theorem fb_X13_offerList_2 {K : Nat} {z0 z : ow_MS}  {go : Nat → Int32 → Int32 → Int32 → ow_MS → Option ow_MS} {x1 : Int32} {x2 : Int32} {x3 : Int32}  (hgo : ∀ (L : Nat) (x1 : Int32) (x2 : Int32) (x3 : Int32) (z : ow_MS), fr (pf [20, 21, 22] []) z0 z → Fo id (pf [20, 21, 22] []) z0 (go L x1 x2 x3 z)) (hz : fr (pf [20, 21, 22] []) z0 z)  : Fo id (pf [20, 21, 22] []) z0 (qm_X13_offerList_2 K go x1 x2 x3 z) := by
  unfold qm_X13_offerList_2
  exact (hgo 1 _ _ _ z hz)
theorem fb_X13_offerList_3 {K : Nat} {z0 z : ow_MS}  {go : Nat → Int32 → Int32 → Int32 → ow_MS → Option ow_MS} {x1 : Int32} {x2 : Int32} {x3 : Int32}  (hgo : ∀ (L : Nat) (x1 : Int32) (x2 : Int32) (x3 : Int32) (z : ow_MS), fr (pf [20, 21, 22] []) z0 z → Fo id (pf [20, 21, 22] []) z0 (go L x1 x2 x3 z)) (hz : fr (pf [20, 21, 22] []) z0 z)  : Fo id (pf [20, 21, 22] []) z0 (qm_X13_offerList_3 K go x1 x2 x3 z) := by
  unfold qm_X13_offerList_3
  exact (fo_rdF (fun v9 => (hgo 4 _ _ _ z hz)))
theorem fb_X13_offerList_4 {K : Nat} {z0 z : ow_MS}  {go : Nat → Int32 → Int32 → Int32 → ow_MS → Option ow_MS} {x1 : Int32} {x2 : Int32} {x3 : Int32}  (hgo : ∀ (L : Nat) (x1 : Int32) (x2 : Int32) (x3 : Int32) (z : ow_MS), fr (pf [20, 21, 22] []) z0 z → Fo id (pf [20, 21, 22] []) z0 (go L x1 x2 x3 z)) (hz : fr (pf [20, 21, 22] []) z0 z)  : Fo id (pf [20, 21, 22] []) z0 (qm_X13_offerList_4 K go x1 x2 x3 z) := by
  unfold qm_X13_offerList_4
  exact (fo_if (fo_rdF (fun v10 => (fo_wrI (Or.inl (by decide)) hz (fun z11 h_z11 => (hgo 5 _ _ _ z11 h_z11))))) (fo_rdI (fun v12 => (fo_wrI (Or.inl (by decide)) hz (fun z13 h_z13 => (hgo 4 _ _ _ z13 h_z13))))))
theorem fb_X13_offerList_5 {K : Nat} {z0 z : ow_MS}  {go : Nat → Int32 → Int32 → Int32 → ow_MS → Option ow_MS} {x1 : Int32} {x2 : Int32} {x3 : Int32}  (hgo : ∀ (L : Nat) (x1 : Int32) (x2 : Int32) (x3 : Int32) (z : ow_MS), fr (pf [20, 21, 22] []) z0 z → Fo id (pf [20, 21, 22] []) z0 (go L x1 x2 x3 z)) (hz : fr (pf [20, 21, 22] []) z0 z)  : Fo id (pf [20, 21, 22] []) z0 (qm_X13_offerList_5 K go x1 x2 x3 z) := by
  unfold qm_X13_offerList_5
  exact (fo_rdI (fun v14 => (fo_if (fo_rdF (fun v15 => (fo_wrF (Or.inl (by decide)) hz (fun z16 h_z16 => (fo_some h_z16))))) (fo_rdF (fun v17 => (fo_rdI (fun v18 => (fo_wrI (Or.inl (by decide)) hz (fun z19 h_z19 => (hgo 5 _ _ _ z19 h_z19))))))))))
theorem fq_X13_offerList {K : Nat} {z0 : ow_MS}   : ∀ (k L : Nat) (x1 : Int32) (x2 : Int32) (x3 : Int32) (z : ow_MS), fr (pf [20, 21, 22] []) z0 z → Fo id (pf [20, 21, 22] []) z0 (q_X13_offerList K k L x1 x2 x3 z)
  | 0 => by
    intros
    exact fo_none
  | k + 1 => by
    intro L x1 x2 x3 z hz 
    show Fo id (pf [20, 21, 22] []) z0 (qb_X13_offerList K (q_X13_offerList K k) L x1 x2 x3 z)
    unfold qb_X13_offerList
    split
    · exact fb_X13_offerList_0 (fq_X13_offerList k) hz 
    · exact fb_X13_offerList_1 (fq_X13_offerList k) hz 
    · exact fb_X13_offerList_2 (fq_X13_offerList k) hz 
    · exact fb_X13_offerList_3 (fq_X13_offerList k) hz 
    · exact fb_X13_offerList_4 (fq_X13_offerList k) hz 
    · exact fb_X13_offerList_5 (fq_X13_offerList k) hz 
    · exact fo_none
theorem ff_X13_offerList {K : Nat} {z : ow_MS}  : Fo id (pf [20, 21, 22] []) z (qe_X13_offerList K z) := fq_X13_offerList K 0 _ _ _ z fr_rf 
theorem ff_X13_offer {K : Nat} {z : ow_MS}  : Fo id (pf [2, 3, 4, 5, 6, 7, 8, 9, 20, 21, 22, 23, 24, 25, 26, 27, 29] []) z (qe_X13_offer K z) := by
  unfold qe_X13_offer qm_X13_offer_0
  exact (fo_cs0 (ff_X13_pack (by first | omega | decide)) (pf_sub (by decide) (pf_1 (Or.inl (by decide)))) fr_rf (fun z1 h_z1 => (fo_rdF (fun v2 => (fo_if (fo_rdF (fun v3 => (fo_cs1 (ff_X13_offerRow) (pf_sub (by decide) (pf_1 (Or.inl (by decide)))) h_z1 (fun v5 z4 h_z4 => (fo_wrF (Or.inl (by decide)) h_z4 (fun z6 h_z6 => (fo_some h_z6))))))) (fo_if (fo_cs0 (ff_X13_offerList) (pf_sub (by decide) pf_0) h_z1 (fun z7 h_z7 => (fo_some h_z7))) (fo_if (fo_rdF (fun v8 => (fo_cs1 (ff_X13_isSame) (pf_sub (by decide) pf_0) h_z1 (fun v10 z9 h_z9 => (fo_okZ (fo_wrF (Or.inl (by decide)) h_z9 (fun z11 h_z11 => (fo_some h_z11)))))))) (fo_if (fo_rdF (fun v12 => (fo_cs1 (ff_X13_offerRow) (pf_sub (by decide) (pf_1 (Or.inl (by decide)))) h_z1 (fun v14 z13 h_z13 => (fo_wrF (Or.inl (by decide)) h_z13 (fun z15 h_z15 => (fo_some h_z15))))))) fo_none))))))))
theorem fb_X13_threeChange_0 {K : Nat} {z0 z : ow_MS}  {go : Nat → Int32 → Int32 → Int32 → Int32 → Int32 → Nat → Int32 → Int32 → Int32 → ow_MS → Option ow_MS} {x2 : Int32} {x3 : Int32} {x4 : Int32} {x5 : Int32} {x6 : Int32} {r1 : Nat} {t0 : Int32} {t1 : Int32} {t2 : Int32}  (hgo : ∀ (L : Nat) (x2 : Int32) (x3 : Int32) (x4 : Int32) (x5 : Int32) (x6 : Int32) (r1 : Nat) (t0 : Int32) (t1 : Int32) (t2 : Int32) (z : ow_MS), fr (pf [2, 3, 4, 5, 6, 7, 8, 9, 20, 21, 22, 23, 24, 25, 26, 27, 29, 33, 34] []) z0 z → (L = 0 ∨ L = 1 ∨ L = 2 ∨ L = 3 ∨ L = 4 ∨ L = 5 ∨ L = 6 ∨ L = 7 ∨ L = 8 → 1000 ≤ r1) → Fo id (pf [2, 3, 4, 5, 6, 7, 8, 9, 20, 21, 22, 23, 24, 25, 26, 27, 29, 33, 34] []) z0 (go L x2 x3 x4 x5 x6 r1 t0 t1 t2 z)) (hz : fr (pf [2, 3, 4, 5, 6, 7, 8, 9, 20, 21, 22, 23, 24, 25, 26, 27, 29, 33, 34] []) z0 z) (hr1 : 1000 ≤ r1) : Fo id (pf [2, 3, 4, 5, 6, 7, 8, 9, 20, 21, 22, 23, 24, 25, 26, 27, 29, 33, 34] []) z0 (qm_X13_threeChange_0 K go x2 x3 x4 x5 x6 r1 t0 t1 t2 z) := by
  unfold qm_X13_threeChange_0
  exact (fo_cs0 (ff_X12_walk (by first | omega | decide)) (pf_sub (by decide) pf_0) hz (fun z1 h_z1 => (hgo 1 _ _ _ _ _ _ _ _ _ z1 h_z1 (fun _ => (by first | omega | decide)))))
theorem fb_X13_threeChange_1 {K : Nat} {z0 z : ow_MS}  {go : Nat → Int32 → Int32 → Int32 → Int32 → Int32 → Nat → Int32 → Int32 → Int32 → ow_MS → Option ow_MS} {x2 : Int32} {x3 : Int32} {x4 : Int32} {x5 : Int32} {x6 : Int32} {r1 : Nat} {t0 : Int32} {t1 : Int32} {t2 : Int32}  (hgo : ∀ (L : Nat) (x2 : Int32) (x3 : Int32) (x4 : Int32) (x5 : Int32) (x6 : Int32) (r1 : Nat) (t0 : Int32) (t1 : Int32) (t2 : Int32) (z : ow_MS), fr (pf [2, 3, 4, 5, 6, 7, 8, 9, 20, 21, 22, 23, 24, 25, 26, 27, 29, 33, 34] []) z0 z → (L = 0 ∨ L = 1 ∨ L = 2 ∨ L = 3 ∨ L = 4 ∨ L = 5 ∨ L = 6 ∨ L = 7 ∨ L = 8 → 1000 ≤ r1) → Fo id (pf [2, 3, 4, 5, 6, 7, 8, 9, 20, 21, 22, 23, 24, 25, 26, 27, 29, 33, 34] []) z0 (go L x2 x3 x4 x5 x6 r1 t0 t1 t2 z)) (hz : fr (pf [2, 3, 4, 5, 6, 7, 8, 9, 20, 21, 22, 23, 24, 25, 26, 27, 29, 33, 34] []) z0 z) (hr1 : 1000 ≤ r1) : Fo id (pf [2, 3, 4, 5, 6, 7, 8, 9, 20, 21, 22, 23, 24, 25, 26, 27, 29, 33, 34] []) z0 (qm_X13_threeChange_1 K go x2 x3 x4 x5 x6 r1 t0 t1 t2 z) := by
  unfold qm_X13_threeChange_1
  exact (fo_rdF (fun v2 => (fo_if (fo_some hz) (fo_rdI (fun v3 => (fo_if (hgo 2 _ _ _ _ _ _ _ _ _ z hz (fun _ => (by first | omega | decide))) (hgo 8 _ _ _ _ _ _ _ _ _ z hz (fun _ => (by first | omega | decide)))))))))
theorem fb_X13_threeChange_2 {K : Nat} {z0 z : ow_MS}  {go : Nat → Int32 → Int32 → Int32 → Int32 → Int32 → Nat → Int32 → Int32 → Int32 → ow_MS → Option ow_MS} {x2 : Int32} {x3 : Int32} {x4 : Int32} {x5 : Int32} {x6 : Int32} {r1 : Nat} {t0 : Int32} {t1 : Int32} {t2 : Int32}  (hgo : ∀ (L : Nat) (x2 : Int32) (x3 : Int32) (x4 : Int32) (x5 : Int32) (x6 : Int32) (r1 : Nat) (t0 : Int32) (t1 : Int32) (t2 : Int32) (z : ow_MS), fr (pf [2, 3, 4, 5, 6, 7, 8, 9, 20, 21, 22, 23, 24, 25, 26, 27, 29, 33, 34] []) z0 z → (L = 0 ∨ L = 1 ∨ L = 2 ∨ L = 3 ∨ L = 4 ∨ L = 5 ∨ L = 6 ∨ L = 7 ∨ L = 8 → 1000 ≤ r1) → Fo id (pf [2, 3, 4, 5, 6, 7, 8, 9, 20, 21, 22, 23, 24, 25, 26, 27, 29, 33, 34] []) z0 (go L x2 x3 x4 x5 x6 r1 t0 t1 t2 z)) (hz : fr (pf [2, 3, 4, 5, 6, 7, 8, 9, 20, 21, 22, 23, 24, 25, 26, 27, 29, 33, 34] []) z0 z) (hr1 : 1000 ≤ r1) : Fo id (pf [2, 3, 4, 5, 6, 7, 8, 9, 20, 21, 22, 23, 24, 25, 26, 27, 29, 33, 34] []) z0 (qm_X13_threeChange_2 K go x2 x3 x4 x5 x6 r1 t0 t1 t2 z) := by
  unfold qm_X13_threeChange_2
  exact (fo_rdF (fun v4 => (fo_if (fo_if (hgo 8 _ _ _ _ _ _ _ _ _ z hz (fun _ => (by first | omega | decide))) (fo_rdI (fun v5 => (fo_rdI (fun v6 => (fo_if (hgo 8 _ _ _ _ _ _ _ _ _ z hz (fun _ => (by first | omega | decide))) (fo_rdI (fun v7 => (fo_rdI (fun v8 => (fo_if (hgo 8 _ _ _ _ _ _ _ _ _ z hz (fun _ => (by first | omega | decide))) (fo_rdI (fun v9 => (fo_rdI (fun v10 => (fo_if (hgo 8 _ _ _ _ _ _ _ _ _ z hz (fun _ => (by first | omega | decide))) (fo_cs0 (ff_X12_copy (by first | omega | decide) (by first | omega | decide)) (pf_sub (by decide) pf_0) hz (fun z11 h_z11 => (hgo 7 _ _ _ _ _ _ _ _ _ z11 h_z11 (fun _ => (by first | omega | decide))))))))))))))))))))) (fo_rdI (fun v12 => (fo_if (fo_wrI (Or.inl (by decide)) hz (fun z13 h_z13 => (fo_if (fo_rdI (fun v14 => (hgo 3 _ _ _ _ _ _ _ _ _ z13 h_z13 (fun _ => (by first | omega | decide))))) (hgo 3 _ _ _ _ _ _ _ _ _ z13 h_z13 (fun _ => (by first | omega | decide)))))) (hgo 6 _ _ _ _ _ _ _ _ _ z hz (fun _ => (by first | omega | decide)))))))))
theorem fb_X13_threeChange_3 {K : Nat} {z0 z : ow_MS}  {go : Nat → Int32 → Int32 → Int32 → Int32 → Int32 → Nat → Int32 → Int32 → Int32 → ow_MS → Option ow_MS} {x2 : Int32} {x3 : Int32} {x4 : Int32} {x5 : Int32} {x6 : Int32} {r1 : Nat} {t0 : Int32} {t1 : Int32} {t2 : Int32}  (hgo : ∀ (L : Nat) (x2 : Int32) (x3 : Int32) (x4 : Int32) (x5 : Int32) (x6 : Int32) (r1 : Nat) (t0 : Int32) (t1 : Int32) (t2 : Int32) (z : ow_MS), fr (pf [2, 3, 4, 5, 6, 7, 8, 9, 20, 21, 22, 23, 24, 25, 26, 27, 29, 33, 34] []) z0 z → (L = 0 ∨ L = 1 ∨ L = 2 ∨ L = 3 ∨ L = 4 ∨ L = 5 ∨ L = 6 ∨ L = 7 ∨ L = 8 → 1000 ≤ r1) → Fo id (pf [2, 3, 4, 5, 6, 7, 8, 9, 20, 21, 22, 23, 24, 25, 26, 27, 29, 33, 34] []) z0 (go L x2 x3 x4 x5 x6 r1 t0 t1 t2 z)) (hz : fr (pf [2, 3, 4, 5, 6, 7, 8, 9, 20, 21, 22, 23, 24, 25, 26, 27, 29, 33, 34] []) z0 z) (hr1 : 1000 ≤ r1) : Fo id (pf [2, 3, 4, 5, 6, 7, 8, 9, 20, 21, 22, 23, 24, 25, 26, 27, 29, 33, 34] []) z0 (qm_X13_threeChange_3 K go x2 x3 x4 x5 x6 r1 t0 t1 t2 z) := by
  unfold qm_X13_threeChange_3
  exact (fo_rdI (fun v15 => (fo_wrI (Or.inl (by decide)) hz (fun z16 h_z16 => (fo_rdI (fun v17 => (fo_if (fo_rdI (fun v18 => (fo_rdI (fun v19 => (fo_if (hgo 5 _ _ _ _ _ _ _ _ _ z16 h_z16 (fun _ => (by first | omega | decide))) (hgo 4 _ _ _ _ _ _ _ _ _ z16 h_z16 (fun _ => (by first | omega | decide)))))))) (hgo 4 _ _ _ _ _ _ _ _ _ z16 h_z16 (fun _ => (by first | omega | decide))))))))))
theorem fb_X13_threeChange_4 {K : Nat} {z0 z : ow_MS}  {go : Nat → Int32 → Int32 → Int32 → Int32 → Int32 → Nat → Int32 → Int32 → Int32 → ow_MS → Option ow_MS} {x2 : Int32} {x3 : Int32} {x4 : Int32} {x5 : Int32} {x6 : Int32} {r1 : Nat} {t0 : Int32} {t1 : Int32} {t2 : Int32}  (hgo : ∀ (L : Nat) (x2 : Int32) (x3 : Int32) (x4 : Int32) (x5 : Int32) (x6 : Int32) (r1 : Nat) (t0 : Int32) (t1 : Int32) (t2 : Int32) (z : ow_MS), fr (pf [2, 3, 4, 5, 6, 7, 8, 9, 20, 21, 22, 23, 24, 25, 26, 27, 29, 33, 34] []) z0 z → (L = 0 ∨ L = 1 ∨ L = 2 ∨ L = 3 ∨ L = 4 ∨ L = 5 ∨ L = 6 ∨ L = 7 ∨ L = 8 → 1000 ≤ r1) → Fo id (pf [2, 3, 4, 5, 6, 7, 8, 9, 20, 21, 22, 23, 24, 25, 26, 27, 29, 33, 34] []) z0 (go L x2 x3 x4 x5 x6 r1 t0 t1 t2 z)) (hz : fr (pf [2, 3, 4, 5, 6, 7, 8, 9, 20, 21, 22, 23, 24, 25, 26, 27, 29, 33, 34] []) z0 z) (hr1 : 1000 ≤ r1) : Fo id (pf [2, 3, 4, 5, 6, 7, 8, 9, 20, 21, 22, 23, 24, 25, 26, 27, 29, 33, 34] []) z0 (qm_X13_threeChange_4 K go x2 x3 x4 x5 x6 r1 t0 t1 t2 z) := by
  unfold qm_X13_threeChange_4
  exact (hgo 5 _ _ _ _ _ _ _ _ _ z hz (fun _ => (by first | omega | decide)))
theorem fb_X13_threeChange_5 {K : Nat} {z0 z : ow_MS}  {go : Nat → Int32 → Int32 → Int32 → Int32 → Int32 → Nat → Int32 → Int32 → Int32 → ow_MS → Option ow_MS} {x2 : Int32} {x3 : Int32} {x4 : Int32} {x5 : Int32} {x6 : Int32} {r1 : Nat} {t0 : Int32} {t1 : Int32} {t2 : Int32}  (hgo : ∀ (L : Nat) (x2 : Int32) (x3 : Int32) (x4 : Int32) (x5 : Int32) (x6 : Int32) (r1 : Nat) (t0 : Int32) (t1 : Int32) (t2 : Int32) (z : ow_MS), fr (pf [2, 3, 4, 5, 6, 7, 8, 9, 20, 21, 22, 23, 24, 25, 26, 27, 29, 33, 34] []) z0 z → (L = 0 ∨ L = 1 ∨ L = 2 ∨ L = 3 ∨ L = 4 ∨ L = 5 ∨ L = 6 ∨ L = 7 ∨ L = 8 → 1000 ≤ r1) → Fo id (pf [2, 3, 4, 5, 6, 7, 8, 9, 20, 21, 22, 23, 24, 25, 26, 27, 29, 33, 34] []) z0 (go L x2 x3 x4 x5 x6 r1 t0 t1 t2 z)) (hz : fr (pf [2, 3, 4, 5, 6, 7, 8, 9, 20, 21, 22, 23, 24, 25, 26, 27, 29, 33, 34] []) z0 z) (hr1 : 1000 ≤ r1) : Fo id (pf [2, 3, 4, 5, 6, 7, 8, 9, 20, 21, 22, 23, 24, 25, 26, 27, 29, 33, 34] []) z0 (qm_X13_threeChange_5 K go x2 x3 x4 x5 x6 r1 t0 t1 t2 z) := by
  unfold qm_X13_threeChange_5
  exact (hgo 6 _ _ _ _ _ _ _ _ _ z hz (fun _ => (by first | omega | decide)))
theorem fb_X13_threeChange_6 {K : Nat} {z0 z : ow_MS}  {go : Nat → Int32 → Int32 → Int32 → Int32 → Int32 → Nat → Int32 → Int32 → Int32 → ow_MS → Option ow_MS} {x2 : Int32} {x3 : Int32} {x4 : Int32} {x5 : Int32} {x6 : Int32} {r1 : Nat} {t0 : Int32} {t1 : Int32} {t2 : Int32}  (hgo : ∀ (L : Nat) (x2 : Int32) (x3 : Int32) (x4 : Int32) (x5 : Int32) (x6 : Int32) (r1 : Nat) (t0 : Int32) (t1 : Int32) (t2 : Int32) (z : ow_MS), fr (pf [2, 3, 4, 5, 6, 7, 8, 9, 20, 21, 22, 23, 24, 25, 26, 27, 29, 33, 34] []) z0 z → (L = 0 ∨ L = 1 ∨ L = 2 ∨ L = 3 ∨ L = 4 ∨ L = 5 ∨ L = 6 ∨ L = 7 ∨ L = 8 → 1000 ≤ r1) → Fo id (pf [2, 3, 4, 5, 6, 7, 8, 9, 20, 21, 22, 23, 24, 25, 26, 27, 29, 33, 34] []) z0 (go L x2 x3 x4 x5 x6 r1 t0 t1 t2 z)) (hz : fr (pf [2, 3, 4, 5, 6, 7, 8, 9, 20, 21, 22, 23, 24, 25, 26, 27, 29, 33, 34] []) z0 z) (hr1 : 1000 ≤ r1) : Fo id (pf [2, 3, 4, 5, 6, 7, 8, 9, 20, 21, 22, 23, 24, 25, 26, 27, 29, 33, 34] []) z0 (qm_X13_threeChange_6 K go x2 x3 x4 x5 x6 r1 t0 t1 t2 z) := by
  unfold qm_X13_threeChange_6
  exact (hgo 2 _ _ _ _ _ _ _ _ _ z hz (fun _ => (by first | omega | decide)))
theorem fb_X13_threeChange_7 {K : Nat} {z0 z : ow_MS}  {go : Nat → Int32 → Int32 → Int32 → Int32 → Int32 → Nat → Int32 → Int32 → Int32 → ow_MS → Option ow_MS} {x2 : Int32} {x3 : Int32} {x4 : Int32} {x5 : Int32} {x6 : Int32} {r1 : Nat} {t0 : Int32} {t1 : Int32} {t2 : Int32}  (hgo : ∀ (L : Nat) (x2 : Int32) (x3 : Int32) (x4 : Int32) (x5 : Int32) (x6 : Int32) (r1 : Nat) (t0 : Int32) (t1 : Int32) (t2 : Int32) (z : ow_MS), fr (pf [2, 3, 4, 5, 6, 7, 8, 9, 20, 21, 22, 23, 24, 25, 26, 27, 29, 33, 34] []) z0 z → (L = 0 ∨ L = 1 ∨ L = 2 ∨ L = 3 ∨ L = 4 ∨ L = 5 ∨ L = 6 ∨ L = 7 ∨ L = 8 → 1000 ≤ r1) → Fo id (pf [2, 3, 4, 5, 6, 7, 8, 9, 20, 21, 22, 23, 24, 25, 26, 27, 29, 33, 34] []) z0 (go L x2 x3 x4 x5 x6 r1 t0 t1 t2 z)) (hz : fr (pf [2, 3, 4, 5, 6, 7, 8, 9, 20, 21, 22, 23, 24, 25, 26, 27, 29, 33, 34] []) z0 z) (hr1 : 1000 ≤ r1) : Fo id (pf [2, 3, 4, 5, 6, 7, 8, 9, 20, 21, 22, 23, 24, 25, 26, 27, 29, 33, 34] []) z0 (qm_X13_threeChange_7 K go x2 x3 x4 x5 x6 r1 t0 t1 t2 z) := by
  unfold qm_X13_threeChange_7
  exact (fo_if (fo_cs0 (ff_X13_offer) (pf_sub (by decide) pf_0) hz (fun z20 h_z20 => (hgo 8 _ _ _ _ _ _ _ _ _ z20 h_z20 (fun _ => (by first | omega | decide))))) (fo_rdI (fun v21 => (fo_rdI (fun v22 => (fo_rdI (fun v23 => (fo_wrI (Or.inr (Or.inr (by decide))) hz (fun z24 h_z24 => (fo_rdI (fun v25 => (fo_wrI (Or.inr (Or.inr (by decide))) h_z24 (fun z26 h_z26 => (fo_rdI (fun v27 => (fo_wrI (Or.inr (Or.inr (by decide))) h_z26 (fun z28 h_z28 => (fo_rdI (fun v29 => (fo_wrI (Or.inr (Or.inr (by decide))) h_z28 (fun z30 h_z30 => (hgo 7 _ _ _ _ _ _ _ _ _ z30 h_z30 (fun _ => (by first | omega | decide))))))))))))))))))))))))
theorem fb_X13_threeChange_8 {K : Nat} {z0 z : ow_MS}  {go : Nat → Int32 → Int32 → Int32 → Int32 → Int32 → Nat → Int32 → Int32 → Int32 → ow_MS → Option ow_MS} {x2 : Int32} {x3 : Int32} {x4 : Int32} {x5 : Int32} {x6 : Int32} {r1 : Nat} {t0 : Int32} {t1 : Int32} {t2 : Int32}  (hgo : ∀ (L : Nat) (x2 : Int32) (x3 : Int32) (x4 : Int32) (x5 : Int32) (x6 : Int32) (r1 : Nat) (t0 : Int32) (t1 : Int32) (t2 : Int32) (z : ow_MS), fr (pf [2, 3, 4, 5, 6, 7, 8, 9, 20, 21, 22, 23, 24, 25, 26, 27, 29, 33, 34] []) z0 z → (L = 0 ∨ L = 1 ∨ L = 2 ∨ L = 3 ∨ L = 4 ∨ L = 5 ∨ L = 6 ∨ L = 7 ∨ L = 8 → 1000 ≤ r1) → Fo id (pf [2, 3, 4, 5, 6, 7, 8, 9, 20, 21, 22, 23, 24, 25, 26, 27, 29, 33, 34] []) z0 (go L x2 x3 x4 x5 x6 r1 t0 t1 t2 z)) (hz : fr (pf [2, 3, 4, 5, 6, 7, 8, 9, 20, 21, 22, 23, 24, 25, 26, 27, 29, 33, 34] []) z0 z) (hr1 : 1000 ≤ r1) : Fo id (pf [2, 3, 4, 5, 6, 7, 8, 9, 20, 21, 22, 23, 24, 25, 26, 27, 29, 33, 34] []) z0 (qm_X13_threeChange_8 K go x2 x3 x4 x5 x6 r1 t0 t1 t2 z) := by
  unfold qm_X13_threeChange_8
  exact (hgo 1 _ _ _ _ _ _ _ _ _ z hz (fun _ => (by first | omega | decide)))
theorem fq_X13_threeChange {K : Nat} {z0 : ow_MS}   : ∀ (k L : Nat) (x2 : Int32) (x3 : Int32) (x4 : Int32) (x5 : Int32) (x6 : Int32) (r1 : Nat) (t0 : Int32) (t1 : Int32) (t2 : Int32) (z : ow_MS), fr (pf [2, 3, 4, 5, 6, 7, 8, 9, 20, 21, 22, 23, 24, 25, 26, 27, 29, 33, 34] []) z0 z → (L = 0 ∨ L = 1 ∨ L = 2 ∨ L = 3 ∨ L = 4 ∨ L = 5 ∨ L = 6 ∨ L = 7 ∨ L = 8 → 1000 ≤ r1) → Fo id (pf [2, 3, 4, 5, 6, 7, 8, 9, 20, 21, 22, 23, 24, 25, 26, 27, 29, 33, 34] []) z0 (q_X13_threeChange K k L x2 x3 x4 x5 x6 r1 t0 t1 t2 z)
  | 0 => by
    intros
    exact fo_none
  | k + 1 => by
    intro L x2 x3 x4 x5 x6 r1 t0 t1 t2 z hz h9_r1
    show Fo id (pf [2, 3, 4, 5, 6, 7, 8, 9, 20, 21, 22, 23, 24, 25, 26, 27, 29, 33, 34] []) z0 (qb_X13_threeChange K (q_X13_threeChange K k) L x2 x3 x4 x5 x6 r1 t0 t1 t2 z)
    unfold qb_X13_threeChange
    split
    · exact fb_X13_threeChange_0 (fq_X13_threeChange k) hz (h9_r1 (by decide))
    · exact fb_X13_threeChange_1 (fq_X13_threeChange k) hz (h9_r1 (by decide))
    · exact fb_X13_threeChange_2 (fq_X13_threeChange k) hz (h9_r1 (by decide))
    · exact fb_X13_threeChange_3 (fq_X13_threeChange k) hz (h9_r1 (by decide))
    · exact fb_X13_threeChange_4 (fq_X13_threeChange k) hz (h9_r1 (by decide))
    · exact fb_X13_threeChange_5 (fq_X13_threeChange k) hz (h9_r1 (by decide))
    · exact fb_X13_threeChange_6 (fq_X13_threeChange k) hz (h9_r1 (by decide))
    · exact fb_X13_threeChange_7 (fq_X13_threeChange k) hz (h9_r1 (by decide))
    · exact fb_X13_threeChange_8 (fq_X13_threeChange k) hz (h9_r1 (by decide))
    · exact fo_none
theorem ff_X13_threeChange {K : Nat} {r1 : Nat} {z : ow_MS} (hr1 : 1000 ≤ r1) : Fo id (pf [2, 3, 4, 5, 6, 7, 8, 9, 20, 21, 22, 23, 24, 25, 26, 27, 29, 33, 34] []) z (qe_X13_threeChange K r1 z) := fq_X13_threeChange K 0 _ _ _ _ _ _ _ _ _ z fr_rf (fun _ => (by first | omega | decide))
theorem fb_X13_isGap_0 {K : Nat} {z0 z : ow_MS}  {go : Nat → Int32 → Nat → ow_MS → Option (Int32 × ow_MS)} {x1 : Int32} {r0 : Nat}  (hgo : ∀ (L : Nat) (x1 : Int32) (r0 : Nat) (z : ow_MS), fr (pf [] []) z0 z → (L = 0 ∨ L = 1 → 1000 ≤ r0) → Fo Prod.snd (pf [] []) z0 (go L x1 r0 z)) (hz : fr (pf [] []) z0 z) (hr0 : 1000 ≤ r0) : Fo Prod.snd (pf [] []) z0 (qm_X13_isGap_0 K go x1 r0 z) := by
  unfold qm_X13_isGap_0
  exact (fo_rdF (fun v1 => (fo_if (hgo 1 _ _ z hz (fun _ => (by first | omega | decide))) (fo_rdF (fun v2 => (fo_cs1 (ff_X12_isCircle (by first | omega | decide)) (pf_sub (by decide) pf_0) hz (fun v4 z3 h_z3 => (fo_if (fo_okZ (fo_some h_z3)) (hgo 1 _ _ z3 h_z3 (fun _ => (by first | omega | decide)))))))))))
theorem fb_X13_isGap_1 {K : Nat} {z0 z : ow_MS}  {go : Nat → Int32 → Nat → ow_MS → Option (Int32 × ow_MS)} {x1 : Int32} {r0 : Nat}  (hgo : ∀ (L : Nat) (x1 : Int32) (r0 : Nat) (z : ow_MS), fr (pf [] []) z0 z → (L = 0 ∨ L = 1 → 1000 ≤ r0) → Fo Prod.snd (pf [] []) z0 (go L x1 r0 z)) (hz : fr (pf [] []) z0 z) (hr0 : 1000 ≤ r0) : Fo Prod.snd (pf [] []) z0 (qm_X13_isGap_1 K go x1 r0 z) := by
  unfold qm_X13_isGap_1
  exact (fo_okZ (fo_some hz))
theorem fq_X13_isGap {K : Nat} {z0 : ow_MS}   : ∀ (k L : Nat) (x1 : Int32) (r0 : Nat) (z : ow_MS), fr (pf [] []) z0 z → (L = 0 ∨ L = 1 → 1000 ≤ r0) → Fo Prod.snd (pf [] []) z0 (q_X13_isGap K k L x1 r0 z)
  | 0 => by
    intros
    exact fo_none
  | k + 1 => by
    intro L x1 r0 z hz h9_r0
    show Fo Prod.snd (pf [] []) z0 (qb_X13_isGap K (q_X13_isGap K k) L x1 r0 z)
    unfold qb_X13_isGap
    split
    · exact fb_X13_isGap_0 (fq_X13_isGap k) hz (h9_r0 (by decide))
    · exact fb_X13_isGap_1 (fq_X13_isGap k) hz (h9_r0 (by decide))
    · exact fo_none
theorem ff_X13_isGap {K : Nat} {r0 : Nat} {x1 : Int32} {z : ow_MS} (hr0 : 1000 ≤ r0) : Fo Prod.snd (pf [] []) z (qe_X13_isGap K r0 x1 z) := fq_X13_isGap K 0 _ _ z fr_rf (fun _ => (by first | omega | decide))
theorem ff_X13_put {K : Nat} {x1 : Int32} {x2 : Int32} {x3 : Int32} {z : ow_MS}  : Fo id (pf [31, 32] []) z (qe_X13_put K x1 x2 x3 z) := by
  unfold qe_X13_put qm_X13_put_0
  exact (fo_wrI (Or.inl (by decide)) fr_rf (fun z1 h_z1 => (fo_wrI (Or.inl (by decide)) h_z1 (fun z2 h_z2 => (fo_some h_z2)))))
theorem fb_X13_putAt_0 {K : Nat} {z0 z : ow_MS}  {go : Nat → Int32 → Int32 → Int32 → ow_MS → Option ow_MS} {x1 : Int32} {x2 : Int32} {x3 : Int32}  (hgo : ∀ (L : Nat) (x1 : Int32) (x2 : Int32) (x3 : Int32) (z : ow_MS), fr (pf [] []) z0 z → Fo id (pf [] []) z0 (go L x1 x2 x3 z)) (hz : fr (pf [] []) z0 z)  : Fo id (pf [] []) z0 (qm_X13_putAt_0 K go x1 x2 x3 z) := by
  unfold qm_X13_putAt_0
  exact (fo_if (fo_rdI (fun v1 => (fo_rdI (fun v2 => (fo_cs0 (ff_X12_add (by first | omega | decide)) (pf_sub (by decide) pf_0) hz (fun z3 h_z3 => (fo_rdI (fun v4 => (fo_rdI (fun v5 => (fo_cs0 (ff_X12_add (by first | omega | decide)) (pf_sub (by decide) pf_0) h_z3 (fun z6 h_z6 => (hgo 1 _ _ _ z6 h_z6))))))))))))) (hgo 1 _ _ _ z hz))
theorem fb_X13_putAt_1 {K : Nat} {z0 z : ow_MS}  {go : Nat → Int32 → Int32 → Int32 → ow_MS → Option ow_MS} {x1 : Int32} {x2 : Int32} {x3 : Int32}  (hgo : ∀ (L : Nat) (x1 : Int32) (x2 : Int32) (x3 : Int32) (z : ow_MS), fr (pf [] []) z0 z → Fo id (pf [] []) z0 (go L x1 x2 x3 z)) (hz : fr (pf [] []) z0 z)  : Fo id (pf [] []) z0 (qm_X13_putAt_1 K go x1 x2 x3 z) := by
  unfold qm_X13_putAt_1
  exact (fo_if (fo_rdI (fun v7 => (fo_rdI (fun v8 => (fo_cs0 (ff_X12_add (by first | omega | decide)) (pf_sub (by decide) pf_0) hz (fun z9 h_z9 => (fo_rdI (fun v10 => (fo_rdI (fun v11 => (fo_cs0 (ff_X12_add (by first | omega | decide)) (pf_sub (by decide) pf_0) h_z9 (fun z12 h_z12 => (fo_some h_z12))))))))))))) (fo_some hz))
theorem fq_X13_putAt {K : Nat} {z0 : ow_MS}   : ∀ (k L : Nat) (x1 : Int32) (x2 : Int32) (x3 : Int32) (z : ow_MS), fr (pf [] []) z0 z → Fo id (pf [] []) z0 (q_X13_putAt K k L x1 x2 x3 z)
  | 0 => by
    intros
    exact fo_none
  | k + 1 => by
    intro L x1 x2 x3 z hz 
    show Fo id (pf [] []) z0 (qb_X13_putAt K (q_X13_putAt K k) L x1 x2 x3 z)
    unfold qb_X13_putAt
    split
    · exact fb_X13_putAt_0 (fq_X13_putAt k) hz 
    · exact fb_X13_putAt_1 (fq_X13_putAt k) hz 
    · exact fo_none
theorem ff_X13_putAt {K : Nat} {x1 : Int32} {x2 : Int32} {x3 : Int32} {z : ow_MS}  : Fo id (pf [] []) z (qe_X13_putAt K x1 x2 x3 z) := fq_X13_putAt K 0 _ _ _ z fr_rf 
theorem fb_X13_build_0 {K : Nat} {z0 z : ow_MS}  {go : Nat → Int32 → Int32 → Int32 → Int32 → Nat → ow_MS → Option ow_MS} {x2 : Int32} {x3 : Int32} {x4 : Int32} {x5 : Int32} {r1 : Nat}  (hgo : ∀ (L : Nat) (x2 : Int32) (x3 : Int32) (x4 : Int32) (x5 : Int32) (r1 : Nat) (z : ow_MS), fr (pf [] []) z0 z → (L = 0 ∨ L = 1 ∨ L = 2 ∨ L = 3 ∨ L = 4 → 1000 ≤ r1) → Fo id (pf [] []) z0 (go L x2 x3 x4 x5 r1 z)) (hz : fr (pf [] []) z0 z) (hr1 : 1000 ≤ r1) : Fo id (pf [] []) z0 (qm_X13_build_0 K go x2 x3 x4 x5 r1 z) := by
  unfold qm_X13_build_0
  exact (fo_cs0 (ff_X12_clear (by first | omega | decide)) (pf_sub (by decide) pf_0) hz (fun z1 h_z1 => (hgo 1 _ _ _ _ _ z1 h_z1 (fun _ => (by first | omega | decide)))))
theorem fb_X13_build_1 {K : Nat} {z0 z : ow_MS}  {go : Nat → Int32 → Int32 → Int32 → Int32 → Nat → ow_MS → Option ow_MS} {x2 : Int32} {x3 : Int32} {x4 : Int32} {x5 : Int32} {r1 : Nat}  (hgo : ∀ (L : Nat) (x2 : Int32) (x3 : Int32) (x4 : Int32) (x5 : Int32) (r1 : Nat) (z : ow_MS), fr (pf [] []) z0 z → (L = 0 ∨ L = 1 ∨ L = 2 ∨ L = 3 ∨ L = 4 → 1000 ≤ r1) → Fo id (pf [] []) z0 (go L x2 x3 x4 x5 r1 z)) (hz : fr (pf [] []) z0 z) (hr1 : 1000 ≤ r1) : Fo id (pf [] []) z0 (qm_X13_build_1 K go x2 x3 x4 x5 r1 z) := by
  unfold qm_X13_build_1
  exact (fo_rdF (fun v2 => (fo_if (hgo 4 _ _ _ _ _ z hz (fun _ => (by first | omega | decide))) (fo_cs1 (ff_X12_isCircle (by first | omega | decide)) (pf_sub (by decide) pf_0) hz (fun v4 z3 h_z3 => (fo_if (hgo 2 _ _ _ _ _ z3 h_z3 (fun _ => (by first | omega | decide))) (fo_rdF (fun v5 => (fo_cs0 (ff_X13_putAt) (pf_sub (by decide) pf_0) h_z3 (fun z6 h_z6 => (hgo 2 _ _ _ _ _ z6 h_z6 (fun _ => (by first | omega | decide)))))))))))))
theorem fb_X13_build_2 {K : Nat} {z0 z : ow_MS}  {go : Nat → Int32 → Int32 → Int32 → Int32 → Nat → ow_MS → Option ow_MS} {x2 : Int32} {x3 : Int32} {x4 : Int32} {x5 : Int32} {r1 : Nat}  (hgo : ∀ (L : Nat) (x2 : Int32) (x3 : Int32) (x4 : Int32) (x5 : Int32) (r1 : Nat) (z : ow_MS), fr (pf [] []) z0 z → (L = 0 ∨ L = 1 ∨ L = 2 ∨ L = 3 ∨ L = 4 → 1000 ≤ r1) → Fo id (pf [] []) z0 (go L x2 x3 x4 x5 r1 z)) (hz : fr (pf [] []) z0 z) (hr1 : 1000 ≤ r1) : Fo id (pf [] []) z0 (qm_X13_build_2 K go x2 x3 x4 x5 r1 z) := by
  unfold qm_X13_build_2
  exact (fo_rdI (fun v7 => (hgo 3 _ _ _ _ _ z hz (fun _ => (by first | omega | decide)))))
theorem fb_X13_build_3 {K : Nat} {z0 z : ow_MS}  {go : Nat → Int32 → Int32 → Int32 → Int32 → Nat → ow_MS → Option ow_MS} {x2 : Int32} {x3 : Int32} {x4 : Int32} {x5 : Int32} {r1 : Nat}  (hgo : ∀ (L : Nat) (x2 : Int32) (x3 : Int32) (x4 : Int32) (x5 : Int32) (r1 : Nat) (z : ow_MS), fr (pf [] []) z0 z → (L = 0 ∨ L = 1 ∨ L = 2 ∨ L = 3 ∨ L = 4 → 1000 ≤ r1) → Fo id (pf [] []) z0 (go L x2 x3 x4 x5 r1 z)) (hz : fr (pf [] []) z0 z) (hr1 : 1000 ≤ r1) : Fo id (pf [] []) z0 (qm_X13_build_3 K go x2 x3 x4 x5 r1 z) := by
  unfold qm_X13_build_3
  exact (fo_rdI (fun v8 => (fo_if (fo_cs0 (ff_X12_end (by first | omega | decide)) (pf_sub (by decide) pf_0) hz (fun z9 h_z9 => (hgo 1 _ _ _ _ _ z9 h_z9 (fun _ => (by first | omega | decide))))) (fo_rdI (fun v10 => (fo_rdI (fun v11 => (fo_cs0 (ff_X12_add (by first | omega | decide)) (pf_sub (by decide) pf_0) hz (fun z12 h_z12 => (fo_cs0 (ff_X13_putAt) (pf_sub (by decide) pf_0) h_z12 (fun z13 h_z13 => (hgo 3 _ _ _ _ _ z13 h_z13 (fun _ => (by first | omega | decide))))))))))))))
theorem fb_X13_build_4 {K : Nat} {z0 z : ow_MS}  {go : Nat → Int32 → Int32 → Int32 → Int32 → Nat → ow_MS → Option ow_MS} {x2 : Int32} {x3 : Int32} {x4 : Int32} {x5 : Int32} {r1 : Nat}  (hgo : ∀ (L : Nat) (x2 : Int32) (x3 : Int32) (x4 : Int32) (x5 : Int32) (r1 : Nat) (z : ow_MS), fr (pf [] []) z0 z → (L = 0 ∨ L = 1 ∨ L = 2 ∨ L = 3 ∨ L = 4 → 1000 ≤ r1) → Fo id (pf [] []) z0 (go L x2 x3 x4 x5 r1 z)) (hz : fr (pf [] []) z0 z) (hr1 : 1000 ≤ r1) : Fo id (pf [] []) z0 (qm_X13_build_4 K go x2 x3 x4 x5 r1 z) := by
  unfold qm_X13_build_4
  exact (fo_rdF (fun v14 => (fo_nzI (fo_if (fo_some hz) (fo_rdI (fun v15 => (fo_wrI (Or.inr (Or.inr (by decide))) hz (fun z16 h_z16 => (hgo 4 _ _ _ _ _ z16 h_z16 (fun _ => (by first | omega | decide)))))))))))
theorem fq_X13_build {K : Nat} {z0 : ow_MS}   : ∀ (k L : Nat) (x2 : Int32) (x3 : Int32) (x4 : Int32) (x5 : Int32) (r1 : Nat) (z : ow_MS), fr (pf [] []) z0 z → (L = 0 ∨ L = 1 ∨ L = 2 ∨ L = 3 ∨ L = 4 → 1000 ≤ r1) → Fo id (pf [] []) z0 (q_X13_build K k L x2 x3 x4 x5 r1 z)
  | 0 => by
    intros
    exact fo_none
  | k + 1 => by
    intro L x2 x3 x4 x5 r1 z hz h9_r1
    show Fo id (pf [] []) z0 (qb_X13_build K (q_X13_build K k) L x2 x3 x4 x5 r1 z)
    unfold qb_X13_build
    split
    · exact fb_X13_build_0 (fq_X13_build k) hz (h9_r1 (by decide))
    · exact fb_X13_build_1 (fq_X13_build k) hz (h9_r1 (by decide))
    · exact fb_X13_build_2 (fq_X13_build k) hz (h9_r1 (by decide))
    · exact fb_X13_build_3 (fq_X13_build k) hz (h9_r1 (by decide))
    · exact fb_X13_build_4 (fq_X13_build k) hz (h9_r1 (by decide))
    · exact fo_none
theorem ff_X13_build {K : Nat} {r1 : Nat} {x2 : Int32} {x3 : Int32} {z : ow_MS} (hr1 : 1000 ≤ r1) : Fo id (pf [] []) z (qe_X13_build K r1 x2 x3 z) := fq_X13_build K 0 _ _ _ _ _ z fr_rf (fun _ => (by first | omega | decide))
theorem fb_X13_oneComes_0 {K : Nat} {z0 z : ow_MS}  {go : Nat → Int32 → Int32 → Int32 → Nat → Int32 → Int32 → ow_MS → Option ow_MS} {x2 : Int32} {x3 : Int32} {x4 : Int32} {r1 : Nat} {t0 : Int32} {t1 : Int32}  (hgo : ∀ (L : Nat) (x2 : Int32) (x3 : Int32) (x4 : Int32) (r1 : Nat) (t0 : Int32) (t1 : Int32) (z : ow_MS), fr (pf [2, 3, 4, 5, 6, 7, 8, 9, 20, 21, 22, 23, 24, 25, 26, 27, 29, 31, 32] []) z0 z → (L = 0 ∨ L = 1 ∨ L = 2 ∨ L = 3 ∨ L = 4 → 1000 ≤ r1) → Fo id (pf [2, 3, 4, 5, 6, 7, 8, 9, 20, 21, 22, 23, 24, 25, 26, 27, 29, 31, 32] []) z0 (go L x2 x3 x4 r1 t0 t1 z)) (hz : fr (pf [2, 3, 4, 5, 6, 7, 8, 9, 20, 21, 22, 23, 24, 25, 26, 27, 29, 31, 32] []) z0 z) (hr1 : 1000 ≤ r1) : Fo id (pf [2, 3, 4, 5, 6, 7, 8, 9, 20, 21, 22, 23, 24, 25, 26, 27, 29, 31, 32] []) z0 (qm_X13_oneComes_0 K go x2 x3 x4 r1 t0 t1 z) := by
  unfold qm_X13_oneComes_0
  exact (fo_rdF (fun v1 => (fo_nzI (hgo 1 _ _ _ _ _ _ z hz (fun _ => (by first | omega | decide))))))
theorem fb_X13_oneComes_1 {K : Nat} {z0 z : ow_MS}  {go : Nat → Int32 → Int32 → Int32 → Nat → Int32 → Int32 → ow_MS → Option ow_MS} {x2 : Int32} {x3 : Int32} {x4 : Int32} {r1 : Nat} {t0 : Int32} {t1 : Int32}  (hgo : ∀ (L : Nat) (x2 : Int32) (x3 : Int32) (x4 : Int32) (r1 : Nat) (t0 : Int32) (t1 : Int32) (z : ow_MS), fr (pf [2, 3, 4, 5, 6, 7, 8, 9, 20, 21, 22, 23, 24, 25, 26, 27, 29, 31, 32] []) z0 z → (L = 0 ∨ L = 1 ∨ L = 2 ∨ L = 3 ∨ L = 4 → 1000 ≤ r1) → Fo id (pf [2, 3, 4, 5, 6, 7, 8, 9, 20, 21, 22, 23, 24, 25, 26, 27, 29, 31, 32] []) z0 (go L x2 x3 x4 r1 t0 t1 z)) (hz : fr (pf [2, 3, 4, 5, 6, 7, 8, 9, 20, 21, 22, 23, 24, 25, 26, 27, 29, 31, 32] []) z0 z) (hr1 : 1000 ≤ r1) : Fo id (pf [2, 3, 4, 5, 6, 7, 8, 9, 20, 21, 22, 23, 24, 25, 26, 27, 29, 31, 32] []) z0 (qm_X13_oneComes_1 K go x2 x3 x4 r1 t0 t1 z) := by
  unfold qm_X13_oneComes_1
  exact (fo_rdF (fun v2 => (fo_rdF (fun v3 => (fo_if (fo_some hz) (hgo 2 _ _ _ _ _ _ z hz (fun _ => (by first | omega | decide))))))))
theorem fb_X13_oneComes_2 {K : Nat} {z0 z : ow_MS}  {go : Nat → Int32 → Int32 → Int32 → Nat → Int32 → Int32 → ow_MS → Option ow_MS} {x2 : Int32} {x3 : Int32} {x4 : Int32} {r1 : Nat} {t0 : Int32} {t1 : Int32}  (hgo : ∀ (L : Nat) (x2 : Int32) (x3 : Int32) (x4 : Int32) (r1 : Nat) (t0 : Int32) (t1 : Int32) (z : ow_MS), fr (pf [2, 3, 4, 5, 6, 7, 8, 9, 20, 21, 22, 23, 24, 25, 26, 27, 29, 31, 32] []) z0 z → (L = 0 ∨ L = 1 ∨ L = 2 ∨ L = 3 ∨ L = 4 → 1000 ≤ r1) → Fo id (pf [2, 3, 4, 5, 6, 7, 8, 9, 20, 21, 22, 23, 24, 25, 26, 27, 29, 31, 32] []) z0 (go L x2 x3 x4 r1 t0 t1 z)) (hz : fr (pf [2, 3, 4, 5, 6, 7, 8, 9, 20, 21, 22, 23, 24, 25, 26, 27, 29, 31, 32] []) z0 z) (hr1 : 1000 ≤ r1) : Fo id (pf [2, 3, 4, 5, 6, 7, 8, 9, 20, 21, 22, 23, 24, 25, 26, 27, 29, 31, 32] []) z0 (qm_X13_oneComes_2 K go x2 x3 x4 r1 t0 t1 z) := by
  unfold qm_X13_oneComes_2
  exact (fo_if (hgo 4 _ _ _ _ _ _ z hz (fun _ => (by first | omega | decide))) (fo_cs1 (ff_X13_isGap (by first | omega | decide)) (pf_sub (by decide) pf_0) hz (fun v5 z4 h_z4 => (fo_if (hgo 4 _ _ _ _ _ _ z4 h_z4 (fun _ => (by first | omega | decide))) (fo_cs0 (ff_X13_put) (pf_sub (by decide) pf_0) h_z4 (fun z6 h_z6 => (fo_cs0 (ff_X13_put) (pf_sub (by decide) pf_0) h_z6 (fun z7 h_z7 => (fo_cs0 (ff_X13_build (by first | omega | decide)) (pf_sub (by decide) pf_0) h_z7 (fun z8 h_z8 => (fo_if (hgo 3 _ _ _ _ _ _ z8 h_z8 (fun _ => (by first | omega | decide))) (hgo 3 _ _ _ _ _ _ z8 h_z8 (fun _ => (by first | omega | decide))))))))))))))
theorem fb_X13_oneComes_3 {K : Nat} {z0 z : ow_MS}  {go : Nat → Int32 → Int32 → Int32 → Nat → Int32 → Int32 → ow_MS → Option ow_MS} {x2 : Int32} {x3 : Int32} {x4 : Int32} {r1 : Nat} {t0 : Int32} {t1 : Int32}  (hgo : ∀ (L : Nat) (x2 : Int32) (x3 : Int32) (x4 : Int32) (r1 : Nat) (t0 : Int32) (t1 : Int32) (z : ow_MS), fr (pf [2, 3, 4, 5, 6, 7, 8, 9, 20, 21, 22, 23, 24, 25, 26, 27, 29, 31, 32] []) z0 z → (L = 0 ∨ L = 1 ∨ L = 2 ∨ L = 3 ∨ L = 4 → 1000 ≤ r1) → Fo id (pf [2, 3, 4, 5, 6, 7, 8, 9, 20, 21, 22, 23, 24, 25, 26, 27, 29, 31, 32] []) z0 (go L x2 x3 x4 r1 t0 t1 z)) (hz : fr (pf [2, 3, 4, 5, 6, 7, 8, 9, 20, 21, 22, 23, 24, 25, 26, 27, 29, 31, 32] []) z0 z) (hr1 : 1000 ≤ r1) : Fo id (pf [2, 3, 4, 5, 6, 7, 8, 9, 20, 21, 22, 23, 24, 25, 26, 27, 29, 31, 32] []) z0 (qm_X13_oneComes_3 K go x2 x3 x4 r1 t0 t1 z) := by
  unfold qm_X13_oneComes_3
  exact (fo_wrI (Or.inr (Or.inr (by decide))) hz (fun z9 h_z9 => (fo_cs0 (ff_X13_offer) (pf_sub (by decide) pf_0) h_z9 (fun z10 h_z10 => (hgo 2 _ _ _ _ _ _ z10 h_z10 (fun _ => (by first | omega | decide)))))))
theorem fb_X13_oneComes_4 {K : Nat} {z0 z : ow_MS}  {go : Nat → Int32 → Int32 → Int32 → Nat → Int32 → Int32 → ow_MS → Option ow_MS} {x2 : Int32} {x3 : Int32} {x4 : Int32} {r1 : Nat} {t0 : Int32} {t1 : Int32}  (hgo : ∀ (L : Nat) (x2 : Int32) (x3 : Int32) (x4 : Int32) (r1 : Nat) (t0 : Int32) (t1 : Int32) (z : ow_MS), fr (pf [2, 3, 4, 5, 6, 7, 8, 9, 20, 21, 22, 23, 24, 25, 26, 27, 29, 31, 32] []) z0 z → (L = 0 ∨ L = 1 ∨ L = 2 ∨ L = 3 ∨ L = 4 → 1000 ≤ r1) → Fo id (pf [2, 3, 4, 5, 6, 7, 8, 9, 20, 21, 22, 23, 24, 25, 26, 27, 29, 31, 32] []) z0 (go L x2 x3 x4 r1 t0 t1 z)) (hz : fr (pf [2, 3, 4, 5, 6, 7, 8, 9, 20, 21, 22, 23, 24, 25, 26, 27, 29, 31, 32] []) z0 z) (hr1 : 1000 ≤ r1) : Fo id (pf [2, 3, 4, 5, 6, 7, 8, 9, 20, 21, 22, 23, 24, 25, 26, 27, 29, 31, 32] []) z0 (qm_X13_oneComes_4 K go x2 x3 x4 r1 t0 t1 z) := by
  unfold qm_X13_oneComes_4
  exact (hgo 1 _ _ _ _ _ _ z hz (fun _ => (by first | omega | decide)))
theorem fq_X13_oneComes {K : Nat} {z0 : ow_MS}   : ∀ (k L : Nat) (x2 : Int32) (x3 : Int32) (x4 : Int32) (r1 : Nat) (t0 : Int32) (t1 : Int32) (z : ow_MS), fr (pf [2, 3, 4, 5, 6, 7, 8, 9, 20, 21, 22, 23, 24, 25, 26, 27, 29, 31, 32] []) z0 z → (L = 0 ∨ L = 1 ∨ L = 2 ∨ L = 3 ∨ L = 4 → 1000 ≤ r1) → Fo id (pf [2, 3, 4, 5, 6, 7, 8, 9, 20, 21, 22, 23, 24, 25, 26, 27, 29, 31, 32] []) z0 (q_X13_oneComes K k L x2 x3 x4 r1 t0 t1 z)
  | 0 => by
    intros
    exact fo_none
  | k + 1 => by
    intro L x2 x3 x4 r1 t0 t1 z hz h9_r1
    show Fo id (pf [2, 3, 4, 5, 6, 7, 8, 9, 20, 21, 22, 23, 24, 25, 26, 27, 29, 31, 32] []) z0 (qb_X13_oneComes K (q_X13_oneComes K k) L x2 x3 x4 r1 t0 t1 z)
    unfold qb_X13_oneComes
    split
    · exact fb_X13_oneComes_0 (fq_X13_oneComes k) hz (h9_r1 (by decide))
    · exact fb_X13_oneComes_1 (fq_X13_oneComes k) hz (h9_r1 (by decide))
    · exact fb_X13_oneComes_2 (fq_X13_oneComes k) hz (h9_r1 (by decide))
    · exact fb_X13_oneComes_3 (fq_X13_oneComes k) hz (h9_r1 (by decide))
    · exact fb_X13_oneComes_4 (fq_X13_oneComes k) hz (h9_r1 (by decide))
    · exact fo_none
theorem ff_X13_oneComes {K : Nat} {r1 : Nat} {z : ow_MS} (hr1 : 1000 ≤ r1) : Fo id (pf [2, 3, 4, 5, 6, 7, 8, 9, 20, 21, 22, 23, 24, 25, 26, 27, 29, 31, 32] []) z (qe_X13_oneComes K r1 z) := fq_X13_oneComes K 0 _ _ _ _ _ _ z fr_rf (fun _ => (by first | omega | decide))
theorem fb_X13_without_0 {K : Nat} {z0 z : ow_MS}  {go : Nat → Int32 → Int32 → Int32 → Int32 → Nat → ow_MS → Option ow_MS} {x2 : Int32} {x3 : Int32} {x4 : Int32} {x5 : Int32} {r1 : Nat}  (hgo : ∀ (L : Nat) (x2 : Int32) (x3 : Int32) (x4 : Int32) (x5 : Int32) (r1 : Nat) (z : ow_MS), fr (pf [2, 3, 4, 5, 6, 7, 8, 9, 20, 21, 22, 23, 24, 25, 26, 27, 29] []) z0 z → (L = 0 ∨ L = 1 ∨ L = 2 ∨ L = 3 → 1000 ≤ r1) → Fo id (pf [2, 3, 4, 5, 6, 7, 8, 9, 20, 21, 22, 23, 24, 25, 26, 27, 29] []) z0 (go L x2 x3 x4 x5 r1 z)) (hz : fr (pf [2, 3, 4, 5, 6, 7, 8, 9, 20, 21, 22, 23, 24, 25, 26, 27, 29] []) z0 z) (hr1 : 1000 ≤ r1) : Fo id (pf [2, 3, 4, 5, 6, 7, 8, 9, 20, 21, 22, 23, 24, 25, 26, 27, 29] []) z0 (qm_X13_without_0 K go x2 x3 x4 x5 r1 z) := by
  unfold qm_X13_without_0
  exact (fo_cs0 (ff_X12_clear (by first | omega | decide)) (pf_sub (by decide) pf_0) hz (fun z1 h_z1 => (fo_cs0 (ff_X12_signsOf (by first | omega | decide) (by first | omega | decide)) (pf_sub (by decide) pf_0) h_z1 (fun z2 h_z2 => (hgo 1 _ _ _ _ _ z2 h_z2 (fun _ => (by first | omega | decide)))))))
theorem fb_X13_without_1 {K : Nat} {z0 z : ow_MS}  {go : Nat → Int32 → Int32 → Int32 → Int32 → Nat → ow_MS → Option ow_MS} {x2 : Int32} {x3 : Int32} {x4 : Int32} {x5 : Int32} {r1 : Nat}  (hgo : ∀ (L : Nat) (x2 : Int32) (x3 : Int32) (x4 : Int32) (x5 : Int32) (r1 : Nat) (z : ow_MS), fr (pf [2, 3, 4, 5, 6, 7, 8, 9, 20, 21, 22, 23, 24, 25, 26, 27, 29] []) z0 z → (L = 0 ∨ L = 1 ∨ L = 2 ∨ L = 3 → 1000 ≤ r1) → Fo id (pf [2, 3, 4, 5, 6, 7, 8, 9, 20, 21, 22, 23, 24, 25, 26, 27, 29] []) z0 (go L x2 x3 x4 x5 r1 z)) (hz : fr (pf [2, 3, 4, 5, 6, 7, 8, 9, 20, 21, 22, 23, 24, 25, 26, 27, 29] []) z0 z) (hr1 : 1000 ≤ r1) : Fo id (pf [2, 3, 4, 5, 6, 7, 8, 9, 20, 21, 22, 23, 24, 25, 26, 27, 29] []) z0 (qm_X13_without_1 K go x2 x3 x4 x5 r1 z) := by
  unfold qm_X13_without_1
  exact (fo_rdF (fun v3 => (fo_if (fo_cs0 (ff_X13_offer) (pf_sub (by decide) pf_0) hz (fun z4 h_z4 => (fo_some h_z4))) (fo_rdI (fun v5 => (hgo 2 _ _ _ _ _ z hz (fun _ => (by first | omega | decide))))))))
theorem fb_X13_without_2 {K : Nat} {z0 z : ow_MS}  {go : Nat → Int32 → Int32 → Int32 → Int32 → Nat → ow_MS → Option ow_MS} {x2 : Int32} {x3 : Int32} {x4 : Int32} {x5 : Int32} {r1 : Nat}  (hgo : ∀ (L : Nat) (x2 : Int32) (x3 : Int32) (x4 : Int32) (x5 : Int32) (r1 : Nat) (z : ow_MS), fr (pf [2, 3, 4, 5, 6, 7, 8, 9, 20, 21, 22, 23, 24, 25, 26, 27, 29] []) z0 z → (L = 0 ∨ L = 1 ∨ L = 2 ∨ L = 3 → 1000 ≤ r1) → Fo id (pf [2, 3, 4, 5, 6, 7, 8, 9, 20, 21, 22, 23, 24, 25, 26, 27, 29] []) z0 (go L x2 x3 x4 x5 r1 z)) (hz : fr (pf [2, 3, 4, 5, 6, 7, 8, 9, 20, 21, 22, 23, 24, 25, 26, 27, 29] []) z0 z) (hr1 : 1000 ≤ r1) : Fo id (pf [2, 3, 4, 5, 6, 7, 8, 9, 20, 21, 22, 23, 24, 25, 26, 27, 29] []) z0 (qm_X13_without_2 K go x2 x3 x4 x5 r1 z) := by
  unfold qm_X13_without_2
  exact (fo_rdI (fun v6 => (fo_if (fo_cs0 (ff_X12_end (by first | omega | decide)) (pf_sub (by decide) pf_0) hz (fun z7 h_z7 => (hgo 1 _ _ _ _ _ z7 h_z7 (fun _ => (by first | omega | decide))))) (fo_rdI (fun v8 => (fo_if (hgo 3 _ _ _ _ _ z hz (fun _ => (by first | omega | decide))) (fo_rdI (fun v9 => (fo_if (hgo 3 _ _ _ _ _ z hz (fun _ => (by first | omega | decide))) (fo_rdI (fun v10 => (fo_rdI (fun v11 => (fo_cs0 (ff_X12_add (by first | omega | decide)) (pf_sub (by decide) pf_0) hz (fun z12 h_z12 => (hgo 3 _ _ _ _ _ z12 h_z12 (fun _ => (by first | omega | decide))))))))))))))))))
theorem fb_X13_without_3 {K : Nat} {z0 z : ow_MS}  {go : Nat → Int32 → Int32 → Int32 → Int32 → Nat → ow_MS → Option ow_MS} {x2 : Int32} {x3 : Int32} {x4 : Int32} {x5 : Int32} {r1 : Nat}  (hgo : ∀ (L : Nat) (x2 : Int32) (x3 : Int32) (x4 : Int32) (x5 : Int32) (r1 : Nat) (z : ow_MS), fr (pf [2, 3, 4, 5, 6, 7, 8, 9, 20, 21, 22, 23, 24, 25, 26, 27, 29] []) z0 z → (L = 0 ∨ L = 1 ∨ L = 2 ∨ L = 3 → 1000 ≤ r1) → Fo id (pf [2, 3, 4, 5, 6, 7, 8, 9, 20, 21, 22, 23, 24, 25, 26, 27, 29] []) z0 (go L x2 x3 x4 x5 r1 z)) (hz : fr (pf [2, 3, 4, 5, 6, 7, 8, 9, 20, 21, 22, 23, 24, 25, 26, 27, 29] []) z0 z) (hr1 : 1000 ≤ r1) : Fo id (pf [2, 3, 4, 5, 6, 7, 8, 9, 20, 21, 22, 23, 24, 25, 26, 27, 29] []) z0 (qm_X13_without_3 K go x2 x3 x4 x5 r1 z) := by
  unfold qm_X13_without_3
  exact (hgo 2 _ _ _ _ _ z hz (fun _ => (by first | omega | decide)))
theorem fq_X13_without {K : Nat} {z0 : ow_MS}   : ∀ (k L : Nat) (x2 : Int32) (x3 : Int32) (x4 : Int32) (x5 : Int32) (r1 : Nat) (z : ow_MS), fr (pf [2, 3, 4, 5, 6, 7, 8, 9, 20, 21, 22, 23, 24, 25, 26, 27, 29] []) z0 z → (L = 0 ∨ L = 1 ∨ L = 2 ∨ L = 3 → 1000 ≤ r1) → Fo id (pf [2, 3, 4, 5, 6, 7, 8, 9, 20, 21, 22, 23, 24, 25, 26, 27, 29] []) z0 (q_X13_without K k L x2 x3 x4 x5 r1 z)
  | 0 => by
    intros
    exact fo_none
  | k + 1 => by
    intro L x2 x3 x4 x5 r1 z hz h9_r1
    show Fo id (pf [2, 3, 4, 5, 6, 7, 8, 9, 20, 21, 22, 23, 24, 25, 26, 27, 29] []) z0 (qb_X13_without K (q_X13_without K k) L x2 x3 x4 x5 r1 z)
    unfold qb_X13_without
    split
    · exact fb_X13_without_0 (fq_X13_without k) hz (h9_r1 (by decide))
    · exact fb_X13_without_1 (fq_X13_without k) hz (h9_r1 (by decide))
    · exact fb_X13_without_2 (fq_X13_without k) hz (h9_r1 (by decide))
    · exact fb_X13_without_3 (fq_X13_without k) hz (h9_r1 (by decide))
    · exact fo_none
theorem ff_X13_without {K : Nat} {r1 : Nat} {x2 : Int32} {x3 : Int32} {z : ow_MS} (hr1 : 1000 ≤ r1) : Fo id (pf [2, 3, 4, 5, 6, 7, 8, 9, 20, 21, 22, 23, 24, 25, 26, 27, 29] []) z (qe_X13_without K r1 x2 x3 z) := fq_X13_without K 0 _ _ _ _ _ z fr_rf (fun _ => (by first | omega | decide))
theorem fb_X13_twoGo_0 {K : Nat} {z0 z : ow_MS}  {go : Nat → Int32 → Int32 → Int32 → Int32 → Nat → ow_MS → Option ow_MS} {x2 : Int32} {x3 : Int32} {x4 : Int32} {x5 : Int32} {r1 : Nat}  (hgo : ∀ (L : Nat) (x2 : Int32) (x3 : Int32) (x4 : Int32) (x5 : Int32) (r1 : Nat) (z : ow_MS), fr (pf [2, 3, 4, 5, 6, 7, 8, 9, 20, 21, 22, 23, 24, 25, 26, 27, 29] []) z0 z → (L = 0 ∨ L = 1 ∨ L = 2 ∨ L = 3 → 1000 ≤ r1) → Fo id (pf [2, 3, 4, 5, 6, 7, 8, 9, 20, 21, 22, 23, 24, 25, 26, 27, 29] []) z0 (go L x2 x3 x4 x5 r1 z)) (hz : fr (pf [2, 3, 4, 5, 6, 7, 8, 9, 20, 21, 22, 23, 24, 25, 26, 27, 29] []) z0 z) (hr1 : 1000 ≤ r1) : Fo id (pf [2, 3, 4, 5, 6, 7, 8, 9, 20, 21, 22, 23, 24, 25, 26, 27, 29] []) z0 (qm_X13_twoGo_0 K go x2 x3 x4 x5 r1 z) := by
  unfold qm_X13_twoGo_0
  exact (hgo 1 _ _ _ _ _ z hz (fun _ => (by first | omega | decide)))
theorem fb_X13_twoGo_1 {K : Nat} {z0 z : ow_MS}  {go : Nat → Int32 → Int32 → Int32 → Int32 → Nat → ow_MS → Option ow_MS} {x2 : Int32} {x3 : Int32} {x4 : Int32} {x5 : Int32} {r1 : Nat}  (hgo : ∀ (L : Nat) (x2 : Int32) (x3 : Int32) (x4 : Int32) (x5 : Int32) (r1 : Nat) (z : ow_MS), fr (pf [2, 3, 4, 5, 6, 7, 8, 9, 20, 21, 22, 23, 24, 25, 26, 27, 29] []) z0 z → (L = 0 ∨ L = 1 ∨ L = 2 ∨ L = 3 → 1000 ≤ r1) → Fo id (pf [2, 3, 4, 5, 6, 7, 8, 9, 20, 21, 22, 23, 24, 25, 26, 27, 29] []) z0 (go L x2 x3 x4 x5 r1 z)) (hz : fr (pf [2, 3, 4, 5, 6, 7, 8, 9, 20, 21, 22, 23, 24, 25, 26, 27, 29] []) z0 z) (hr1 : 1000 ≤ r1) : Fo id (pf [2, 3, 4, 5, 6, 7, 8, 9, 20, 21, 22, 23, 24, 25, 26, 27, 29] []) z0 (qm_X13_twoGo_1 K go x2 x3 x4 x5 r1 z) := by
  unfold qm_X13_twoGo_1
  exact (fo_rdF (fun v1 => (fo_if (fo_some hz) (fo_rdI (fun v2 => (fo_rdI (fun v3 => (fo_if (fo_rdI (fun v4 => (fo_if (fo_rdI (fun v5 => (fo_rdI (fun v6 => (fo_if (hgo 3 _ _ _ _ _ z hz (fun _ => (by first | omega | decide))) (fo_rdI (fun v7 => (fo_rdI (fun v8 => (fo_rdI (fun v9 => (fo_rdI (fun v10 => (fo_if (hgo 3 _ _ _ _ _ z hz (fun _ => (by first | omega | decide))) (fo_rdI (fun v11 => (fo_rdI (fun v12 => (fo_rdI (fun v13 => (fo_if (hgo 2 _ _ _ _ _ z hz (fun _ => (by first | omega | decide))) (fo_rdI (fun v14 => (fo_if (hgo 2 _ _ _ _ _ z hz (fun _ => (by first | omega | decide))) (hgo 3 _ _ _ _ _ z hz (fun _ => (by first | omega | decide))))))))))))))))))))))))))) (hgo 3 _ _ _ _ _ z hz (fun _ => (by first | omega | decide)))))) (hgo 3 _ _ _ _ _ z hz (fun _ => (by first | omega | decide)))))))))))
theorem fb_X13_twoGo_2 {K : Nat} {z0 z : ow_MS}  {go : Nat → Int32 → Int32 → Int32 → Int32 → Nat → ow_MS → Option ow_MS} {x2 : Int32} {x3 : Int32} {x4 : Int32} {x5 : Int32} {r1 : Nat}  (hgo : ∀ (L : Nat) (x2 : Int32) (x3 : Int32) (x4 : Int32) (x5 : Int32) (r1 : Nat) (z : ow_MS), fr (pf [2, 3, 4, 5, 6, 7, 8, 9, 20, 21, 22, 23, 24, 25, 26, 27, 29] []) z0 z → (L = 0 ∨ L = 1 ∨ L = 2 ∨ L = 3 → 1000 ≤ r1) → Fo id (pf [2, 3, 4, 5, 6, 7, 8, 9, 20, 21, 22, 23, 24, 25, 26, 27, 29] []) z0 (go L x2 x3 x4 x5 r1 z)) (hz : fr (pf [2, 3, 4, 5, 6, 7, 8, 9, 20, 21, 22, 23, 24, 25, 26, 27, 29] []) z0 z) (hr1 : 1000 ≤ r1) : Fo id (pf [2, 3, 4, 5, 6, 7, 8, 9, 20, 21, 22, 23, 24, 25, 26, 27, 29] []) z0 (qm_X13_twoGo_2 K go x2 x3 x4 x5 r1 z) := by
  unfold qm_X13_twoGo_2
  exact (fo_rdI (fun v15 => (fo_rdI (fun v16 => (fo_cs0 (ff_X13_without (by first | omega | decide)) (pf_sub (by decide) pf_0) hz (fun z17 h_z17 => (hgo 3 _ _ _ _ _ z17 h_z17 (fun _ => (by first | omega | decide)))))))))
theorem fb_X13_twoGo_3 {K : Nat} {z0 z : ow_MS}  {go : Nat → Int32 → Int32 → Int32 → Int32 → Nat → ow_MS → Option ow_MS} {x2 : Int32} {x3 : Int32} {x4 : Int32} {x5 : Int32} {r1 : Nat}  (hgo : ∀ (L : Nat) (x2 : Int32) (x3 : Int32) (x4 : Int32) (x5 : Int32) (r1 : Nat) (z : ow_MS), fr (pf [2, 3, 4, 5, 6, 7, 8, 9, 20, 21, 22, 23, 24, 25, 26, 27, 29] []) z0 z → (L = 0 ∨ L = 1 ∨ L = 2 ∨ L = 3 → 1000 ≤ r1) → Fo id (pf [2, 3, 4, 5, 6, 7, 8, 9, 20, 21, 22, 23, 24, 25, 26, 27, 29] []) z0 (go L x2 x3 x4 x5 r1 z)) (hz : fr (pf [2, 3, 4, 5, 6, 7, 8, 9, 20, 21, 22, 23, 24, 25, 26, 27, 29] []) z0 z) (hr1 : 1000 ≤ r1) : Fo id (pf [2, 3, 4, 5, 6, 7, 8, 9, 20, 21, 22, 23, 24, 25, 26, 27, 29] []) z0 (qm_X13_twoGo_3 K go x2 x3 x4 x5 r1 z) := by
  unfold qm_X13_twoGo_3
  exact (hgo 1 _ _ _ _ _ z hz (fun _ => (by first | omega | decide)))
theorem fq_X13_twoGo {K : Nat} {z0 : ow_MS}   : ∀ (k L : Nat) (x2 : Int32) (x3 : Int32) (x4 : Int32) (x5 : Int32) (r1 : Nat) (z : ow_MS), fr (pf [2, 3, 4, 5, 6, 7, 8, 9, 20, 21, 22, 23, 24, 25, 26, 27, 29] []) z0 z → (L = 0 ∨ L = 1 ∨ L = 2 ∨ L = 3 → 1000 ≤ r1) → Fo id (pf [2, 3, 4, 5, 6, 7, 8, 9, 20, 21, 22, 23, 24, 25, 26, 27, 29] []) z0 (q_X13_twoGo K k L x2 x3 x4 x5 r1 z)
  | 0 => by
    intros
    exact fo_none
  | k + 1 => by
    intro L x2 x3 x4 x5 r1 z hz h9_r1
    show Fo id (pf [2, 3, 4, 5, 6, 7, 8, 9, 20, 21, 22, 23, 24, 25, 26, 27, 29] []) z0 (qb_X13_twoGo K (q_X13_twoGo K k) L x2 x3 x4 x5 r1 z)
    unfold qb_X13_twoGo
    split
    · exact fb_X13_twoGo_0 (fq_X13_twoGo k) hz (h9_r1 (by decide))
    · exact fb_X13_twoGo_1 (fq_X13_twoGo k) hz (h9_r1 (by decide))
    · exact fb_X13_twoGo_2 (fq_X13_twoGo k) hz (h9_r1 (by decide))
    · exact fb_X13_twoGo_3 (fq_X13_twoGo k) hz (h9_r1 (by decide))
    · exact fo_none
theorem ff_X13_twoGo {K : Nat} {r1 : Nat} {z : ow_MS} (hr1 : 1000 ≤ r1) : Fo id (pf [2, 3, 4, 5, 6, 7, 8, 9, 20, 21, 22, 23, 24, 25, 26, 27, 29] []) z (qe_X13_twoGo K r1 z) := fq_X13_twoGo K 0 _ _ _ _ _ z fr_rf (fun _ => (by first | omega | decide))
theorem fb_X13_twoAt_0 {K : Nat} {z0 z : ow_MS}  {go : Nat → Int32 → Int32 → Int32 → Int32 → Int32 → Int32 → Int32 → Int32 → Int32 → Nat → Int32 → Int32 → ow_MS → Option ow_MS} {x2 : Int32} {x3 : Int32} {x4 : Int32} {x5 : Int32} {x6 : Int32} {x7 : Int32} {x8 : Int32} {x9 : Int32} {x10 : Int32} {r1 : Nat} {t0 : Int32} {t1 : Int32}  (hgo : ∀ (L : Nat) (x2 : Int32) (x3 : Int32) (x4 : Int32) (x5 : Int32) (x6 : Int32) (x7 : Int32) (x8 : Int32) (x9 : Int32) (x10 : Int32) (r1 : Nat) (t0 : Int32) (t1 : Int32) (z : ow_MS), fr (pf [2, 3, 4, 5, 6, 7, 8, 9, 20, 21, 22, 23, 24, 25, 26, 27, 29, 31, 32] []) z0 z → (L = 0 ∨ L = 1 ∨ L = 2 ∨ L = 3 ∨ L = 4 → 1000 ≤ r1) → Fo id (pf [2, 3, 4, 5, 6, 7, 8, 9, 20, 21, 22, 23, 24, 25, 26, 27, 29, 31, 32] []) z0 (go L x2 x3 x4 x5 x6 x7 x8 x9 x10 r1 t0 t1 z)) (hz : fr (pf [2, 3, 4, 5, 6, 7, 8, 9, 20, 21, 22, 23, 24, 25, 26, 27, 29, 31, 32] []) z0 z) (hr1 : 1000 ≤ r1) : Fo id (pf [2, 3, 4, 5, 6, 7, 8, 9, 20, 21, 22, 23, 24, 25, 26, 27, 29, 31, 32] []) z0 (qm_X13_twoAt_0 K go x2 x3 x4 x5 x6 x7 x8 x9 x10 r1 t0 t1 z) := by
  unfold qm_X13_twoAt_0
  exact (fo_rdF (fun v1 => (fo_nzI (fo_if (hgo 1 _ _ _ _ _ _ _ _ _ _ _ _ z hz (fun _ => (by first | omega | decide))) (hgo 1 _ _ _ _ _ _ _ _ _ _ _ _ z hz (fun _ => (by first | omega | decide)))))))
theorem fb_X13_twoAt_1 {K : Nat} {z0 z : ow_MS}  {go : Nat → Int32 → Int32 → Int32 → Int32 → Int32 → Int32 → Int32 → Int32 → Int32 → Nat → Int32 → Int32 → ow_MS → Option ow_MS} {x2 : Int32} {x3 : Int32} {x4 : Int32} {x5 : Int32} {x6 : Int32} {x7 : Int32} {x8 : Int32} {x9 : Int32} {x10 : Int32} {r1 : Nat} {t0 : Int32} {t1 : Int32}  (hgo : ∀ (L : Nat) (x2 : Int32) (x3 : Int32) (x4 : Int32) (x5 : Int32) (x6 : Int32) (x7 : Int32) (x8 : Int32) (x9 : Int32) (x10 : Int32) (r1 : Nat) (t0 : Int32) (t1 : Int32) (z : ow_MS), fr (pf [2, 3, 4, 5, 6, 7, 8, 9, 20, 21, 22, 23, 24, 25, 26, 27, 29, 31, 32] []) z0 z → (L = 0 ∨ L = 1 ∨ L = 2 ∨ L = 3 ∨ L = 4 → 1000 ≤ r1) → Fo id (pf [2, 3, 4, 5, 6, 7, 8, 9, 20, 21, 22, 23, 24, 25, 26, 27, 29, 31, 32] []) z0 (go L x2 x3 x4 x5 x6 x7 x8 x9 x10 r1 t0 t1 z)) (hz : fr (pf [2, 3, 4, 5, 6, 7, 8, 9, 20, 21, 22, 23, 24, 25, 26, 27, 29, 31, 32] []) z0 z) (hr1 : 1000 ≤ r1) : Fo id (pf [2, 3, 4, 5, 6, 7, 8, 9, 20, 21, 22, 23, 24, 25, 26, 27, 29, 31, 32] []) z0 (qm_X13_twoAt_1 K go x2 x3 x4 x5 x6 x7 x8 x9 x10 r1 t0 t1 z) := by
  unfold qm_X13_twoAt_1
  exact (fo_cs0 (ff_X13_put) (pf_sub (by decide) pf_0) hz (fun z2 h_z2 => (fo_if (hgo 2 _ _ _ _ _ _ _ _ _ _ _ _ z2 h_z2 (fun _ => (by first | omega | decide))) (hgo 2 _ _ _ _ _ _ _ _ _ _ _ _ z2 h_z2 (fun _ => (by first | omega | decide))))))
theorem fb_X13_twoAt_2 {K : Nat} {z0 z : ow_MS}  {go : Nat → Int32 → Int32 → Int32 → Int32 → Int32 → Int32 → Int32 → Int32 → Int32 → Nat → Int32 → Int32 → ow_MS → Option ow_MS} {x2 : Int32} {x3 : Int32} {x4 : Int32} {x5 : Int32} {x6 : Int32} {x7 : Int32} {x8 : Int32} {x9 : Int32} {x10 : Int32} {r1 : Nat} {t0 : Int32} {t1 : Int32}  (hgo : ∀ (L : Nat) (x2 : Int32) (x3 : Int32) (x4 : Int32) (x5 : Int32) (x6 : Int32) (x7 : Int32) (x8 : Int32) (x9 : Int32) (x10 : Int32) (r1 : Nat) (t0 : Int32) (t1 : Int32) (z : ow_MS), fr (pf [2, 3, 4, 5, 6, 7, 8, 9, 20, 21, 22, 23, 24, 25, 26, 27, 29, 31, 32] []) z0 z → (L = 0 ∨ L = 1 ∨ L = 2 ∨ L = 3 ∨ L = 4 → 1000 ≤ r1) → Fo id (pf [2, 3, 4, 5, 6, 7, 8, 9, 20, 21, 22, 23, 24, 25, 26, 27, 29, 31, 32] []) z0 (go L x2 x3 x4 x5 x6 x7 x8 x9 x10 r1 t0 t1 z)) (hz : fr (pf [2, 3, 4, 5, 6, 7, 8, 9, 20, 21, 22, 23, 24, 25, 26, 27, 29, 31, 32] []) z0 z) (hr1 : 1000 ≤ r1) : Fo id (pf [2, 3, 4, 5, 6, 7, 8, 9, 20, 21, 22, 23, 24, 25, 26, 27, 29, 31, 32] []) z0 (qm_X13_twoAt_2 K go x2 x3 x4 x5 x6 x7 x8 x9 x10 r1 t0 t1 z) := by
  unfold qm_X13_twoAt_2
  exact (fo_cs0 (ff_X13_put) (pf_sub (by decide) pf_0) hz (fun z3 h_z3 => (fo_if (hgo 3 _ _ _ _ _ _ _ _ _ _ _ _ z3 h_z3 (fun _ => (by first | omega | decide))) (hgo 3 _ _ _ _ _ _ _ _ _ _ _ _ z3 h_z3 (fun _ => (by first | omega | decide))))))
theorem fb_X13_twoAt_3 {K : Nat} {z0 z : ow_MS}  {go : Nat → Int32 → Int32 → Int32 → Int32 → Int32 → Int32 → Int32 → Int32 → Int32 → Nat → Int32 → Int32 → ow_MS → Option ow_MS} {x2 : Int32} {x3 : Int32} {x4 : Int32} {x5 : Int32} {x6 : Int32} {x7 : Int32} {x8 : Int32} {x9 : Int32} {x10 : Int32} {r1 : Nat} {t0 : Int32} {t1 : Int32}  (hgo : ∀ (L : Nat) (x2 : Int32) (x3 : Int32) (x4 : Int32) (x5 : Int32) (x6 : Int32) (x7 : Int32) (x8 : Int32) (x9 : Int32) (x10 : Int32) (r1 : Nat) (t0 : Int32) (t1 : Int32) (z : ow_MS), fr (pf [2, 3, 4, 5, 6, 7, 8, 9, 20, 21, 22, 23, 24, 25, 26, 27, 29, 31, 32] []) z0 z → (L = 0 ∨ L = 1 ∨ L = 2 ∨ L = 3 ∨ L = 4 → 1000 ≤ r1) → Fo id (pf [2, 3, 4, 5, 6, 7, 8, 9, 20, 21, 22, 23, 24, 25, 26, 27, 29, 31, 32] []) z0 (go L x2 x3 x4 x5 x6 x7 x8 x9 x10 r1 t0 t1 z)) (hz : fr (pf [2, 3, 4, 5, 6, 7, 8, 9, 20, 21, 22, 23, 24, 25, 26, 27, 29, 31, 32] []) z0 z) (hr1 : 1000 ≤ r1) : Fo id (pf [2, 3, 4, 5, 6, 7, 8, 9, 20, 21, 22, 23, 24, 25, 26, 27, 29, 31, 32] []) z0 (qm_X13_twoAt_3 K go x2 x3 x4 x5 x6 x7 x8 x9 x10 r1 t0 t1 z) := by
  unfold qm_X13_twoAt_3
  exact (fo_cs0 (ff_X13_put) (pf_sub (by decide) pf_0) hz (fun z4 h_z4 => (fo_if (hgo 4 _ _ _ _ _ _ _ _ _ _ _ _ z4 h_z4 (fun _ => (by first | omega | decide))) (hgo 4 _ _ _ _ _ _ _ _ _ _ _ _ z4 h_z4 (fun _ => (by first | omega | decide))))))
theorem fb_X13_twoAt_4 {K : Nat} {z0 z : ow_MS}  {go : Nat → Int32 → Int32 → Int32 → Int32 → Int32 → Int32 → Int32 → Int32 → Int32 → Nat → Int32 → Int32 → ow_MS → Option ow_MS} {x2 : Int32} {x3 : Int32} {x4 : Int32} {x5 : Int32} {x6 : Int32} {x7 : Int32} {x8 : Int32} {x9 : Int32} {x10 : Int32} {r1 : Nat} {t0 : Int32} {t1 : Int32}  (hgo : ∀ (L : Nat) (x2 : Int32) (x3 : Int32) (x4 : Int32) (x5 : Int32) (x6 : Int32) (x7 : Int32) (x8 : Int32) (x9 : Int32) (x10 : Int32) (r1 : Nat) (t0 : Int32) (t1 : Int32) (z : ow_MS), fr (pf [2, 3, 4, 5, 6, 7, 8, 9, 20, 21, 22, 23, 24, 25, 26, 27, 29, 31, 32] []) z0 z → (L = 0 ∨ L = 1 ∨ L = 2 ∨ L = 3 ∨ L = 4 → 1000 ≤ r1) → Fo id (pf [2, 3, 4, 5, 6, 7, 8, 9, 20, 21, 22, 23, 24, 25, 26, 27, 29, 31, 32] []) z0 (go L x2 x3 x4 x5 x6 x7 x8 x9 x10 r1 t0 t1 z)) (hz : fr (pf [2, 3, 4, 5, 6, 7, 8, 9, 20, 21, 22, 23, 24, 25, 26, 27, 29, 31, 32] []) z0 z) (hr1 : 1000 ≤ r1) : Fo id (pf [2, 3, 4, 5, 6, 7, 8, 9, 20, 21, 22, 23, 24, 25, 26, 27, 29, 31, 32] []) z0 (qm_X13_twoAt_4 K go x2 x3 x4 x5 x6 x7 x8 x9 x10 r1 t0 t1 z) := by
  unfold qm_X13_twoAt_4
  exact (fo_cs0 (ff_X13_put) (pf_sub (by decide) pf_0) hz (fun z5 h_z5 => (fo_cs0 (ff_X13_build (by first | omega | decide)) (pf_sub (by decide) pf_0) h_z5 (fun z6 h_z6 => (fo_wrI (Or.inr (Or.inr (by decide))) h_z6 (fun z7 h_z7 => (fo_wrI (Or.inr (Or.inr (by decide))) h_z7 (fun z8 h_z8 => (fo_cs0 (ff_X12_link (by first | omega | decide)) (pf_sub (by decide) pf_0) h_z8 (fun z9 h_z9 => (fo_cs1 (ff_X12_isPlane (by first | omega | decide)) (pf_sub (by decide) pf_0) h_z9 (fun v11 z10 h_z10 => (fo_if (fo_some h_z10) (fo_cs0 (ff_X13_offer) (pf_sub (by decide) pf_0) h_z10 (fun z12 h_z12 => (fo_some h_z12))))))))))))))))
theorem fq_X13_twoAt {K : Nat} {z0 : ow_MS}   : ∀ (k L : Nat) (x2 : Int32) (x3 : Int32) (x4 : Int32) (x5 : Int32) (x6 : Int32) (x7 : Int32) (x8 : Int32) (x9 : Int32) (x10 : Int32) (r1 : Nat) (t0 : Int32) (t1 : Int32) (z : ow_MS), fr (pf [2, 3, 4, 5, 6, 7, 8, 9, 20, 21, 22, 23, 24, 25, 26, 27, 29, 31, 32] []) z0 z → (L = 0 ∨ L = 1 ∨ L = 2 ∨ L = 3 ∨ L = 4 → 1000 ≤ r1) → Fo id (pf [2, 3, 4, 5, 6, 7, 8, 9, 20, 21, 22, 23, 24, 25, 26, 27, 29, 31, 32] []) z0 (q_X13_twoAt K k L x2 x3 x4 x5 x6 x7 x8 x9 x10 r1 t0 t1 z)
  | 0 => by
    intros
    exact fo_none
  | k + 1 => by
    intro L x2 x3 x4 x5 x6 x7 x8 x9 x10 r1 t0 t1 z hz h9_r1
    show Fo id (pf [2, 3, 4, 5, 6, 7, 8, 9, 20, 21, 22, 23, 24, 25, 26, 27, 29, 31, 32] []) z0 (qb_X13_twoAt K (q_X13_twoAt K k) L x2 x3 x4 x5 x6 x7 x8 x9 x10 r1 t0 t1 z)
    unfold qb_X13_twoAt
    split
    · exact fb_X13_twoAt_0 (fq_X13_twoAt k) hz (h9_r1 (by decide))
    · exact fb_X13_twoAt_1 (fq_X13_twoAt k) hz (h9_r1 (by decide))
    · exact fb_X13_twoAt_2 (fq_X13_twoAt k) hz (h9_r1 (by decide))
    · exact fb_X13_twoAt_3 (fq_X13_twoAt k) hz (h9_r1 (by decide))
    · exact fb_X13_twoAt_4 (fq_X13_twoAt k) hz (h9_r1 (by decide))
    · exact fo_none
theorem ff_X13_twoAt {K : Nat} {r1 : Nat} {x2 : Int32} {x3 : Int32} {x4 : Int32} {z : ow_MS} (hr1 : 1000 ≤ r1) : Fo id (pf [2, 3, 4, 5, 6, 7, 8, 9, 20, 21, 22, 23, 24, 25, 26, 27, 29, 31, 32] []) z (qe_X13_twoAt K r1 x2 x3 x4 z) := fq_X13_twoAt K 0 _ _ _ _ _ _ _ _ _ _ _ _ z fr_rf (fun _ => (by first | omega | decide))
theorem fb_X13_twoCome_0 {K : Nat} {z0 z : ow_MS}  {go : Nat → Int32 → Int32 → Int32 → Nat → Int32 → Int32 → ow_MS → Option ow_MS} {x2 : Int32} {x3 : Int32} {x4 : Int32} {r1 : Nat} {t0 : Int32} {t1 : Int32}  (hgo : ∀ (L : Nat) (x2 : Int32) (x3 : Int32) (x4 : Int32) (r1 : Nat) (t0 : Int32) (t1 : Int32) (z : ow_MS), fr (pf [2, 3, 4, 5, 6, 7, 8, 9, 20, 21, 22, 23, 24, 25, 26, 27, 29, 31, 32] []) z0 z → (L = 0 ∨ L = 1 ∨ L = 2 ∨ L = 3 ∨ L = 4 ∨ L = 5 → 1000 ≤ r1) → Fo id (pf [2, 3, 4, 5, 6, 7, 8, 9, 20, 21, 22, 23, 24, 25, 26, 27, 29, 31, 32] []) z0 (go L x2 x3 x4 r1 t0 t1 z)) (hz : fr (pf [2, 3, 4, 5, 6, 7, 8, 9, 20, 21, 22, 23, 24, 25, 26, 27, 29, 31, 32] []) z0 z) (hr1 : 1000 ≤ r1) : Fo id (pf [2, 3, 4, 5, 6, 7, 8, 9, 20, 21, 22, 23, 24, 25, 26, 27, 29, 31, 32] []) z0 (qm_X13_twoCome_0 K go x2 x3 x4 r1 t0 t1 z) := by
  unfold qm_X13_twoCome_0
  exact (hgo 1 _ _ _ _ _ _ z hz (fun _ => (by first | omega | decide)))
theorem fb_X13_twoCome_1 {K : Nat} {z0 z : ow_MS}  {go : Nat → Int32 → Int32 → Int32 → Nat → Int32 → Int32 → ow_MS → Option ow_MS} {x2 : Int32} {x3 : Int32} {x4 : Int32} {r1 : Nat} {t0 : Int32} {t1 : Int32}  (hgo : ∀ (L : Nat) (x2 : Int32) (x3 : Int32) (x4 : Int32) (r1 : Nat) (t0 : Int32) (t1 : Int32) (z : ow_MS), fr (pf [2, 3, 4, 5, 6, 7, 8, 9, 20, 21, 22, 23, 24, 25, 26, 27, 29, 31, 32] []) z0 z → (L = 0 ∨ L = 1 ∨ L = 2 ∨ L = 3 ∨ L = 4 ∨ L = 5 → 1000 ≤ r1) → Fo id (pf [2, 3, 4, 5, 6, 7, 8, 9, 20, 21, 22, 23, 24, 25, 26, 27, 29, 31, 32] []) z0 (go L x2 x3 x4 r1 t0 t1 z)) (hz : fr (pf [2, 3, 4, 5, 6, 7, 8, 9, 20, 21, 22, 23, 24, 25, 26, 27, 29, 31, 32] []) z0 z) (hr1 : 1000 ≤ r1) : Fo id (pf [2, 3, 4, 5, 6, 7, 8, 9, 20, 21, 22, 23, 24, 25, 26, 27, 29, 31, 32] []) z0 (qm_X13_twoCome_1 K go x2 x3 x4 r1 t0 t1 z) := by
  unfold qm_X13_twoCome_1
  exact (fo_rdF (fun v1 => (fo_rdF (fun v2 => (fo_if (fo_some hz) (hgo 2 _ _ _ _ _ _ z hz (fun _ => (by first | omega | decide))))))))
theorem fb_X13_twoCome_2 {K : Nat} {z0 z : ow_MS}  {go : Nat → Int32 → Int32 → Int32 → Nat → Int32 → Int32 → ow_MS → Option ow_MS} {x2 : Int32} {x3 : Int32} {x4 : Int32} {r1 : Nat} {t0 : Int32} {t1 : Int32}  (hgo : ∀ (L : Nat) (x2 : Int32) (x3 : Int32) (x4 : Int32) (r1 : Nat) (t0 : Int32) (t1 : Int32) (z : ow_MS), fr (pf [2, 3, 4, 5, 6, 7, 8, 9, 20, 21, 22, 23, 24, 25, 26, 27, 29, 31, 32] []) z0 z → (L = 0 ∨ L = 1 ∨ L = 2 ∨ L = 3 ∨ L = 4 ∨ L = 5 → 1000 ≤ r1) → Fo id (pf [2, 3, 4, 5, 6, 7, 8, 9, 20, 21, 22, 23, 24, 25, 26, 27, 29, 31, 32] []) z0 (go L x2 x3 x4 r1 t0 t1 z)) (hz : fr (pf [2, 3, 4, 5, 6, 7, 8, 9, 20, 21, 22, 23, 24, 25, 26, 27, 29, 31, 32] []) z0 z) (hr1 : 1000 ≤ r1) : Fo id (pf [2, 3, 4, 5, 6, 7, 8, 9, 20, 21, 22, 23, 24, 25, 26, 27, 29, 31, 32] []) z0 (qm_X13_twoCome_2 K go x2 x3 x4 r1 t0 t1 z) := by
  unfold qm_X13_twoCome_2
  exact (fo_rdF (fun v3 => (fo_rdF (fun v4 => (fo_if (hgo 1 _ _ _ _ _ _ z hz (fun _ => (by first | omega | decide))) (hgo 3 _ _ _ _ _ _ z hz (fun _ => (by first | omega | decide))))))))
theorem fb_X13_twoCome_3 {K : Nat} {z0 z : ow_MS}  {go : Nat → Int32 → Int32 → Int32 → Nat → Int32 → Int32 → ow_MS → Option ow_MS} {x2 : Int32} {x3 : Int32} {x4 : Int32} {r1 : Nat} {t0 : Int32} {t1 : Int32}  (hgo : ∀ (L : Nat) (x2 : Int32) (x3 : Int32) (x4 : Int32) (r1 : Nat) (t0 : Int32) (t1 : Int32) (z : ow_MS), fr (pf [2, 3, 4, 5, 6, 7, 8, 9, 20, 21, 22, 23, 24, 25, 26, 27, 29, 31, 32] []) z0 z → (L = 0 ∨ L = 1 ∨ L = 2 ∨ L = 3 ∨ L = 4 ∨ L = 5 → 1000 ≤ r1) → Fo id (pf [2, 3, 4, 5, 6, 7, 8, 9, 20, 21, 22, 23, 24, 25, 26, 27, 29, 31, 32] []) z0 (go L x2 x3 x4 r1 t0 t1 z)) (hz : fr (pf [2, 3, 4, 5, 6, 7, 8, 9, 20, 21, 22, 23, 24, 25, 26, 27, 29, 31, 32] []) z0 z) (hr1 : 1000 ≤ r1) : Fo id (pf [2, 3, 4, 5, 6, 7, 8, 9, 20, 21, 22, 23, 24, 25, 26, 27, 29, 31, 32] []) z0 (qm_X13_twoCome_3 K go x2 x3 x4 r1 t0 t1 z) := by
  unfold qm_X13_twoCome_3
  exact (fo_if (hgo 4 _ _ _ _ _ _ z hz (fun _ => (by first | omega | decide))) (hgo 4 _ _ _ _ _ _ z hz (fun _ => (by first | omega | decide))))
theorem fb_X13_twoCome_4 {K : Nat} {z0 z : ow_MS}  {go : Nat → Int32 → Int32 → Int32 → Nat → Int32 → Int32 → ow_MS → Option ow_MS} {x2 : Int32} {x3 : Int32} {x4 : Int32} {r1 : Nat} {t0 : Int32} {t1 : Int32}  (hgo : ∀ (L : Nat) (x2 : Int32) (x3 : Int32) (x4 : Int32) (r1 : Nat) (t0 : Int32) (t1 : Int32) (z : ow_MS), fr (pf [2, 3, 4, 5, 6, 7, 8, 9, 20, 21, 22, 23, 24, 25, 26, 27, 29, 31, 32] []) z0 z → (L = 0 ∨ L = 1 ∨ L = 2 ∨ L = 3 ∨ L = 4 ∨ L = 5 → 1000 ≤ r1) → Fo id (pf [2, 3, 4, 5, 6, 7, 8, 9, 20, 21, 22, 23, 24, 25, 26, 27, 29, 31, 32] []) z0 (go L x2 x3 x4 r1 t0 t1 z)) (hz : fr (pf [2, 3, 4, 5, 6, 7, 8, 9, 20, 21, 22, 23, 24, 25, 26, 27, 29, 31, 32] []) z0 z) (hr1 : 1000 ≤ r1) : Fo id (pf [2, 3, 4, 5, 6, 7, 8, 9, 20, 21, 22, 23, 24, 25, 26, 27, 29, 31, 32] []) z0 (qm_X13_twoCome_4 K go x2 x3 x4 r1 t0 t1 z) := by
  unfold qm_X13_twoCome_4
  exact (fo_if (hgo 5 _ _ _ _ _ _ z hz (fun _ => (by first | omega | decide))) (fo_cs1 (ff_X13_isGap (by first | omega | decide)) (pf_sub (by decide) pf_0) hz (fun v6 z5 h_z5 => (fo_if (hgo 5 _ _ _ _ _ _ z5 h_z5 (fun _ => (by first | omega | decide))) (fo_cs1 (ff_X13_isGap (by first | omega | decide)) (pf_sub (by decide) pf_0) h_z5 (fun v8 z7 h_z7 => (fo_if (hgo 5 _ _ _ _ _ _ z7 h_z7 (fun _ => (by first | omega | decide))) (fo_cs0 (ff_X13_twoAt (by first | omega | decide)) (pf_sub (by decide) pf_0) h_z7 (fun z9 h_z9 => (hgo 3 _ _ _ _ _ _ z9 h_z9 (fun _ => (by first | omega | decide))))))))))))
theorem fb_X13_twoCome_5 {K : Nat} {z0 z : ow_MS}  {go : Nat → Int32 → Int32 → Int32 → Nat → Int32 → Int32 → ow_MS → Option ow_MS} {x2 : Int32} {x3 : Int32} {x4 : Int32} {r1 : Nat} {t0 : Int32} {t1 : Int32}  (hgo : ∀ (L : Nat) (x2 : Int32) (x3 : Int32) (x4 : Int32) (r1 : Nat) (t0 : Int32) (t1 : Int32) (z : ow_MS), fr (pf [2, 3, 4, 5, 6, 7, 8, 9, 20, 21, 22, 23, 24, 25, 26, 27, 29, 31, 32] []) z0 z → (L = 0 ∨ L = 1 ∨ L = 2 ∨ L = 3 ∨ L = 4 ∨ L = 5 → 1000 ≤ r1) → Fo id (pf [2, 3, 4, 5, 6, 7, 8, 9, 20, 21, 22, 23, 24, 25, 26, 27, 29, 31, 32] []) z0 (go L x2 x3 x4 r1 t0 t1 z)) (hz : fr (pf [2, 3, 4, 5, 6, 7, 8, 9, 20, 21, 22, 23, 24, 25, 26, 27, 29, 31, 32] []) z0 z) (hr1 : 1000 ≤ r1) : Fo id (pf [2, 3, 4, 5, 6, 7, 8, 9, 20, 21, 22, 23, 24, 25, 26, 27, 29, 31, 32] []) z0 (qm_X13_twoCome_5 K go x2 x3 x4 r1 t0 t1 z) := by
  unfold qm_X13_twoCome_5
  exact (hgo 2 _ _ _ _ _ _ z hz (fun _ => (by first | omega | decide)))
theorem fq_X13_twoCome {K : Nat} {z0 : ow_MS}   : ∀ (k L : Nat) (x2 : Int32) (x3 : Int32) (x4 : Int32) (r1 : Nat) (t0 : Int32) (t1 : Int32) (z : ow_MS), fr (pf [2, 3, 4, 5, 6, 7, 8, 9, 20, 21, 22, 23, 24, 25, 26, 27, 29, 31, 32] []) z0 z → (L = 0 ∨ L = 1 ∨ L = 2 ∨ L = 3 ∨ L = 4 ∨ L = 5 → 1000 ≤ r1) → Fo id (pf [2, 3, 4, 5, 6, 7, 8, 9, 20, 21, 22, 23, 24, 25, 26, 27, 29, 31, 32] []) z0 (q_X13_twoCome K k L x2 x3 x4 r1 t0 t1 z)
  | 0 => by
    intros
    exact fo_none
  | k + 1 => by
    intro L x2 x3 x4 r1 t0 t1 z hz h9_r1
    show Fo id (pf [2, 3, 4, 5, 6, 7, 8, 9, 20, 21, 22, 23, 24, 25, 26, 27, 29, 31, 32] []) z0 (qb_X13_twoCome K (q_X13_twoCome K k) L x2 x3 x4 r1 t0 t1 z)
    unfold qb_X13_twoCome
    split
    · exact fb_X13_twoCome_0 (fq_X13_twoCome k) hz (h9_r1 (by decide))
    · exact fb_X13_twoCome_1 (fq_X13_twoCome k) hz (h9_r1 (by decide))
    · exact fb_X13_twoCome_2 (fq_X13_twoCome k) hz (h9_r1 (by decide))
    · exact fb_X13_twoCome_3 (fq_X13_twoCome k) hz (h9_r1 (by decide))
    · exact fb_X13_twoCome_4 (fq_X13_twoCome k) hz (h9_r1 (by decide))
    · exact fb_X13_twoCome_5 (fq_X13_twoCome k) hz (h9_r1 (by decide))
    · exact fo_none
theorem ff_X13_twoCome {K : Nat} {r1 : Nat} {z : ow_MS} (hr1 : 1000 ≤ r1) : Fo id (pf [2, 3, 4, 5, 6, 7, 8, 9, 20, 21, 22, 23, 24, 25, 26, 27, 29, 31, 32] []) z (qe_X13_twoCome K r1 z) := fq_X13_twoCome K 0 _ _ _ _ _ _ z fr_rf (fun _ => (by first | omega | decide))
theorem fb_X13_tryMoves_0 {K : Nat} {z0 z : ow_MS}  {go : Nat → Int32 → Int32 → Nat → ow_MS → Option ow_MS} {x2 : Int32} {x3 : Int32} {r1 : Nat}  (hgo : ∀ (L : Nat) (x2 : Int32) (x3 : Int32) (r1 : Nat) (z : ow_MS), fr (pf [2, 3, 4, 5, 6, 7, 8, 9, 20, 21, 22, 23, 24, 25, 26, 27, 29, 31, 32, 33, 34] []) z0 z → (L = 0 ∨ L = 1 ∨ L = 2 → 1000 ≤ r1) → Fo id (pf [2, 3, 4, 5, 6, 7, 8, 9, 20, 21, 22, 23, 24, 25, 26, 27, 29, 31, 32, 33, 34] []) z0 (go L x2 x3 r1 z)) (hz : fr (pf [2, 3, 4, 5, 6, 7, 8, 9, 20, 21, 22, 23, 24, 25, 26, 27, 29, 31, 32, 33, 34] []) z0 z) (hr1 : 1000 ≤ r1) : Fo id (pf [2, 3, 4, 5, 6, 7, 8, 9, 20, 21, 22, 23, 24, 25, 26, 27, 29, 31, 32, 33, 34] []) z0 (qm_X13_tryMoves_0 K go x2 x3 r1 z) := by
  unfold qm_X13_tryMoves_0
  exact (fo_if (fo_cs0 (ff_X13_threeChange (by first | omega | decide)) (pf_sub (by decide) pf_0) hz (fun z1 h_z1 => (fo_some h_z1))) (fo_if (hgo 1 _ _ _ z hz (fun _ => (by first | omega | decide))) (fo_if (fo_rdF (fun v2 => (fo_nzI (fo_if (fo_some hz) (fo_cs0 (ff_X13_oneComes (by first | omega | decide)) (pf_sub (by decide) pf_0) hz (fun z3 h_z3 => (fo_some h_z3))))))) (fo_if (fo_cs0 (ff_X13_twoGo (by first | omega | decide)) (pf_sub (by decide) pf_0) hz (fun z4 h_z4 => (fo_some h_z4))) (fo_if (fo_rdF (fun v5 => (fo_nzI (fo_if (fo_some hz) (fo_cs0 (ff_X13_twoCome (by first | omega | decide)) (pf_sub (by decide) pf_0) hz (fun z6 h_z6 => (fo_some h_z6))))))) fo_none)))))
theorem fb_X13_tryMoves_1 {K : Nat} {z0 z : ow_MS}  {go : Nat → Int32 → Int32 → Nat → ow_MS → Option ow_MS} {x2 : Int32} {x3 : Int32} {r1 : Nat}  (hgo : ∀ (L : Nat) (x2 : Int32) (x3 : Int32) (r1 : Nat) (z : ow_MS), fr (pf [2, 3, 4, 5, 6, 7, 8, 9, 20, 21, 22, 23, 24, 25, 26, 27, 29, 31, 32, 33, 34] []) z0 z → (L = 0 ∨ L = 1 ∨ L = 2 → 1000 ≤ r1) → Fo id (pf [2, 3, 4, 5, 6, 7, 8, 9, 20, 21, 22, 23, 24, 25, 26, 27, 29, 31, 32, 33, 34] []) z0 (go L x2 x3 r1 z)) (hz : fr (pf [2, 3, 4, 5, 6, 7, 8, 9, 20, 21, 22, 23, 24, 25, 26, 27, 29, 31, 32, 33, 34] []) z0 z) (hr1 : 1000 ≤ r1) : Fo id (pf [2, 3, 4, 5, 6, 7, 8, 9, 20, 21, 22, 23, 24, 25, 26, 27, 29, 31, 32, 33, 34] []) z0 (qm_X13_tryMoves_1 K go x2 x3 r1 z) := by
  unfold qm_X13_tryMoves_1
  exact (fo_rdF (fun v7 => (fo_if (fo_some hz) (fo_rdI (fun v8 => (fo_rdI (fun v9 => (fo_if (fo_rdI (fun v10 => (fo_rdI (fun v11 => (fo_cs0 (ff_X13_without (by first | omega | decide)) (pf_sub (by decide) pf_0) hz (fun z12 h_z12 => (hgo 2 _ _ _ z12 h_z12 (fun _ => (by first | omega | decide))))))))) (hgo 2 _ _ _ z hz (fun _ => (by first | omega | decide)))))))))))
theorem fb_X13_tryMoves_2 {K : Nat} {z0 z : ow_MS}  {go : Nat → Int32 → Int32 → Nat → ow_MS → Option ow_MS} {x2 : Int32} {x3 : Int32} {r1 : Nat}  (hgo : ∀ (L : Nat) (x2 : Int32) (x3 : Int32) (r1 : Nat) (z : ow_MS), fr (pf [2, 3, 4, 5, 6, 7, 8, 9, 20, 21, 22, 23, 24, 25, 26, 27, 29, 31, 32, 33, 34] []) z0 z → (L = 0 ∨ L = 1 ∨ L = 2 → 1000 ≤ r1) → Fo id (pf [2, 3, 4, 5, 6, 7, 8, 9, 20, 21, 22, 23, 24, 25, 26, 27, 29, 31, 32, 33, 34] []) z0 (go L x2 x3 r1 z)) (hz : fr (pf [2, 3, 4, 5, 6, 7, 8, 9, 20, 21, 22, 23, 24, 25, 26, 27, 29, 31, 32, 33, 34] []) z0 z) (hr1 : 1000 ≤ r1) : Fo id (pf [2, 3, 4, 5, 6, 7, 8, 9, 20, 21, 22, 23, 24, 25, 26, 27, 29, 31, 32, 33, 34] []) z0 (qm_X13_tryMoves_2 K go x2 x3 r1 z) := by
  unfold qm_X13_tryMoves_2
  exact (hgo 1 _ _ _ z hz (fun _ => (by first | omega | decide)))
theorem fq_X13_tryMoves {K : Nat} {z0 : ow_MS}   : ∀ (k L : Nat) (x2 : Int32) (x3 : Int32) (r1 : Nat) (z : ow_MS), fr (pf [2, 3, 4, 5, 6, 7, 8, 9, 20, 21, 22, 23, 24, 25, 26, 27, 29, 31, 32, 33, 34] []) z0 z → (L = 0 ∨ L = 1 ∨ L = 2 → 1000 ≤ r1) → Fo id (pf [2, 3, 4, 5, 6, 7, 8, 9, 20, 21, 22, 23, 24, 25, 26, 27, 29, 31, 32, 33, 34] []) z0 (q_X13_tryMoves K k L x2 x3 r1 z)
  | 0 => by
    intros
    exact fo_none
  | k + 1 => by
    intro L x2 x3 r1 z hz h9_r1
    show Fo id (pf [2, 3, 4, 5, 6, 7, 8, 9, 20, 21, 22, 23, 24, 25, 26, 27, 29, 31, 32, 33, 34] []) z0 (qb_X13_tryMoves K (q_X13_tryMoves K k) L x2 x3 r1 z)
    unfold qb_X13_tryMoves
    split
    · exact fb_X13_tryMoves_0 (fq_X13_tryMoves k) hz (h9_r1 (by decide))
    · exact fb_X13_tryMoves_1 (fq_X13_tryMoves k) hz (h9_r1 (by decide))
    · exact fb_X13_tryMoves_2 (fq_X13_tryMoves k) hz (h9_r1 (by decide))
    · exact fo_none
theorem ff_X13_tryMoves {K : Nat} {r1 : Nat} {x2 : Int32} {z : ow_MS} (hr1 : 1000 ≤ r1) : Fo id (pf [2, 3, 4, 5, 6, 7, 8, 9, 20, 21, 22, 23, 24, 25, 26, 27, 29, 31, 32, 33, 34] []) z (qe_X13_tryMoves K r1 x2 z) := fq_X13_tryMoves K 0 _ _ _ z fr_rf (fun _ => (by first | omega | decide))
theorem fb_X13_moves_0 {K : Nat} {z0 z : ow_MS}  {go : Nat → Int32 → Int32 → ow_MS → Option (Int32 × ow_MS)} {x1 : Int32} {x2 : Int32}  (hgo : ∀ (L : Nat) (x1 : Int32) (x2 : Int32) (z : ow_MS), fr (pf [1, 2, 3, 4, 5, 6, 7, 8, 9, 20, 21, 22, 23, 24, 25, 26, 27, 29, 30, 31, 32, 33, 34] []) z0 z → Fo Prod.snd (pf [1, 2, 3, 4, 5, 6, 7, 8, 9, 20, 21, 22, 23, 24, 25, 26, 27, 29, 30, 31, 32, 33, 34] []) z0 (go L x1 x2 z)) (hz : fr (pf [1, 2, 3, 4, 5, 6, 7, 8, 9, 20, 21, 22, 23, 24, 25, 26, 27, 29, 30, 31, 32, 33, 34] []) z0 z)  : Fo Prod.snd (pf [1, 2, 3, 4, 5, 6, 7, 8, 9, 20, 21, 22, 23, 24, 25, 26, 27, 29, 30, 31, 32, 33, 34] []) z0 (qm_X13_moves_0 K go x1 x2 z) := by
  unfold qm_X13_moves_0
  exact (fo_wrF (Or.inl (by decide)) hz (fun z1 h_z1 => (fo_cs1 (ff_X13_has) (pf_sub (by decide) pf_0) h_z1 (fun v3 z2 h_z2 => (fo_if (fo_cs1 (ff_X13_fails) (pf_sub (by decide) pf_0) h_z2 (fun v10 z9 h_z9 => (fo_some h_z9))) (fo_if (hgo 1 _ _ z2 h_z2) (fo_if (fo_cs0 (ff_X13_open (by first | omega | decide)) (pf_sub (by decide) pf_0) h_z2 (fun z4 h_z4 => (fo_wrF (Or.inl (by decide)) h_z4 (fun z5 h_z5 => (fo_wrF (Or.inl (by decide)) h_z5 (fun z6 h_z6 => (fo_cs0 (ff_X13_tryMoves (by first | omega | decide)) (pf_sub (by decide) pf_0) h_z6 (fun z7 h_z7 => (fo_rdF (fun v8 => (fo_some h_z7))))))))))) (hgo 1 _ _ z2 h_z2))))))))
theorem fb_X13_moves_1 {K : Nat} {z0 z : ow_MS}  {go : Nat → Int32 → Int32 → ow_MS → Option (Int32 × ow_MS)} {x1 : Int32} {x2 : Int32}  (hgo : ∀ (L : Nat) (x1 : Int32) (x2 : Int32) (z : ow_MS), fr (pf [1, 2, 3, 4, 5, 6, 7, 8, 9, 20, 21, 22, 23, 24, 25, 26, 27, 29, 30, 31, 32, 33, 34] []) z0 z → Fo Prod.snd (pf [1, 2, 3, 4, 5, 6, 7, 8, 9, 20, 21, 22, 23, 24, 25, 26, 27, 29, 30, 31, 32, 33, 34] []) z0 (go L x1 x2 z)) (hz : fr (pf [1, 2, 3, 4, 5, 6, 7, 8, 9, 20, 21, 22, 23, 24, 25, 26, 27, 29, 30, 31, 32, 33, 34] []) z0 z)  : Fo Prod.snd (pf [1, 2, 3, 4, 5, 6, 7, 8, 9, 20, 21, 22, 23, 24, 25, 26, 27, 29, 30, 31, 32, 33, 34] []) z0 (qm_X13_moves_1 K go x1 x2 z) := by
  unfold qm_X13_moves_1
  exact (fo_cs1 (ff_X13_fails) (pf_sub (by decide) pf_0) hz (fun v12 z11 h_z11 => (fo_some h_z11)))
theorem fq_X13_moves {K : Nat} {z0 : ow_MS}   : ∀ (k L : Nat) (x1 : Int32) (x2 : Int32) (z : ow_MS), fr (pf [1, 2, 3, 4, 5, 6, 7, 8, 9, 20, 21, 22, 23, 24, 25, 26, 27, 29, 30, 31, 32, 33, 34] []) z0 z → Fo Prod.snd (pf [1, 2, 3, 4, 5, 6, 7, 8, 9, 20, 21, 22, 23, 24, 25, 26, 27, 29, 30, 31, 32, 33, 34] []) z0 (q_X13_moves K k L x1 x2 z)
  | 0 => by
    intros
    exact fo_none
  | k + 1 => by
    intro L x1 x2 z hz 
    show Fo Prod.snd (pf [1, 2, 3, 4, 5, 6, 7, 8, 9, 20, 21, 22, 23, 24, 25, 26, 27, 29, 30, 31, 32, 33, 34] []) z0 (qb_X13_moves K (q_X13_moves K k) L x1 x2 z)
    unfold qb_X13_moves
    split
    · exact fb_X13_moves_0 (fq_X13_moves k) hz 
    · exact fb_X13_moves_1 (fq_X13_moves k) hz 
    · exact fo_none
theorem ff_X13_moves {K : Nat} {x1 : Int32} {x2 : Int32} {z : ow_MS}  : Fo Prod.snd (pf [1, 2, 3, 4, 5, 6, 7, 8, 9, 20, 21, 22, 23, 24, 25, 26, 27, 29, 30, 31, 32, 33, 34] []) z (qe_X13_moves K x1 x2 z) := fq_X13_moves K 0 _ _ z fr_rf 
theorem fb_X13_keepRow_0 {K : Nat} {z0 z : ow_MS}  {go : Nat → Int32 → Int32 → Int32 → Nat → ow_MS → Option (Int32 × ow_MS)} {x2 : Int32} {x3 : Int32} {x4 : Int32} {r1 : Nat}  (hgo : ∀ (L : Nat) (x2 : Int32) (x3 : Int32) (x4 : Int32) (r1 : Nat) (z : ow_MS), fr (pf [12] []) z0 z → Fo Prod.snd (pf [12] []) z0 (go L x2 x3 x4 r1 z)) (hz : fr (pf [12] []) z0 z)  : Fo Prod.snd (pf [12] []) z0 (qm_X13_keepRow_0 K go x2 x3 x4 r1 z) := by
  unfold qm_X13_keepRow_0
  exact (fo_cs1 (ff_X13_free) (pf_sub (by decide) pf_0) hz (fun v2 z1 h_z1 => (hgo 1 _ _ _ _ z1 h_z1)))
theorem fb_X13_keepRow_1 {K : Nat} {z0 z : ow_MS}  {go : Nat → Int32 → Int32 → Int32 → Nat → ow_MS → Option (Int32 × ow_MS)} {x2 : Int32} {x3 : Int32} {x4 : Int32} {r1 : Nat}  (hgo : ∀ (L : Nat) (x2 : Int32) (x3 : Int32) (x4 : Int32) (r1 : Nat) (z : ow_MS), fr (pf [12] []) z0 z → Fo Prod.snd (pf [12] []) z0 (go L x2 x3 x4 r1 z)) (hz : fr (pf [12] []) z0 z)  : Fo Prod.snd (pf [12] []) z0 (qm_X13_keepRow_1 K go x2 x3 x4 r1 z) := by
  unfold qm_X13_keepRow_1
  exact (fo_rdI (fun v3 => (fo_if (fo_some hz) (fo_rdI (fun v4 => (fo_wrI (Or.inl (by decide)) hz (fun z5 h_z5 => (hgo 1 _ _ _ _ z5 h_z5))))))))
theorem fq_X13_keepRow {K : Nat} {z0 : ow_MS}   : ∀ (k L : Nat) (x2 : Int32) (x3 : Int32) (x4 : Int32) (r1 : Nat) (z : ow_MS), fr (pf [12] []) z0 z → Fo Prod.snd (pf [12] []) z0 (q_X13_keepRow K k L x2 x3 x4 r1 z)
  | 0 => by
    intros
    exact fo_none
  | k + 1 => by
    intro L x2 x3 x4 r1 z hz 
    show Fo Prod.snd (pf [12] []) z0 (qb_X13_keepRow K (q_X13_keepRow K k) L x2 x3 x4 r1 z)
    unfold qb_X13_keepRow
    split
    · exact fb_X13_keepRow_0 (fq_X13_keepRow k) hz 
    · exact fb_X13_keepRow_1 (fq_X13_keepRow k) hz 
    · exact fo_none
theorem ff_X13_keepRow {K : Nat} {r1 : Nat} {x2 : Int32} {z : ow_MS}  : Fo Prod.snd (pf [12] []) z (qe_X13_keepRow K r1 x2 z) := fq_X13_keepRow K 0 _ _ _ _ z fr_rf 
theorem fb_X13_moved_0 {K : Nat} {z0 z : ow_MS}  {go : Nat → Int32 → ow_MS → Option (Int32 × ow_MS)} {x1 : Int32}  (hgo : ∀ (L : Nat) (x1 : Int32) (z : ow_MS), fr (pf [1, 12] []) z0 z → Fo Prod.snd (pf [1, 12] []) z0 (go L x1 z)) (hz : fr (pf [1, 12] []) z0 z)  : Fo Prod.snd (pf [1, 12] []) z0 (qm_X13_moved_0 K go x1 z) := by
  unfold qm_X13_moved_0
  exact (fo_wrF (Or.inl (by decide)) hz (fun z1 h_z1 => (fo_if (hgo 1 _ z1 h_z1) (fo_rdF (fun v2 => (fo_if (fo_cs1 (ff_X13_free) (pf_sub (by decide) pf_0) h_z1 (fun v4 z3 h_z3 => (fo_if (fo_cs1 (ff_X13_fails) (pf_sub (by decide) pf_0) h_z3 (fun v9 z8 h_z8 => (fo_some h_z8))) (fo_rdI (fun v5 => (fo_cs1 (ff_X13_keepRow) (pf_sub (by decide) pf_0) h_z3 (fun v7 z6 h_z6 => (fo_some h_z6)))))))) (hgo 1 _ z1 h_z1)))))))
theorem fb_X13_moved_1 {K : Nat} {z0 z : ow_MS}  {go : Nat → Int32 → ow_MS → Option (Int32 × ow_MS)} {x1 : Int32}  (hgo : ∀ (L : Nat) (x1 : Int32) (z : ow_MS), fr (pf [1, 12] []) z0 z → Fo Prod.snd (pf [1, 12] []) z0 (go L x1 z)) (hz : fr (pf [1, 12] []) z0 z)  : Fo Prod.snd (pf [1, 12] []) z0 (qm_X13_moved_1 K go x1 z) := by
  unfold qm_X13_moved_1
  exact (fo_cs1 (ff_X13_fails) (pf_sub (by decide) pf_0) hz (fun v11 z10 h_z10 => (fo_some h_z10)))
theorem fq_X13_moved {K : Nat} {z0 : ow_MS}   : ∀ (k L : Nat) (x1 : Int32) (z : ow_MS), fr (pf [1, 12] []) z0 z → Fo Prod.snd (pf [1, 12] []) z0 (q_X13_moved K k L x1 z)
  | 0 => by
    intros
    exact fo_none
  | k + 1 => by
    intro L x1 z hz 
    show Fo Prod.snd (pf [1, 12] []) z0 (qb_X13_moved K (q_X13_moved K k) L x1 z)
    unfold qb_X13_moved
    split
    · exact fb_X13_moved_0 (fq_X13_moved k) hz 
    · exact fb_X13_moved_1 (fq_X13_moved k) hz 
    · exact fo_none
theorem ff_X13_moved {K : Nat} {x1 : Int32} {z : ow_MS}  : Fo Prod.snd (pf [1, 12] []) z (qe_X13_moved K x1 z) := fq_X13_moved K 0 _ z fr_rf 
theorem fb_X13_simplify_0 {K : Nat} {z0 z : ow_MS}  {go : Nat → Int32 → Int32 → Int32 → Int32 → ow_MS → Option (Int32 × ow_MS)} {x1 : Int32} {x2 : Int32} {x3 : Int32} {x4 : Int32}  (hgo : ∀ (L : Nat) (x1 : Int32) (x2 : Int32) (x3 : Int32) (x4 : Int32) (z : ow_MS), fr (pf [1, 2, 3, 4, 5, 6, 7, 8, 9, 12, 20, 21, 22, 23, 24, 25, 26, 27, 29, 30, 31, 32, 33, 34] []) z0 z → Fo Prod.snd (pf [1, 2, 3, 4, 5, 6, 7, 8, 9, 12, 20, 21, 22, 23, 24, 25, 26, 27, 29, 30, 31, 32, 33, 34] []) z0 (go L x1 x2 x3 x4 z)) (hz : fr (pf [1, 2, 3, 4, 5, 6, 7, 8, 9, 12, 20, 21, 22, 23, 24, 25, 26, 27, 29, 30, 31, 32, 33, 34] []) z0 z)  : Fo Prod.snd (pf [1, 2, 3, 4, 5, 6, 7, 8, 9, 12, 20, 21, 22, 23, 24, 25, 26, 27, 29, 30, 31, 32, 33, 34] []) z0 (qm_X13_simplify_0 K go x1 x2 x3 x4 z) := by
  unfold qm_X13_simplify_0
  exact (fo_wrF (Or.inl (by decide)) hz (fun z1 h_z1 => (fo_cs1 (ff_X13_has) (pf_sub (by decide) pf_0) h_z1 (fun v3 z2 h_z2 => (fo_if (fo_cs1 (ff_X13_fails) (pf_sub (by decide) pf_0) h_z2 (fun v9 z8 h_z8 => (fo_some h_z8))) (fo_cs1 (ff_X13_free) (pf_sub (by decide) pf_0) h_z2 (fun v5 z4 h_z4 => (fo_if (fo_cs1 (ff_X13_fails) (pf_sub (by decide) pf_0) h_z4 (fun v7 z6 h_z6 => (fo_some h_z6))) (hgo 1 _ _ _ _ z4 h_z4)))))))))
theorem fb_X13_simplify_1 {K : Nat} {z0 z : ow_MS}  {go : Nat → Int32 → Int32 → Int32 → Int32 → ow_MS → Option (Int32 × ow_MS)} {x1 : Int32} {x2 : Int32} {x3 : Int32} {x4 : Int32}  (hgo : ∀ (L : Nat) (x1 : Int32) (x2 : Int32) (x3 : Int32) (x4 : Int32) (z : ow_MS), fr (pf [1, 2, 3, 4, 5, 6, 7, 8, 9, 12, 20, 21, 22, 23, 24, 25, 26, 27, 29, 30, 31, 32, 33, 34] []) z0 z → Fo Prod.snd (pf [1, 2, 3, 4, 5, 6, 7, 8, 9, 12, 20, 21, 22, 23, 24, 25, 26, 27, 29, 30, 31, 32, 33, 34] []) z0 (go L x1 x2 x3 x4 z)) (hz : fr (pf [1, 2, 3, 4, 5, 6, 7, 8, 9, 12, 20, 21, 22, 23, 24, 25, 26, 27, 29, 30, 31, 32, 33, 34] []) z0 z)  : Fo Prod.snd (pf [1, 2, 3, 4, 5, 6, 7, 8, 9, 12, 20, 21, 22, 23, 24, 25, 26, 27, 29, 30, 31, 32, 33, 34] []) z0 (qm_X13_simplify_1 K go x1 x2 x3 x4 z) := by
  unfold qm_X13_simplify_1
  exact (fo_rdI (fun v10 => (fo_if (fo_wrF (Or.inl (by decide)) hz (fun z11 h_z11 => (fo_wrF (Or.inl (by decide)) h_z11 (fun z12 h_z12 => (hgo 2 _ _ _ _ z12 h_z12))))) (fo_rdI (fun v13 => (fo_wrI (Or.inl (by decide)) hz (fun z14 h_z14 => (hgo 1 _ _ _ _ z14 h_z14))))))))
theorem fb_X13_simplify_2 {K : Nat} {z0 z : ow_MS}  {go : Nat → Int32 → Int32 → Int32 → Int32 → ow_MS → Option (Int32 × ow_MS)} {x1 : Int32} {x2 : Int32} {x3 : Int32} {x4 : Int32}  (hgo : ∀ (L : Nat) (x1 : Int32) (x2 : Int32) (x3 : Int32) (x4 : Int32) (z : ow_MS), fr (pf [1, 2, 3, 4, 5, 6, 7, 8, 9, 12, 20, 21, 22, 23, 24, 25, 26, 27, 29, 30, 31, 32, 33, 34] []) z0 z → Fo Prod.snd (pf [1, 2, 3, 4, 5, 6, 7, 8, 9, 12, 20, 21, 22, 23, 24, 25, 26, 27, 29, 30, 31, 32, 33, 34] []) z0 (go L x1 x2 x3 x4 z)) (hz : fr (pf [1, 2, 3, 4, 5, 6, 7, 8, 9, 12, 20, 21, 22, 23, 24, 25, 26, 27, 29, 30, 31, 32, 33, 34] []) z0 z)  : Fo Prod.snd (pf [1, 2, 3, 4, 5, 6, 7, 8, 9, 12, 20, 21, 22, 23, 24, 25, 26, 27, 29, 30, 31, 32, 33, 34] []) z0 (qm_X13_simplify_2 K go x1 x2 x3 x4 z) := by
  unfold qm_X13_simplify_2
  exact (fo_rdF (fun v15 => (fo_if (hgo 5 _ _ _ _ z hz) (fo_rdF (fun v16 => (fo_if (hgo 5 _ _ _ _ z hz) (fo_cs1 (ff_X13_isLesser) (pf_sub (by decide) pf_0) hz (fun v18 z17 h_z17 => (fo_if (hgo 3 _ _ _ _ z17 h_z17) (hgo 3 _ _ _ _ z17 h_z17))))))))))
theorem fb_X13_simplify_3 {K : Nat} {z0 z : ow_MS}  {go : Nat → Int32 → Int32 → Int32 → Int32 → ow_MS → Option (Int32 × ow_MS)} {x1 : Int32} {x2 : Int32} {x3 : Int32} {x4 : Int32}  (hgo : ∀ (L : Nat) (x1 : Int32) (x2 : Int32) (x3 : Int32) (x4 : Int32) (z : ow_MS), fr (pf [1, 2, 3, 4, 5, 6, 7, 8, 9, 12, 20, 21, 22, 23, 24, 25, 26, 27, 29, 30, 31, 32, 33, 34] []) z0 z → Fo Prod.snd (pf [1, 2, 3, 4, 5, 6, 7, 8, 9, 12, 20, 21, 22, 23, 24, 25, 26, 27, 29, 30, 31, 32, 33, 34] []) z0 (go L x1 x2 x3 x4 z)) (hz : fr (pf [1, 2, 3, 4, 5, 6, 7, 8, 9, 12, 20, 21, 22, 23, 24, 25, 26, 27, 29, 30, 31, 32, 33, 34] []) z0 z)  : Fo Prod.snd (pf [1, 2, 3, 4, 5, 6, 7, 8, 9, 12, 20, 21, 22, 23, 24, 25, 26, 27, 29, 30, 31, 32, 33, 34] []) z0 (qm_X13_simplify_3 K go x1 x2 x3 x4 z) := by
  unfold qm_X13_simplify_3
  exact (hgo 4 _ _ _ _ z hz)
theorem fb_X13_simplify_4 {K : Nat} {z0 z : ow_MS}  {go : Nat → Int32 → Int32 → Int32 → Int32 → ow_MS → Option (Int32 × ow_MS)} {x1 : Int32} {x2 : Int32} {x3 : Int32} {x4 : Int32}  (hgo : ∀ (L : Nat) (x1 : Int32) (x2 : Int32) (x3 : Int32) (x4 : Int32) (z : ow_MS), fr (pf [1, 2, 3, 4, 5, 6, 7, 8, 9, 12, 20, 21, 22, 23, 24, 25, 26, 27, 29, 30, 31, 32, 33, 34] []) z0 z → Fo Prod.snd (pf [1, 2, 3, 4, 5, 6, 7, 8, 9, 12, 20, 21, 22, 23, 24, 25, 26, 27, 29, 30, 31, 32, 33, 34] []) z0 (go L x1 x2 x3 x4 z)) (hz : fr (pf [1, 2, 3, 4, 5, 6, 7, 8, 9, 12, 20, 21, 22, 23, 24, 25, 26, 27, 29, 30, 31, 32, 33, 34] []) z0 z)  : Fo Prod.snd (pf [1, 2, 3, 4, 5, 6, 7, 8, 9, 12, 20, 21, 22, 23, 24, 25, 26, 27, 29, 30, 31, 32, 33, 34] []) z0 (qm_X13_simplify_4 K go x1 x2 x3 x4 z) := by
  unfold qm_X13_simplify_4
  exact (fo_if (hgo 2 _ _ _ _ z hz) (fo_cs0 (ff_X13_unpack (by first | omega | decide)) (pf_sub (by decide) pf_0) hz (fun z19 h_z19 => (fo_cs0 (ff_X12_link (by first | omega | decide)) (pf_sub (by decide) pf_0) h_z19 (fun z20 h_z20 => (fo_cs0 (ff_X13_tryMoves (by first | omega | decide)) (pf_sub (by decide) pf_0) h_z20 (fun z21 h_z21 => (hgo 4 _ _ _ _ z21 h_z21))))))))
theorem fb_X13_simplify_5 {K : Nat} {z0 z : ow_MS}  {go : Nat → Int32 → Int32 → Int32 → Int32 → ow_MS → Option (Int32 × ow_MS)} {x1 : Int32} {x2 : Int32} {x3 : Int32} {x4 : Int32}  (hgo : ∀ (L : Nat) (x1 : Int32) (x2 : Int32) (x3 : Int32) (x4 : Int32) (z : ow_MS), fr (pf [1, 2, 3, 4, 5, 6, 7, 8, 9, 12, 20, 21, 22, 23, 24, 25, 26, 27, 29, 30, 31, 32, 33, 34] []) z0 z → Fo Prod.snd (pf [1, 2, 3, 4, 5, 6, 7, 8, 9, 12, 20, 21, 22, 23, 24, 25, 26, 27, 29, 30, 31, 32, 33, 34] []) z0 (go L x1 x2 x3 x4 z)) (hz : fr (pf [1, 2, 3, 4, 5, 6, 7, 8, 9, 12, 20, 21, 22, 23, 24, 25, 26, 27, 29, 30, 31, 32, 33, 34] []) z0 z)  : Fo Prod.snd (pf [1, 2, 3, 4, 5, 6, 7, 8, 9, 12, 20, 21, 22, 23, 24, 25, 26, 27, 29, 30, 31, 32, 33, 34] []) z0 (qm_X13_simplify_5 K go x1 x2 x3 x4 z) := by
  unfold qm_X13_simplify_5
  exact (fo_rdF (fun v22 => (fo_if (fo_cs1 (ff_X13_keepRow) (pf_sub (by decide) pf_0) hz (fun v24 z23 h_z23 => (fo_some h_z23))) (fo_some hz))))
theorem fq_X13_simplify {K : Nat} {z0 : ow_MS}   : ∀ (k L : Nat) (x1 : Int32) (x2 : Int32) (x3 : Int32) (x4 : Int32) (z : ow_MS), fr (pf [1, 2, 3, 4, 5, 6, 7, 8, 9, 12, 20, 21, 22, 23, 24, 25, 26, 27, 29, 30, 31, 32, 33, 34] []) z0 z → Fo Prod.snd (pf [1, 2, 3, 4, 5, 6, 7, 8, 9, 12, 20, 21, 22, 23, 24, 25, 26, 27, 29, 30, 31, 32, 33, 34] []) z0 (q_X13_simplify K k L x1 x2 x3 x4 z)
  | 0 => by
    intros
    exact fo_none
  | k + 1 => by
    intro L x1 x2 x3 x4 z hz 
    show Fo Prod.snd (pf [1, 2, 3, 4, 5, 6, 7, 8, 9, 12, 20, 21, 22, 23, 24, 25, 26, 27, 29, 30, 31, 32, 33, 34] []) z0 (qb_X13_simplify K (q_X13_simplify K k) L x1 x2 x3 x4 z)
    unfold qb_X13_simplify
    split
    · exact fb_X13_simplify_0 (fq_X13_simplify k) hz 
    · exact fb_X13_simplify_1 (fq_X13_simplify k) hz 
    · exact fb_X13_simplify_2 (fq_X13_simplify k) hz 
    · exact fb_X13_simplify_3 (fq_X13_simplify k) hz 
    · exact fb_X13_simplify_4 (fq_X13_simplify k) hz 
    · exact fb_X13_simplify_5 (fq_X13_simplify k) hz 
    · exact fo_none
theorem ff_X13_simplify {K : Nat} {x1 : Int32} {z : ow_MS}  : Fo Prod.snd (pf [1, 2, 3, 4, 5, 6, 7, 8, 9, 12, 20, 21, 22, 23, 24, 25, 26, 27, 29, 30, 31, 32, 33, 34] []) z (qe_X13_simplify K x1 z) := fq_X13_simplify K 0 _ _ _ _ z fr_rf 
theorem fb_X13_way_0 {K : Nat} {z0 z : ow_MS}  {go : Nat → Int32 → Int32 → Int32 → Int32 → Int32 → Int32 → Int32 → ow_MS → Option (Int32 × ow_MS)} {x1 : Int32} {x2 : Int32} {x3 : Int32} {x4 : Int32} {x5 : Int32} {x6 : Int32} {t0 : Int32}  (hgo : ∀ (L : Nat) (x1 : Int32) (x2 : Int32) (x3 : Int32) (x4 : Int32) (x5 : Int32) (x6 : Int32) (t0 : Int32) (z : ow_MS), fr (pf [1, 2, 3, 4, 5, 6, 7, 8, 9, 20, 21, 22, 23, 24, 25, 26, 27, 28, 29, 30, 31, 32, 33, 34] []) z0 z → Fo Prod.snd (pf [1, 2, 3, 4, 5, 6, 7, 8, 9, 20, 21, 22, 23, 24, 25, 26, 27, 28, 29, 30, 31, 32, 33, 34] []) z0 (go L x1 x2 x3 x4 x5 x6 t0 z)) (hz : fr (pf [1, 2, 3, 4, 5, 6, 7, 8, 9, 20, 21, 22, 23, 24, 25, 26, 27, 28, 29, 30, 31, 32, 33, 34] []) z0 z)  : Fo Prod.snd (pf [1, 2, 3, 4, 5, 6, 7, 8, 9, 20, 21, 22, 23, 24, 25, 26, 27, 28, 29, 30, 31, 32, 33, 34] []) z0 (qm_X13_way_0 K go x1 x2 x3 x4 x5 x6 t0 z) := by
  unfold qm_X13_way_0
  exact (fo_wrF (Or.inl (by decide)) hz (fun z1 h_z1 => (fo_cs1 (ff_X13_has) (pf_sub (by decide) pf_0) h_z1 (fun v3 z2 h_z2 => (fo_if (hgo 1 _ _ _ _ _ _ _ z2 h_z2) (fo_cs1 (ff_X13_has) (pf_sub (by decide) pf_0) h_z2 (fun v5 z4 h_z4 => (fo_if (hgo 1 _ _ _ _ _ _ _ z4 h_z4) (fo_cs1 (ff_X13_visitsOf) (pf_sub (by decide) pf_0) h_z4 (fun v7 z6 h_z6 => (fo_if (hgo 2 _ _ _ _ _ _ _ z6 h_z6) (fo_cs1 (ff_X13_visitsOf) (pf_sub (by decide) pf_0) h_z6 (fun v9 z8 h_z8 => (fo_if (fo_cs1 (ff_X13_alike) (pf_sub (by decide) pf_0) h_z8 (fun v11 z10 h_z10 => (fo_if (hgo 3 _ _ _ _ _ _ _ z10 h_z10) (fo_some h_z10)))) (hgo 2 _ _ _ _ _ _ _ z8 h_z8)))))))))))))))
theorem fb_X13_way_1 {K : Nat} {z0 z : ow_MS}  {go : Nat → Int32 → Int32 → Int32 → Int32 → Int32 → Int32 → Int32 → ow_MS → Option (Int32 × ow_MS)} {x1 : Int32} {x2 : Int32} {x3 : Int32} {x4 : Int32} {x5 : Int32} {x6 : Int32} {t0 : Int32}  (hgo : ∀ (L : Nat) (x1 : Int32) (x2 : Int32) (x3 : Int32) (x4 : Int32) (x5 : Int32) (x6 : Int32) (t0 : Int32) (z : ow_MS), fr (pf [1, 2, 3, 4, 5, 6, 7, 8, 9, 20, 21, 22, 23, 24, 25, 26, 27, 28, 29, 30, 31, 32, 33, 34] []) z0 z → Fo Prod.snd (pf [1, 2, 3, 4, 5, 6, 7, 8, 9, 20, 21, 22, 23, 24, 25, 26, 27, 28, 29, 30, 31, 32, 33, 34] []) z0 (go L x1 x2 x3 x4 x5 x6 t0 z)) (hz : fr (pf [1, 2, 3, 4, 5, 6, 7, 8, 9, 20, 21, 22, 23, 24, 25, 26, 27, 28, 29, 30, 31, 32, 33, 34] []) z0 z)  : Fo Prod.snd (pf [1, 2, 3, 4, 5, 6, 7, 8, 9, 20, 21, 22, 23, 24, 25, 26, 27, 28, 29, 30, 31, 32, 33, 34] []) z0 (qm_X13_way_1 K go x1 x2 x3 x4 x5 x6 t0 z) := by
  unfold qm_X13_way_1
  exact (fo_cs1 (ff_X13_fails) (pf_sub (by decide) pf_0) hz (fun v13 z12 h_z12 => (fo_some h_z12)))
theorem fb_X13_way_2 {K : Nat} {z0 z : ow_MS}  {go : Nat → Int32 → Int32 → Int32 → Int32 → Int32 → Int32 → Int32 → ow_MS → Option (Int32 × ow_MS)} {x1 : Int32} {x2 : Int32} {x3 : Int32} {x4 : Int32} {x5 : Int32} {x6 : Int32} {t0 : Int32}  (hgo : ∀ (L : Nat) (x1 : Int32) (x2 : Int32) (x3 : Int32) (x4 : Int32) (x5 : Int32) (x6 : Int32) (t0 : Int32) (z : ow_MS), fr (pf [1, 2, 3, 4, 5, 6, 7, 8, 9, 20, 21, 22, 23, 24, 25, 26, 27, 28, 29, 30, 31, 32, 33, 34] []) z0 z → Fo Prod.snd (pf [1, 2, 3, 4, 5, 6, 7, 8, 9, 20, 21, 22, 23, 24, 25, 26, 27, 28, 29, 30, 31, 32, 33, 34] []) z0 (go L x1 x2 x3 x4 x5 x6 t0 z)) (hz : fr (pf [1, 2, 3, 4, 5, 6, 7, 8, 9, 20, 21, 22, 23, 24, 25, 26, 27, 28, 29, 30, 31, 32, 33, 34] []) z0 z)  : Fo Prod.snd (pf [1, 2, 3, 4, 5, 6, 7, 8, 9, 20, 21, 22, 23, 24, 25, 26, 27, 28, 29, 30, 31, 32, 33, 34] []) z0 (qm_X13_way_2 K go x1 x2 x3 x4 x5 x6 t0 z) := by
  unfold qm_X13_way_2
  exact (fo_cs1 (ff_X13_fails) (pf_sub (by decide) pf_0) hz (fun v15 z14 h_z14 => (fo_some h_z14)))
theorem fb_X13_way_3 {K : Nat} {z0 z : ow_MS}  {go : Nat → Int32 → Int32 → Int32 → Int32 → Int32 → Int32 → Int32 → ow_MS → Option (Int32 × ow_MS)} {x1 : Int32} {x2 : Int32} {x3 : Int32} {x4 : Int32} {x5 : Int32} {x6 : Int32} {t0 : Int32}  (hgo : ∀ (L : Nat) (x1 : Int32) (x2 : Int32) (x3 : Int32) (x4 : Int32) (x5 : Int32) (x6 : Int32) (t0 : Int32) (z : ow_MS), fr (pf [1, 2, 3, 4, 5, 6, 7, 8, 9, 20, 21, 22, 23, 24, 25, 26, 27, 28, 29, 30, 31, 32, 33, 34] []) z0 z → Fo Prod.snd (pf [1, 2, 3, 4, 5, 6, 7, 8, 9, 20, 21, 22, 23, 24, 25, 26, 27, 28, 29, 30, 31, 32, 33, 34] []) z0 (go L x1 x2 x3 x4 x5 x6 t0 z)) (hz : fr (pf [1, 2, 3, 4, 5, 6, 7, 8, 9, 20, 21, 22, 23, 24, 25, 26, 27, 28, 29, 30, 31, 32, 33, 34] []) z0 z)  : Fo Prod.snd (pf [1, 2, 3, 4, 5, 6, 7, 8, 9, 20, 21, 22, 23, 24, 25, 26, 27, 28, 29, 30, 31, 32, 33, 34] []) z0 (qm_X13_way_3 K go x1 x2 x3 x4 x5 x6 t0 z) := by
  unfold qm_X13_way_3
  exact (fo_rdI (fun v16 => (fo_if (fo_wrF (Or.inl (by decide)) hz (fun z17 h_z17 => (hgo 4 _ _ _ _ _ _ _ z17 h_z17))) (fo_rdI (fun v18 => (fo_wrI (Or.inl (by decide)) hz (fun z19 h_z19 => (hgo 3 _ _ _ _ _ _ _ z19 h_z19))))))))
theorem fb_X13_way_4 {K : Nat} {z0 z : ow_MS}  {go : Nat → Int32 → Int32 → Int32 → Int32 → Int32 → Int32 → Int32 → ow_MS → Option (Int32 × ow_MS)} {x1 : Int32} {x2 : Int32} {x3 : Int32} {x4 : Int32} {x5 : Int32} {x6 : Int32} {t0 : Int32}  (hgo : ∀ (L : Nat) (x1 : Int32) (x2 : Int32) (x3 : Int32) (x4 : Int32) (x5 : Int32) (x6 : Int32) (t0 : Int32) (z : ow_MS), fr (pf [1, 2, 3, 4, 5, 6, 7, 8, 9, 20, 21, 22, 23, 24, 25, 26, 27, 28, 29, 30, 31, 32, 33, 34] []) z0 z → Fo Prod.snd (pf [1, 2, 3, 4, 5, 6, 7, 8, 9, 20, 21, 22, 23, 24, 25, 26, 27, 28, 29, 30, 31, 32, 33, 34] []) z0 (go L x1 x2 x3 x4 x5 x6 t0 z)) (hz : fr (pf [1, 2, 3, 4, 5, 6, 7, 8, 9, 20, 21, 22, 23, 24, 25, 26, 27, 28, 29, 30, 31, 32, 33, 34] []) z0 z)  : Fo Prod.snd (pf [1, 2, 3, 4, 5, 6, 7, 8, 9, 20, 21, 22, 23, 24, 25, 26, 27, 28, 29, 30, 31, 32, 33, 34] []) z0 (qm_X13_way_4 K go x1 x2 x3 x4 x5 x6 t0 z) := by
  unfold qm_X13_way_4
  exact (fo_if (hgo 5 _ _ _ _ _ _ _ z hz) (fo_cs0 (ff_X13_open (by first | omega | decide)) (pf_sub (by decide) pf_0) hz (fun z20 h_z20 => (fo_wrF (Or.inl (by decide)) h_z20 (fun z21 h_z21 => (fo_cs0 (ff_X13_tryMoves (by first | omega | decide)) (pf_sub (by decide) pf_0) h_z21 (fun z22 h_z22 => (hgo 4 _ _ _ _ _ _ _ z22 h_z22))))))))
theorem fb_X13_way_5 {K : Nat} {z0 z : ow_MS}  {go : Nat → Int32 → Int32 → Int32 → Int32 → Int32 → Int32 → Int32 → ow_MS → Option (Int32 × ow_MS)} {x1 : Int32} {x2 : Int32} {x3 : Int32} {x4 : Int32} {x5 : Int32} {x6 : Int32} {t0 : Int32}  (hgo : ∀ (L : Nat) (x1 : Int32) (x2 : Int32) (x3 : Int32) (x4 : Int32) (x5 : Int32) (x6 : Int32) (t0 : Int32) (z : ow_MS), fr (pf [1, 2, 3, 4, 5, 6, 7, 8, 9, 20, 21, 22, 23, 24, 25, 26, 27, 28, 29, 30, 31, 32, 33, 34] []) z0 z → Fo Prod.snd (pf [1, 2, 3, 4, 5, 6, 7, 8, 9, 20, 21, 22, 23, 24, 25, 26, 27, 28, 29, 30, 31, 32, 33, 34] []) z0 (go L x1 x2 x3 x4 x5 x6 t0 z)) (hz : fr (pf [1, 2, 3, 4, 5, 6, 7, 8, 9, 20, 21, 22, 23, 24, 25, 26, 27, 28, 29, 30, 31, 32, 33, 34] []) z0 z)  : Fo Prod.snd (pf [1, 2, 3, 4, 5, 6, 7, 8, 9, 20, 21, 22, 23, 24, 25, 26, 27, 28, 29, 30, 31, 32, 33, 34] []) z0 (qm_X13_way_5 K go x1 x2 x3 x4 x5 x6 t0 z) := by
  unfold qm_X13_way_5
  exact (fo_rdF (fun v23 => (fo_if (fo_okZ (fo_wrF (Or.inl (by decide)) hz (fun z24 h_z24 => (fo_wrF (Or.inl (by decide)) h_z24 (fun z25 h_z25 => (fo_cs1 (ff_X13_visitsOf) (pf_sub (by decide) pf_0) h_z25 (fun v27 z26 h_z26 => (fo_nzI (hgo 6 _ _ _ _ _ _ _ z26 h_z26))))))))) (fo_cs1 (ff_X13_isSame) (pf_sub (by decide) pf_0) hz (fun v29 z28 h_z28 => (fo_if (hgo 5 _ _ _ _ _ _ _ z28 h_z28) (fo_some h_z28)))))))
theorem fb_X13_way_6 {K : Nat} {z0 z : ow_MS}  {go : Nat → Int32 → Int32 → Int32 → Int32 → Int32 → Int32 → Int32 → ow_MS → Option (Int32 × ow_MS)} {x1 : Int32} {x2 : Int32} {x3 : Int32} {x4 : Int32} {x5 : Int32} {x6 : Int32} {t0 : Int32}  (hgo : ∀ (L : Nat) (x1 : Int32) (x2 : Int32) (x3 : Int32) (x4 : Int32) (x5 : Int32) (x6 : Int32) (t0 : Int32) (z : ow_MS), fr (pf [1, 2, 3, 4, 5, 6, 7, 8, 9, 20, 21, 22, 23, 24, 25, 26, 27, 28, 29, 30, 31, 32, 33, 34] []) z0 z → Fo Prod.snd (pf [1, 2, 3, 4, 5, 6, 7, 8, 9, 20, 21, 22, 23, 24, 25, 26, 27, 28, 29, 30, 31, 32, 33, 34] []) z0 (go L x1 x2 x3 x4 x5 x6 t0 z)) (hz : fr (pf [1, 2, 3, 4, 5, 6, 7, 8, 9, 20, 21, 22, 23, 24, 25, 26, 27, 28, 29, 30, 31, 32, 33, 34] []) z0 z)  : Fo Prod.snd (pf [1, 2, 3, 4, 5, 6, 7, 8, 9, 20, 21, 22, 23, 24, 25, 26, 27, 28, 29, 30, 31, 32, 33, 34] []) z0 (qm_X13_way_6 K go x1 x2 x3 x4 x5 x6 t0 z) := by
  unfold qm_X13_way_6
  exact (fo_rdF (fun v30 => (fo_if (hgo 9 _ _ _ _ _ _ _ z hz) (fo_rdF (fun v31 => (fo_if (fo_cs1 (ff_X13_visitsOf) (pf_sub (by decide) pf_0) hz (fun v33 z32 h_z32 => (fo_nzI (fo_if (hgo 7 _ _ _ _ _ _ _ z32 h_z32) (fo_if (hgo 7 _ _ _ _ _ _ _ z32 h_z32) (fo_if (hgo 7 _ _ _ _ _ _ _ z32 h_z32) (fo_if (hgo 7 _ _ _ _ _ _ _ z32 h_z32) (fo_if (hgo 7 _ _ _ _ _ _ _ z32 h_z32) (hgo 7 _ _ _ _ _ _ _ z32 h_z32))))))))) (hgo 9 _ _ _ _ _ _ _ z hz)))))))
theorem fb_X13_way_7 {K : Nat} {z0 z : ow_MS}  {go : Nat → Int32 → Int32 → Int32 → Int32 → Int32 → Int32 → Int32 → ow_MS → Option (Int32 × ow_MS)} {x1 : Int32} {x2 : Int32} {x3 : Int32} {x4 : Int32} {x5 : Int32} {x6 : Int32} {t0 : Int32}  (hgo : ∀ (L : Nat) (x1 : Int32) (x2 : Int32) (x3 : Int32) (x4 : Int32) (x5 : Int32) (x6 : Int32) (t0 : Int32) (z : ow_MS), fr (pf [1, 2, 3, 4, 5, 6, 7, 8, 9, 20, 21, 22, 23, 24, 25, 26, 27, 28, 29, 30, 31, 32, 33, 34] []) z0 z → Fo Prod.snd (pf [1, 2, 3, 4, 5, 6, 7, 8, 9, 20, 21, 22, 23, 24, 25, 26, 27, 28, 29, 30, 31, 32, 33, 34] []) z0 (go L x1 x2 x3 x4 x5 x6 t0 z)) (hz : fr (pf [1, 2, 3, 4, 5, 6, 7, 8, 9, 20, 21, 22, 23, 24, 25, 26, 27, 28, 29, 30, 31, 32, 33, 34] []) z0 z)  : Fo Prod.snd (pf [1, 2, 3, 4, 5, 6, 7, 8, 9, 20, 21, 22, 23, 24, 25, 26, 27, 28, 29, 30, 31, 32, 33, 34] []) z0 (qm_X13_way_7 K go x1 x2 x3 x4 x5 x6 t0 z) := by
  unfold qm_X13_way_7
  exact (fo_if (hgo 8 _ _ _ _ _ _ _ z hz) (fo_cs0 (ff_X13_unpack (by first | omega | decide)) (pf_sub (by decide) pf_0) hz (fun z34 h_z34 => (fo_cs0 (ff_X12_link (by first | omega | decide)) (pf_sub (by decide) pf_0) h_z34 (fun z35 h_z35 => (fo_cs0 (ff_X13_tryMoves (by first | omega | decide)) (pf_sub (by decide) pf_0) h_z35 (fun z36 h_z36 => (hgo 8 _ _ _ _ _ _ _ z36 h_z36))))))))
theorem fb_X13_way_8 {K : Nat} {z0 z : ow_MS}  {go : Nat → Int32 → Int32 → Int32 → Int32 → Int32 → Int32 → Int32 → ow_MS → Option (Int32 × ow_MS)} {x1 : Int32} {x2 : Int32} {x3 : Int32} {x4 : Int32} {x5 : Int32} {x6 : Int32} {t0 : Int32}  (hgo : ∀ (L : Nat) (x1 : Int32) (x2 : Int32) (x3 : Int32) (x4 : Int32) (x5 : Int32) (x6 : Int32) (t0 : Int32) (z : ow_MS), fr (pf [1, 2, 3, 4, 5, 6, 7, 8, 9, 20, 21, 22, 23, 24, 25, 26, 27, 28, 29, 30, 31, 32, 33, 34] []) z0 z → Fo Prod.snd (pf [1, 2, 3, 4, 5, 6, 7, 8, 9, 20, 21, 22, 23, 24, 25, 26, 27, 28, 29, 30, 31, 32, 33, 34] []) z0 (go L x1 x2 x3 x4 x5 x6 t0 z)) (hz : fr (pf [1, 2, 3, 4, 5, 6, 7, 8, 9, 20, 21, 22, 23, 24, 25, 26, 27, 28, 29, 30, 31, 32, 33, 34] []) z0 z)  : Fo Prod.snd (pf [1, 2, 3, 4, 5, 6, 7, 8, 9, 20, 21, 22, 23, 24, 25, 26, 27, 28, 29, 30, 31, 32, 33, 34] []) z0 (qm_X13_way_8 K go x1 x2 x3 x4 x5 x6 t0 z) := by
  unfold qm_X13_way_8
  exact (hgo 6 _ _ _ _ _ _ _ z hz)
theorem fb_X13_way_9 {K : Nat} {z0 z : ow_MS}  {go : Nat → Int32 → Int32 → Int32 → Int32 → Int32 → Int32 → Int32 → ow_MS → Option (Int32 × ow_MS)} {x1 : Int32} {x2 : Int32} {x3 : Int32} {x4 : Int32} {x5 : Int32} {x6 : Int32} {t0 : Int32}  (hgo : ∀ (L : Nat) (x1 : Int32) (x2 : Int32) (x3 : Int32) (x4 : Int32) (x5 : Int32) (x6 : Int32) (t0 : Int32) (z : ow_MS), fr (pf [1, 2, 3, 4, 5, 6, 7, 8, 9, 20, 21, 22, 23, 24, 25, 26, 27, 28, 29, 30, 31, 32, 33, 34] []) z0 z → Fo Prod.snd (pf [1, 2, 3, 4, 5, 6, 7, 8, 9, 20, 21, 22, 23, 24, 25, 26, 27, 28, 29, 30, 31, 32, 33, 34] []) z0 (go L x1 x2 x3 x4 x5 x6 t0 z)) (hz : fr (pf [1, 2, 3, 4, 5, 6, 7, 8, 9, 20, 21, 22, 23, 24, 25, 26, 27, 28, 29, 30, 31, 32, 33, 34] []) z0 z)  : Fo Prod.snd (pf [1, 2, 3, 4, 5, 6, 7, 8, 9, 20, 21, 22, 23, 24, 25, 26, 27, 28, 29, 30, 31, 32, 33, 34] []) z0 (qm_X13_way_9 K go x1 x2 x3 x4 x5 x6 t0 z) := by
  unfold qm_X13_way_9
  exact (fo_rdF (fun v37 => (fo_if (fo_some hz) (fo_some hz))))
theorem fq_X13_way {K : Nat} {z0 : ow_MS}   : ∀ (k L : Nat) (x1 : Int32) (x2 : Int32) (x3 : Int32) (x4 : Int32) (x5 : Int32) (x6 : Int32) (t0 : Int32) (z : ow_MS), fr (pf [1, 2, 3, 4, 5, 6, 7, 8, 9, 20, 21, 22, 23, 24, 25, 26, 27, 28, 29, 30, 31, 32, 33, 34] []) z0 z → Fo Prod.snd (pf [1, 2, 3, 4, 5, 6, 7, 8, 9, 20, 21, 22, 23, 24, 25, 26, 27, 28, 29, 30, 31, 32, 33, 34] []) z0 (q_X13_way K k L x1 x2 x3 x4 x5 x6 t0 z)
  | 0 => by
    intros
    exact fo_none
  | k + 1 => by
    intro L x1 x2 x3 x4 x5 x6 t0 z hz 
    show Fo Prod.snd (pf [1, 2, 3, 4, 5, 6, 7, 8, 9, 20, 21, 22, 23, 24, 25, 26, 27, 28, 29, 30, 31, 32, 33, 34] []) z0 (qb_X13_way K (q_X13_way K k) L x1 x2 x3 x4 x5 x6 t0 z)
    unfold qb_X13_way
    split
    · exact fb_X13_way_0 (fq_X13_way k) hz 
    · exact fb_X13_way_1 (fq_X13_way k) hz 
    · exact fb_X13_way_2 (fq_X13_way k) hz 
    · exact fb_X13_way_3 (fq_X13_way k) hz 
    · exact fb_X13_way_4 (fq_X13_way k) hz 
    · exact fb_X13_way_5 (fq_X13_way k) hz 
    · exact fb_X13_way_6 (fq_X13_way k) hz 
    · exact fb_X13_way_7 (fq_X13_way k) hz 
    · exact fb_X13_way_8 (fq_X13_way k) hz 
    · exact fb_X13_way_9 (fq_X13_way k) hz 
    · exact fo_none
theorem ff_X13_way {K : Nat} {x1 : Int32} {x2 : Int32} {z : ow_MS}  : Fo Prod.snd (pf [1, 2, 3, 4, 5, 6, 7, 8, 9, 20, 21, 22, 23, 24, 25, 26, 27, 28, 29, 30, 31, 32, 33, 34] []) z (qe_X13_way K x1 x2 z) := fq_X13_way K 0 _ _ _ _ _ _ _ z fr_rf 
theorem fb_X13_waitsFor_0 {K : Nat} {z0 z : ow_MS}  {go : Nat → Int32 → Int32 → Int32 → Int32 → Int32 → Nat → ow_MS → Option ow_MS} {x2 : Int32} {x3 : Int32} {x4 : Int32} {x5 : Int32} {x6 : Int32} {r1 : Nat}  (hgo : ∀ (L : Nat) (x2 : Int32) (x3 : Int32) (x4 : Int32) (x5 : Int32) (x6 : Int32) (r1 : Nat) (z : ow_MS), fr (pf [2, 3, 4, 5, 6, 7, 8, 9, 37] []) z0 z → (L = 0 ∨ L = 1 ∨ L = 2 ∨ L = 3 ∨ L = 4 → 1000 ≤ r1) → Fo id (pf [2, 3, 4, 5, 6, 7, 8, 9, 37] []) z0 (go L x2 x3 x4 x5 x6 r1 z)) (hz : fr (pf [2, 3, 4, 5, 6, 7, 8, 9, 37] []) z0 z) (hr1 : 1000 ≤ r1) : Fo id (pf [2, 3, 4, 5, 6, 7, 8, 9, 37] []) z0 (qm_X13_waitsFor_0 K go x2 x3 x4 x5 x6 r1 z) := by
  unfold qm_X13_waitsFor_0
  exact (fo_cs0 (ff_X12_clear (by first | omega | decide)) (pf_sub (by decide) pf_0) hz (fun z1 h_z1 => (fo_cs0 (ff_X12_signsOf (by first | omega | decide) (by first | omega | decide)) (pf_sub (by decide) pf_0) h_z1 (fun z2 h_z2 => (hgo 1 _ _ _ _ _ _ z2 h_z2 (fun _ => (by first | omega | decide)))))))
theorem fb_X13_waitsFor_1 {K : Nat} {z0 z : ow_MS}  {go : Nat → Int32 → Int32 → Int32 → Int32 → Int32 → Nat → ow_MS → Option ow_MS} {x2 : Int32} {x3 : Int32} {x4 : Int32} {x5 : Int32} {x6 : Int32} {r1 : Nat}  (hgo : ∀ (L : Nat) (x2 : Int32) (x3 : Int32) (x4 : Int32) (x5 : Int32) (x6 : Int32) (r1 : Nat) (z : ow_MS), fr (pf [2, 3, 4, 5, 6, 7, 8, 9, 37] []) z0 z → (L = 0 ∨ L = 1 ∨ L = 2 ∨ L = 3 ∨ L = 4 → 1000 ≤ r1) → Fo id (pf [2, 3, 4, 5, 6, 7, 8, 9, 37] []) z0 (go L x2 x3 x4 x5 x6 r1 z)) (hz : fr (pf [2, 3, 4, 5, 6, 7, 8, 9, 37] []) z0 z) (hr1 : 1000 ≤ r1) : Fo id (pf [2, 3, 4, 5, 6, 7, 8, 9, 37] []) z0 (qm_X13_waitsFor_1 K go x2 x3 x4 x5 x6 r1 z) := by
  unfold qm_X13_waitsFor_1
  exact (fo_rdF (fun v3 => (fo_if (fo_cs0 (ff_X13_pack (by first | omega | decide)) (pf_sub (by decide) (pf_1 (Or.inl (by decide)))) hz (fun z4 h_z4 => (fo_some h_z4))) (fo_rdI (fun v5 => (hgo 2 _ _ _ _ _ _ z hz (fun _ => (by first | omega | decide))))))))
theorem fb_X13_waitsFor_2 {K : Nat} {z0 z : ow_MS}  {go : Nat → Int32 → Int32 → Int32 → Int32 → Int32 → Nat → ow_MS → Option ow_MS} {x2 : Int32} {x3 : Int32} {x4 : Int32} {x5 : Int32} {x6 : Int32} {r1 : Nat}  (hgo : ∀ (L : Nat) (x2 : Int32) (x3 : Int32) (x4 : Int32) (x5 : Int32) (x6 : Int32) (r1 : Nat) (z : ow_MS), fr (pf [2, 3, 4, 5, 6, 7, 8, 9, 37] []) z0 z → (L = 0 ∨ L = 1 ∨ L = 2 ∨ L = 3 ∨ L = 4 → 1000 ≤ r1) → Fo id (pf [2, 3, 4, 5, 6, 7, 8, 9, 37] []) z0 (go L x2 x3 x4 x5 x6 r1 z)) (hz : fr (pf [2, 3, 4, 5, 6, 7, 8, 9, 37] []) z0 z) (hr1 : 1000 ≤ r1) : Fo id (pf [2, 3, 4, 5, 6, 7, 8, 9, 37] []) z0 (qm_X13_waitsFor_2 K go x2 x3 x4 x5 x6 r1 z) := by
  unfold qm_X13_waitsFor_2
  exact (fo_rdI (fun v6 => (fo_if (fo_if (hgo 4 _ _ _ _ _ _ z hz (fun _ => (by first | omega | decide))) (fo_cs0 (ff_X12_end (by first | omega | decide)) (pf_sub (by decide) pf_0) hz (fun z7 h_z7 => (hgo 4 _ _ _ _ _ _ z7 h_z7 (fun _ => (by first | omega | decide)))))) (fo_rdI (fun v8 => (fo_if (fo_rdI (fun v9 => (fo_rdI (fun v10 => (fo_cs0 (ff_X12_add (by first | omega | decide)) (pf_sub (by decide) pf_0) hz (fun z11 h_z11 => (hgo 3 _ _ _ _ _ _ z11 h_z11 (fun _ => (by first | omega | decide))))))))) (hgo 3 _ _ _ _ _ _ z hz (fun _ => (by first | omega | decide)))))))))
theorem fb_X13_waitsFor_3 {K : Nat} {z0 z : ow_MS}  {go : Nat → Int32 → Int32 → Int32 → Int32 → Int32 → Nat → ow_MS → Option ow_MS} {x2 : Int32} {x3 : Int32} {x4 : Int32} {x5 : Int32} {x6 : Int32} {r1 : Nat}  (hgo : ∀ (L : Nat) (x2 : Int32) (x3 : Int32) (x4 : Int32) (x5 : Int32) (x6 : Int32) (r1 : Nat) (z : ow_MS), fr (pf [2, 3, 4, 5, 6, 7, 8, 9, 37] []) z0 z → (L = 0 ∨ L = 1 ∨ L = 2 ∨ L = 3 ∨ L = 4 → 1000 ≤ r1) → Fo id (pf [2, 3, 4, 5, 6, 7, 8, 9, 37] []) z0 (go L x2 x3 x4 x5 x6 r1 z)) (hz : fr (pf [2, 3, 4, 5, 6, 7, 8, 9, 37] []) z0 z) (hr1 : 1000 ≤ r1) : Fo id (pf [2, 3, 4, 5, 6, 7, 8, 9, 37] []) z0 (qm_X13_waitsFor_3 K go x2 x3 x4 x5 x6 r1 z) := by
  unfold qm_X13_waitsFor_3
  exact (hgo 2 _ _ _ _ _ _ z hz (fun _ => (by first | omega | decide)))
theorem fb_X13_waitsFor_4 {K : Nat} {z0 z : ow_MS}  {go : Nat → Int32 → Int32 → Int32 → Int32 → Int32 → Nat → ow_MS → Option ow_MS} {x2 : Int32} {x3 : Int32} {x4 : Int32} {x5 : Int32} {x6 : Int32} {r1 : Nat}  (hgo : ∀ (L : Nat) (x2 : Int32) (x3 : Int32) (x4 : Int32) (x5 : Int32) (x6 : Int32) (r1 : Nat) (z : ow_MS), fr (pf [2, 3, 4, 5, 6, 7, 8, 9, 37] []) z0 z → (L = 0 ∨ L = 1 ∨ L = 2 ∨ L = 3 ∨ L = 4 → 1000 ≤ r1) → Fo id (pf [2, 3, 4, 5, 6, 7, 8, 9, 37] []) z0 (go L x2 x3 x4 x5 x6 r1 z)) (hz : fr (pf [2, 3, 4, 5, 6, 7, 8, 9, 37] []) z0 z) (hr1 : 1000 ≤ r1) : Fo id (pf [2, 3, 4, 5, 6, 7, 8, 9, 37] []) z0 (qm_X13_waitsFor_4 K go x2 x3 x4 x5 x6 r1 z) := by
  unfold qm_X13_waitsFor_4
  exact (hgo 1 _ _ _ _ _ _ z hz (fun _ => (by first | omega | decide)))
theorem fq_X13_waitsFor {K : Nat} {z0 : ow_MS}   : ∀ (k L : Nat) (x2 : Int32) (x3 : Int32) (x4 : Int32) (x5 : Int32) (x6 : Int32) (r1 : Nat) (z : ow_MS), fr (pf [2, 3, 4, 5, 6, 7, 8, 9, 37] []) z0 z → (L = 0 ∨ L = 1 ∨ L = 2 ∨ L = 3 ∨ L = 4 → 1000 ≤ r1) → Fo id (pf [2, 3, 4, 5, 6, 7, 8, 9, 37] []) z0 (q_X13_waitsFor K k L x2 x3 x4 x5 x6 r1 z)
  | 0 => by
    intros
    exact fo_none
  | k + 1 => by
    intro L x2 x3 x4 x5 x6 r1 z hz h9_r1
    show Fo id (pf [2, 3, 4, 5, 6, 7, 8, 9, 37] []) z0 (qb_X13_waitsFor K (q_X13_waitsFor K k) L x2 x3 x4 x5 x6 r1 z)
    unfold qb_X13_waitsFor
    split
    · exact fb_X13_waitsFor_0 (fq_X13_waitsFor k) hz (h9_r1 (by decide))
    · exact fb_X13_waitsFor_1 (fq_X13_waitsFor k) hz (h9_r1 (by decide))
    · exact fb_X13_waitsFor_2 (fq_X13_waitsFor k) hz (h9_r1 (by decide))
    · exact fb_X13_waitsFor_3 (fq_X13_waitsFor k) hz (h9_r1 (by decide))
    · exact fb_X13_waitsFor_4 (fq_X13_waitsFor k) hz (h9_r1 (by decide))
    · exact fo_none
theorem ff_X13_waitsFor {K : Nat} {r1 : Nat} {x2 : Int32} {x3 : Int32} {z : ow_MS} (hr1 : 1000 ≤ r1) : Fo id (pf [2, 3, 4, 5, 6, 7, 8, 9, 37] []) z (qe_X13_waitsFor K r1 x2 x3 z) := fq_X13_waitsFor K 0 _ _ _ _ _ _ z fr_rf (fun _ => (by first | omega | decide))
end
