/-! which handles a method of the reference may change, read off its text -/
abbrev pf (L R : List Nat) (g : Nat) : Prop := g ∈ L ∨ g ∈ R ∨ 1000 ≤ g
def Fo {O : Type} (st : O → ow_MS) (P : Nat → Prop) (z0 : ow_MS) (e : Option O) : Prop := ∀ r, e = some r → fr P z0 (st r)
section FOB
variable {O α : Type} {st : O → ow_MS} {P P' : Nat → Prop} {z0 z : ow_MS} {h : Nat} {i x : Int32} {y : Int64} {X : ow_Tb}
theorem fo_none : Fo st P z0 (none : Option O) := fun _ h => by cases h
theorem fo_some {r : O} (h : fr P z0 (st r)) : Fo st P z0 (some r) := fun _ e => by cases e; exact h
theorem fo_if {c : Prop} [Decidable c] {a b : Option O} (h1 : Fo st P z0 a) (h2 : Fo st P z0 b) : Fo st P z0 (if c then a else b) := by
  by_cases h : c
  · rw [if_pos h]; exact h1
  · rw [if_neg h]; exact h2
theorem fo_rdF {f : Int32 → Option O} (H : ∀ v, Fo st P z0 (f v)) : Fo st P z0 (rdF z h f) := H _
theorem fo_rdI {f : Int32 → Option O} (H : ∀ v, Fo st P z0 (f v)) : Fo st P z0 (rdI X z h i f) := fo_if fo_none (H _)
theorem fo_rdJ {f : Int64 → Option O} (H : ∀ v, Fo st P z0 (f v)) : Fo st P z0 (rdJ X z h i f) := fo_if fo_none (H _)
theorem fo_rdN {f : Nat → Option O} (H : ∀ n, 1000 ≤ n → Fo st P z0 (f n)) : Fo st P z0 (rdN i f) := fo_if fo_none (H _ (by omega))
theorem fo_nzI {e : Option O} (H : Fo st P z0 e) : Fo st P z0 (nzI x e) := fo_if fo_none H
theorem fo_nzJ {e : Option O} (H : Fo st P z0 e) : Fo st P z0 (nzJ y e) := fo_if fo_none H
theorem fo_okZ {e : Option O} (H : Fo st P z0 e) : Fo st P z0 (okZ x e) := fo_if H fo_none
theorem fo_wrF {f : ow_MS → Option O} (hP : P h) (hz : fr P z0 z) (H : ∀ z1, fr P z0 z1 → Fo st P z0 (f z1)) : Fo st P z0 (wrF z h x f) := H _ (fr_F2 hz hP)
theorem fo_wrI {f : ow_MS → Option O} (hP : P h) (hz : fr P z0 z) (H : ∀ z1, fr P z0 z1 → Fo st P z0 (f z1)) : Fo st P z0 (wrI X z h i x f) := fo_if fo_none (H _ (fr_I2 hz hP))
theorem fo_wrZ {f : ow_MS → Option O} (hP : P h) (hz : fr P z0 z) (H : ∀ z1, fr P z0 z1 → Fo st P z0 (f z1)) : Fo st P z0 (wrZ X z h i x f) := fo_if fo_none (H _ (fr_I2 hz hP))
theorem fo_wrB {f : ow_MS → Option O} (hP : P h) (hz : fr P z0 z) (H : ∀ z1, fr P z0 z1 → Fo st P z0 (f z1)) : Fo st P z0 (wrB X z h i x f) := fo_if fo_none (H _ (fr_I2 hz hP))
theorem fo_wrJ {f : ow_MS → Option O} (hP : P h) (hz : fr P z0 z) (H : ∀ z1, fr P z0 z1 → Fo st P z0 (f z1)) : Fo st P z0 (wrJ X z h i y f) := fo_if fo_none (H _ (fr_J2 hz hP))
theorem fo_cs0 {o : Option ow_MS} {f : ow_MS → Option O} (hc : Fo id P' z o) (hs : ∀ g, P' g → P g) (hz : fr P z0 z) (H : ∀ z1, fr P z0 z1 → Fo st P z0 (f z1)) : Fo st P z0 (cs0 o f) := by
  cases o with
  | none => exact fo_none
  | some r => exact H r (fr_tr hz (fr_mono hs (hc r rfl)))
theorem fo_cs1 {o : Option (α × ow_MS)} {f : α → ow_MS → Option O} (hc : Fo Prod.snd P' z o) (hs : ∀ g, P' g → P g) (hz : fr P z0 z) (H : ∀ a z1, fr P z0 z1 → Fo st P z0 (f a z1)) : Fo st P z0 (cs1 o f) := by
  cases o with
  | none => exact fo_none
  | some r => exact H r.1 r.2 (fr_tr hz (fr_mono hs (hc r rfl)))
theorem fo_ss0 {o : Option ow_MS} {f : ow_MS → Option O} (hc : Fo id P z0 o) (H : ∀ z1, fr P z0 z1 → Fo st P z0 (f z1)) : Fo st P z0 (cs0 o f) := by
  cases o with
  | none => exact fo_none
  | some r => exact H r (hc r rfl)
theorem fo_ss1 {o : Option (α × ow_MS)} {f : α → ow_MS → Option O} (hc : Fo Prod.snd P z0 o) (H : ∀ a z1, fr P z0 z1 → Fo st P z0 (f a z1)) : Fo st P z0 (cs1 o f) := by
  cases o with
  | none => exact fo_none
  | some r => exact H r.1 r.2 (hc r rfl)
theorem pf_sub {L L' R R' : List Nat} (h1 : (L'.all (fun g => L.contains g)) = true) (h2 : ∀ g, g ∈ R' → pf L R g) : ∀ g, pf L' R' g → pf L R g := by
  rintro g (h | h | h)
  · have := List.all_eq_true.mp h1 g h
    exact Or.inl (List.contains_iff_mem.mp this)
  · exact h2 g h
  · exact Or.inr (Or.inr h)
theorem pf_0 {L R : List Nat} : ∀ g, g ∈ ([] : List Nat) → pf L R g := fun _ h => absurd h List.not_mem_nil
theorem pf_1 {L R : List Nat} {a : Nat} (h : pf L R a) : ∀ g, g ∈ [a] → pf L R g := fun g hg => by rw [List.mem_singleton.mp hg]; exact h
/-- a run that ends, and what it may change -/
theorem te_fo {f : Nat → Option O} {Q : O → Prop} (h : Te f Q) (hf : ∀ K, Fo st P z0 (f K)) : Te f (fun r => Q r ∧ fr P z0 (st r)) := by
  obtain ⟨r, ⟨K, hK⟩, hQ⟩ := h
  exact ⟨r, ⟨K, hK⟩, hQ, hf K r (hK K (Nat.le_refl _))⟩
end FOB
theorem ff_X13_fails {K : Nat} {x1 : Int32} {z : ow_MS}  : Fo Prod.snd (pf [1] []) z (qe_X13_fails K x1 z) := by
  unfold qe_X13_fails qm_X13_fails_0
  exact (fo_wrF (Or.inl (by decide)) fr_rf (fun z1 h_z1 => (fo_some h_z1)))
theorem fb_X13_feed_0 {K : Nat} {z0 z : ow_MS}  {go : Nat → Int32 → Int32 → Int32 → Int32 → Int32 → Int32 → Int32 → ow_MS → Option (Int32 × ow_MS)} {x1 : Int32} {x2 : Int32} {x3 : Int32} {x4 : Int32} {x5 : Int32} {x6 : Int32} {t0 : Int32}  (hgo : ∀ (L : Nat) (x1 : Int32) (x2 : Int32) (x3 : Int32) (x4 : Int32) (x5 : Int32) (x6 : Int32) (t0 : Int32) (z : ow_MS), fr (pf [1, 10, 11] []) z0 z → Fo Prod.snd (pf [1, 10, 11] []) z0 (go L x1 x2 x3 x4 x5 x6 t0 z)) (hz : fr (pf [1, 10, 11] []) z0 z)  : Fo Prod.snd (pf [1, 10, 11] []) z0 (qm_X13_feed_0 K go x1 x2 x3 x4 x5 x6 t0 z) := by
  unfold qm_X13_feed_0
  exact (fo_wrF (Or.inl (by decide)) hz (fun z1 h_z1 => (fo_rdF (fun v2 => (fo_if (hgo 1 _ _ _ _ _ _ _ z1 h_z1) (fo_cs1 (ff_X13_fails) (pf_sub (by decide) pf_0) h_z1 (fun v4 z3 h_z3 => (fo_some h_z3))))))))
theorem fb_X13_feed_1 {K : Nat} {z0 z : ow_MS}  {go : Nat → Int32 → Int32 → Int32 → Int32 → Int32 → Int32 → Int32 → ow_MS → Option (Int32 × ow_MS)} {x1 : Int32} {x2 : Int32} {x3 : Int32} {x4 : Int32} {x5 : Int32} {x6 : Int32} {t0 : Int32}  (hgo : ∀ (L : Nat) (x1 : Int32) (x2 : Int32) (x3 : Int32) (x4 : Int32) (x5 : Int32) (x6 : Int32) (t0 : Int32) (z : ow_MS), fr (pf [1, 10, 11] []) z0 z → Fo Prod.snd (pf [1, 10, 11] []) z0 (go L x1 x2 x3 x4 x5 x6 t0 z)) (hz : fr (pf [1, 10, 11] []) z0 z)  : Fo Prod.snd (pf [1, 10, 11] []) z0 (qm_X13_feed_1 K go x1 x2 x3 x4 x5 x6 t0 z) := by
  unfold qm_X13_feed_1
  exact (fo_if (fo_rdF (fun v5 => (fo_some hz))) (fo_if (fo_if (fo_if (fo_if (hgo 2 _ _ _ _ _ _ _ z hz) (hgo 2 _ _ _ _ _ _ _ z hz)) (hgo 2 _ _ _ _ _ _ _ z hz)) (hgo 2 _ _ _ _ _ _ _ z hz)) (hgo 2 _ _ _ _ _ _ _ z hz)))
theorem fb_X13_feed_2 {K : Nat} {z0 z : ow_MS}  {go : Nat → Int32 → Int32 → Int32 → Int32 → Int32 → Int32 → Int32 → ow_MS → Option (Int32 × ow_MS)} {x1 : Int32} {x2 : Int32} {x3 : Int32} {x4 : Int32} {x5 : Int32} {x6 : Int32} {t0 : Int32}  (hgo : ∀ (L : Nat) (x1 : Int32) (x2 : Int32) (x3 : Int32) (x4 : Int32) (x5 : Int32) (x6 : Int32) (t0 : Int32) (z : ow_MS), fr (pf [1, 10, 11] []) z0 z → Fo Prod.snd (pf [1, 10, 11] []) z0 (go L x1 x2 x3 x4 x5 x6 t0 z)) (hz : fr (pf [1, 10, 11] []) z0 z)  : Fo Prod.snd (pf [1, 10, 11] []) z0 (qm_X13_feed_2 K go x1 x2 x3 x4 x5 x6 t0 z) := by
  unfold qm_X13_feed_2
  exact (fo_rdF (fun v6 => (fo_wrB (Or.inl (by decide)) hz (fun z7 h_z7 => (fo_rdF (fun v8 => (fo_wrF (Or.inl (by decide)) h_z7 (fun z9 h_z9 => (hgo 1 _ _ _ _ _ _ _ z9 h_z9)))))))))
theorem fq_X13_feed {K : Nat} {z0 : ow_MS}   : ∀ (k L : Nat) (x1 : Int32) (x2 : Int32) (x3 : Int32) (x4 : Int32) (x5 : Int32) (x6 : Int32) (t0 : Int32) (z : ow_MS), fr (pf [1, 10, 11] []) z0 z → Fo Prod.snd (pf [1, 10, 11] []) z0 (q_X13_feed K k L x1 x2 x3 x4 x5 x6 t0 z)
  | 0 => by
    intros
    exact fo_none
  | k + 1 => by
    intro L x1 x2 x3 x4 x5 x6 t0 z hz 
    show Fo Prod.snd (pf [1, 10, 11] []) z0 (qb_X13_feed K (q_X13_feed K k) L x1 x2 x3 x4 x5 x6 t0 z)
    unfold qb_X13_feed
    split
    · exact fb_X13_feed_0 (fq_X13_feed k) hz 
    · exact fb_X13_feed_1 (fq_X13_feed k) hz 
    · exact fb_X13_feed_2 (fq_X13_feed k) hz 
    · exact fo_none
theorem ff_X13_feed {K : Nat} {x1 : Int32} {x2 : Int32} {x3 : Int32} {x4 : Int32} {x5 : Int32} {z : ow_MS}  : Fo Prod.snd (pf [1, 10, 11] []) z (qe_X13_feed K x1 x2 x3 x4 x5 z) := fq_X13_feed K 0 _ _ _ _ _ _ _ z fr_rf 
theorem fb_X13_end_0 {K : Nat} {z0 z : ow_MS}  {go : Nat → Int32 → ow_MS → Option ow_MS} {x1 : Int32}  (hgo : ∀ (L : Nat) (x1 : Int32) (z : ow_MS), fr (pf [1, 11] []) z0 z → Fo id (pf [1, 11] []) z0 (go L x1 z)) (hz : fr (pf [1, 11] []) z0 z)  : Fo id (pf [1, 11] []) z0 (qm_X13_end_0 K go x1 z) := by
  unfold qm_X13_end_0
  exact (fo_wrF (Or.inl (by decide)) hz (fun z1 h_z1 => (fo_if (hgo 1 _ z1 h_z1) (fo_rdF (fun v2 => (fo_if (fo_wrF (Or.inl (by decide)) h_z1 (fun z3 h_z3 => (fo_some h_z3))) (hgo 1 _ z1 h_z1)))))))
theorem fb_X13_end_1 {K : Nat} {z0 z : ow_MS}  {go : Nat → Int32 → ow_MS → Option ow_MS} {x1 : Int32}  (hgo : ∀ (L : Nat) (x1 : Int32) (z : ow_MS), fr (pf [1, 11] []) z0 z → Fo id (pf [1, 11] []) z0 (go L x1 z)) (hz : fr (pf [1, 11] []) z0 z)  : Fo id (pf [1, 11] []) z0 (qm_X13_end_1 K go x1 z) := by
  unfold qm_X13_end_1
  exact (fo_cs1 (ff_X13_fails) (pf_sub (by decide) pf_0) hz (fun v5 z4 h_z4 => (fo_some h_z4)))
theorem fq_X13_end {K : Nat} {z0 : ow_MS}   : ∀ (k L : Nat) (x1 : Int32) (z : ow_MS), fr (pf [1, 11] []) z0 z → Fo id (pf [1, 11] []) z0 (q_X13_end K k L x1 z)
  | 0 => by
    intros
    exact fo_none
  | k + 1 => by
    intro L x1 z hz 
    show Fo id (pf [1, 11] []) z0 (qb_X13_end K (q_X13_end K k) L x1 z)
    unfold qb_X13_end
    split
    · exact fb_X13_end_0 (fq_X13_end k) hz 
    · exact fb_X13_end_1 (fq_X13_end k) hz 
    · exact fo_none
theorem ff_X13_end {K : Nat} {x1 : Int32} {z : ow_MS}  : Fo id (pf [1, 11] []) z (qe_X13_end K x1 z) := fq_X13_end K 0 _ z fr_rf 
theorem fb_X13_free_0 {K : Nat} {z0 z : ow_MS}  {go : Nat → Int32 → ow_MS → Option (Int32 × ow_MS)} {x1 : Int32}  (hgo : ∀ (L : Nat) (x1 : Int32) (z : ow_MS), fr (pf [] []) z0 z → Fo Prod.snd (pf [] []) z0 (go L x1 z)) (hz : fr (pf [] []) z0 z)  : Fo Prod.snd (pf [] []) z0 (qm_X13_free_0 K go x1 z) := by
  unfold qm_X13_free_0
  exact (hgo 1 _ z hz)
theorem fb_X13_free_1 {K : Nat} {z0 z : ow_MS}  {go : Nat → Int32 → ow_MS → Option (Int32 × ow_MS)} {x1 : Int32}  (hgo : ∀ (L : Nat) (x1 : Int32) (z : ow_MS), fr (pf [] []) z0 z → Fo Prod.snd (pf [] []) z0 (go L x1 z)) (hz : fr (pf [] []) z0 z)  : Fo Prod.snd (pf [] []) z0 (qm_X13_free_1 K go x1 z) := by
  unfold qm_X13_free_1
  exact (fo_if (hgo 2 _ z hz) (fo_rdI (fun v1 => (fo_if (hgo 2 _ z hz) (hgo 1 _ z hz)))))
theorem fb_X13_free_2 {K : Nat} {z0 z : ow_MS}  {go : Nat → Int32 → ow_MS → Option (Int32 × ow_MS)} {x1 : Int32}  (hgo : ∀ (L : Nat) (x1 : Int32) (z : ow_MS), fr (pf [] []) z0 z → Fo Prod.snd (pf [] []) z0 (go L x1 z)) (hz : fr (pf [] []) z0 z)  : Fo Prod.snd (pf [] []) z0 (qm_X13_free_2 K go x1 z) := by
  unfold qm_X13_free_2
  exact (fo_if (fo_some hz) (fo_some hz))
theorem fq_X13_free {K : Nat} {z0 : ow_MS}   : ∀ (k L : Nat) (x1 : Int32) (z : ow_MS), fr (pf [] []) z0 z → Fo Prod.snd (pf [] []) z0 (q_X13_free K k L x1 z)
  | 0 => by
    intros
    exact fo_none
  | k + 1 => by
    intro L x1 z hz 
    show Fo Prod.snd (pf [] []) z0 (qb_X13_free K (q_X13_free K k) L x1 z)
    unfold qb_X13_free
    split
    · exact fb_X13_free_0 (fq_X13_free k) hz 
    · exact fb_X13_free_1 (fq_X13_free k) hz 
    · exact fb_X13_free_2 (fq_X13_free k) hz 
    · exact fo_none
theorem ff_X13_free {K : Nat} {z : ow_MS}  : Fo Prod.snd (pf [] []) z (qe_X13_free K z) := fq_X13_free K 0 _ z fr_rf 
theorem ff_X12_clear {K : Nat} {r0 : Nat} {z : ow_MS} (hr0 : 1000 ≤ r0) : Fo id (pf [] []) z (qe_X12_clear K r0 z) := by
  unfold qe_X12_clear qm_X12_clear_0
  exact (fo_wrF (Or.inr (Or.inr (by omega))) fr_rf (fun z1 h_z1 => (fo_wrF (Or.inr (Or.inr (by omega))) h_z1 (fun z2 h_z2 => (fo_wrI (Or.inr (Or.inr (by omega))) h_z2 (fun z3 h_z3 => (fo_some h_z3)))))))
theorem ff_X12_end {K : Nat} {r0 : Nat} {z : ow_MS} (hr0 : 1000 ≤ r0) : Fo id (pf [] []) z (qe_X12_end K r0 z) := by
  unfold qe_X12_end qm_X12_end_0
  exact (fo_rdF (fun v1 => (fo_wrF (Or.inr (Or.inr (by omega))) fr_rf (fun z2 h_z2 => (fo_rdF (fun v3 => (fo_rdF (fun v4 => (fo_wrI (Or.inr (Or.inr (by omega))) h_z2 (fun z5 h_z5 => (fo_some h_z5)))))))))))
theorem ff_X13_byteAt {K : Nat} {x1 : Int32} {z : ow_MS}  : Fo Prod.snd (pf [] []) z (qe_X13_byteAt K x1 z) := by
  unfold qe_X13_byteAt qm_X13_byteAt_0
  exact (fo_rdF (fun v1 => (fo_if (fo_some fr_rf) (fo_rdI (fun v2 => (fo_some fr_rf))))))
theorem ff_X12_add {K : Nat} {r0 : Nat} {x1 : Int32} {x2 : Int32} {z : ow_MS} (hr0 : 1000 ≤ r0) : Fo id (pf [] []) z (qe_X12_add K r0 x1 x2 z) := by
  unfold qe_X12_add qm_X12_add_0
  exact (fo_rdF (fun v1 => (fo_wrI (Or.inr (Or.inr (by omega))) fr_rf (fun z2 h_z2 => (fo_rdF (fun v3 => (fo_wrI (Or.inr (Or.inr (by omega))) h_z2 (fun z4 h_z4 => (fo_rdF (fun v5 => (fo_wrF (Or.inr (Or.inr (by omega))) h_z4 (fun z6 h_z6 => (fo_some h_z6)))))))))))))
theorem fb_X12_link_0 {K : Nat} {z0 z : ow_MS}  {go : Nat → Int32 → Int32 → Int32 → Nat → Int32 → Int32 → ow_MS → Option ow_MS} {x1 : Int32} {x2 : Int32} {x3 : Int32} {r0 : Nat} {t0 : Int32} {t1 : Int32}  (hgo : ∀ (L : Nat) (x1 : Int32) (x2 : Int32) (x3 : Int32) (r0 : Nat) (t0 : Int32) (t1 : Int32) (z : ow_MS), fr (pf [] []) z0 z → (L = 0 ∨ L = 1 ∨ L = 2 ∨ L = 3 ∨ L = 4 ∨ L = 5 ∨ L = 6 → 1000 ≤ r0) → Fo id (pf [] []) z0 (go L x1 x2 x3 r0 t0 t1 z)) (hz : fr (pf [] []) z0 z) (hr0 : 1000 ≤ r0) : Fo id (pf [] []) z0 (qm_X12_link_0 K go x1 x2 x3 r0 t0 t1 z) := by
  unfold qm_X12_link_0
  exact (hgo 1 _ _ _ _ _ _ z hz (fun _ => (by first | omega | decide)))
theorem fb_X12_link_1 {K : Nat} {z0 z : ow_MS}  {go : Nat → Int32 → Int32 → Int32 → Nat → Int32 → Int32 → ow_MS → Option ow_MS} {x1 : Int32} {x2 : Int32} {x3 : Int32} {r0 : Nat} {t0 : Int32} {t1 : Int32}  (hgo : ∀ (L : Nat) (x1 : Int32) (x2 : Int32) (x3 : Int32) (r0 : Nat) (t0 : Int32) (t1 : Int32) (z : ow_MS), fr (pf [] []) z0 z → (L = 0 ∨ L = 1 ∨ L = 2 ∨ L = 3 ∨ L = 4 ∨ L = 5 ∨ L = 6 → 1000 ≤ r0) → Fo id (pf [] []) z0 (go L x1 x2 x3 r0 t0 t1 z)) (hz : fr (pf [] []) z0 z) (hr0 : 1000 ≤ r0) : Fo id (pf [] []) z0 (qm_X12_link_1 K go x1 x2 x3 r0 t0 t1 z) := by
  unfold qm_X12_link_1
  exact (fo_if (hgo 2 _ _ _ _ _ _ z hz (fun _ => (by first | omega | decide))) (fo_wrI (Or.inr (Or.inr (by omega))) hz (fun z1 h_z1 => (hgo 1 _ _ _ _ _ _ z1 h_z1 (fun _ => (by first | omega | decide))))))
theorem fb_X12_link_2 {K : Nat} {z0 z : ow_MS}  {go : Nat → Int32 → Int32 → Int32 → Nat → Int32 → Int32 → ow_MS → Option ow_MS} {x1 : Int32} {x2 : Int32} {x3 : Int32} {r0 : Nat} {t0 : Int32} {t1 : Int32}  (hgo : ∀ (L : Nat) (x1 : Int32) (x2 : Int32) (x3 : Int32) (r0 : Nat) (t0 : Int32) (t1 : Int32) (z : ow_MS), fr (pf [] []) z0 z → (L = 0 ∨ L = 1 ∨ L = 2 ∨ L = 3 ∨ L = 4 ∨ L = 5 ∨ L = 6 → 1000 ≤ r0) → Fo id (pf [] []) z0 (go L x1 x2 x3 r0 t0 t1 z)) (hz : fr (pf [] []) z0 z) (hr0 : 1000 ≤ r0) : Fo id (pf [] []) z0 (qm_X12_link_2 K go x1 x2 x3 r0 t0 t1 z) := by
  unfold qm_X12_link_2
  exact (fo_rdF (fun v2 => (fo_if (fo_some hz) (fo_rdI (fun v3 => (hgo 3 _ _ _ _ _ _ z hz (fun _ => (by first | omega | decide))))))))
theorem fb_X12_link_3 {K : Nat} {z0 z : ow_MS}  {go : Nat → Int32 → Int32 → Int32 → Nat → Int32 → Int32 → ow_MS → Option ow_MS} {x1 : Int32} {x2 : Int32} {x3 : Int32} {r0 : Nat} {t0 : Int32} {t1 : Int32}  (hgo : ∀ (L : Nat) (x1 : Int32) (x2 : Int32) (x3 : Int32) (r0 : Nat) (t0 : Int32) (t1 : Int32) (z : ow_MS), fr (pf [] []) z0 z → (L = 0 ∨ L = 1 ∨ L = 2 ∨ L = 3 ∨ L = 4 ∨ L = 5 ∨ L = 6 → 1000 ≤ r0) → Fo id (pf [] []) z0 (go L x1 x2 x3 r0 t0 t1 z)) (hz : fr (pf [] []) z0 z) (hr0 : 1000 ≤ r0) : Fo id (pf [] []) z0 (qm_X12_link_3 K go x1 x2 x3 r0 t0 t1 z) := by
  unfold qm_X12_link_3
  exact (fo_rdI (fun v4 => (fo_if (hgo 2 _ _ _ _ _ _ z hz (fun _ => (by first | omega | decide))) (fo_wrI (Or.inr (Or.inr (by omega))) hz (fun z5 h_z5 => (fo_rdI (fun v6 => (fo_if (fo_rdI (fun v7 => (hgo 4 _ _ _ _ _ _ z5 h_z5 (fun _ => (by first | omega | decide))))) (hgo 4 _ _ _ _ _ _ z5 h_z5 (fun _ => (by first | omega | decide)))))))))))
theorem fb_X12_link_4 {K : Nat} {z0 z : ow_MS}  {go : Nat → Int32 → Int32 → Int32 → Nat → Int32 → Int32 → ow_MS → Option ow_MS} {x1 : Int32} {x2 : Int32} {x3 : Int32} {r0 : Nat} {t0 : Int32} {t1 : Int32}  (hgo : ∀ (L : Nat) (x1 : Int32) (x2 : Int32) (x3 : Int32) (r0 : Nat) (t0 : Int32) (t1 : Int32) (z : ow_MS), fr (pf [] []) z0 z → (L = 0 ∨ L = 1 ∨ L = 2 ∨ L = 3 ∨ L = 4 ∨ L = 5 ∨ L = 6 → 1000 ≤ r0) → Fo id (pf [] []) z0 (go L x1 x2 x3 r0 t0 t1 z)) (hz : fr (pf [] []) z0 z) (hr0 : 1000 ≤ r0) : Fo id (pf [] []) z0 (qm_X12_link_4 K go x1 x2 x3 r0 t0 t1 z) := by
  unfold qm_X12_link_4
  exact (fo_wrI (Or.inr (Or.inr (by omega))) hz (fun z8 h_z8 => (fo_rdI (fun v9 => (fo_if (fo_rdI (fun v10 => (hgo 5 _ _ _ _ _ _ z8 h_z8 (fun _ => (by first | omega | decide))))) (hgo 5 _ _ _ _ _ _ z8 h_z8 (fun _ => (by first | omega | decide))))))))
theorem fb_X12_link_5 {K : Nat} {z0 z : ow_MS}  {go : Nat → Int32 → Int32 → Int32 → Nat → Int32 → Int32 → ow_MS → Option ow_MS} {x1 : Int32} {x2 : Int32} {x3 : Int32} {r0 : Nat} {t0 : Int32} {t1 : Int32}  (hgo : ∀ (L : Nat) (x1 : Int32) (x2 : Int32) (x3 : Int32) (r0 : Nat) (t0 : Int32) (t1 : Int32) (z : ow_MS), fr (pf [] []) z0 z → (L = 0 ∨ L = 1 ∨ L = 2 ∨ L = 3 ∨ L = 4 ∨ L = 5 ∨ L = 6 → 1000 ≤ r0) → Fo id (pf [] []) z0 (go L x1 x2 x3 r0 t0 t1 z)) (hz : fr (pf [] []) z0 z) (hr0 : 1000 ≤ r0) : Fo id (pf [] []) z0 (qm_X12_link_5 K go x1 x2 x3 r0 t0 t1 z) := by
  unfold qm_X12_link_5
  exact (fo_wrI (Or.inr (Or.inr (by omega))) hz (fun z11 h_z11 => (fo_rdI (fun v12 => (fo_rdI (fun v13 => (fo_if (fo_wrI (Or.inr (Or.inr (by omega))) h_z11 (fun z18 h_z18 => (hgo 6 _ _ _ _ _ _ z18 h_z18 (fun _ => (by first | omega | decide))))) (fo_rdI (fun v14 => (fo_wrI (Or.inr (Or.inr (by omega))) h_z11 (fun z15 h_z15 => (fo_rdI (fun v16 => (fo_wrI (Or.inr (Or.inr (by omega))) h_z15 (fun z17 h_z17 => (hgo 6 _ _ _ _ _ _ z17 h_z17 (fun _ => (by first | omega | decide))))))))))))))))))
theorem fb_X12_link_6 {K : Nat} {z0 z : ow_MS}  {go : Nat → Int32 → Int32 → Int32 → Nat → Int32 → Int32 → ow_MS → Option ow_MS} {x1 : Int32} {x2 : Int32} {x3 : Int32} {r0 : Nat} {t0 : Int32} {t1 : Int32}  (hgo : ∀ (L : Nat) (x1 : Int32) (x2 : Int32) (x3 : Int32) (r0 : Nat) (t0 : Int32) (t1 : Int32) (z : ow_MS), fr (pf [] []) z0 z → (L = 0 ∨ L = 1 ∨ L = 2 ∨ L = 3 ∨ L = 4 ∨ L = 5 ∨ L = 6 → 1000 ≤ r0) → Fo id (pf [] []) z0 (go L x1 x2 x3 r0 t0 t1 z)) (hz : fr (pf [] []) z0 z) (hr0 : 1000 ≤ r0) : Fo id (pf [] []) z0 (qm_X12_link_6 K go x1 x2 x3 r0 t0 t1 z) := by
  unfold qm_X12_link_6
  exact (hgo 3 _ _ _ _ _ _ z hz (fun _ => (by first | omega | decide)))
theorem fq_X12_link {K : Nat} {z0 : ow_MS}   : ∀ (k L : Nat) (x1 : Int32) (x2 : Int32) (x3 : Int32) (r0 : Nat) (t0 : Int32) (t1 : Int32) (z : ow_MS), fr (pf [] []) z0 z → (L = 0 ∨ L = 1 ∨ L = 2 ∨ L = 3 ∨ L = 4 ∨ L = 5 ∨ L = 6 → 1000 ≤ r0) → Fo id (pf [] []) z0 (q_X12_link K k L x1 x2 x3 r0 t0 t1 z)
  | 0 => by
    intros
    exact fo_none
  | k + 1 => by
    intro L x1 x2 x3 r0 t0 t1 z hz h9_r0
    show Fo id (pf [] []) z0 (qb_X12_link K (q_X12_link K k) L x1 x2 x3 r0 t0 t1 z)
    unfold qb_X12_link
    split
    · exact fb_X12_link_0 (fq_X12_link k) hz (h9_r0 (by decide))
    · exact fb_X12_link_1 (fq_X12_link k) hz (h9_r0 (by decide))
    · exact fb_X12_link_2 (fq_X12_link k) hz (h9_r0 (by decide))
    · exact fb_X12_link_3 (fq_X12_link k) hz (h9_r0 (by decide))
    · exact fb_X12_link_4 (fq_X12_link k) hz (h9_r0 (by decide))
    · exact fb_X12_link_5 (fq_X12_link k) hz (h9_r0 (by decide))
    · exact fb_X12_link_6 (fq_X12_link k) hz (h9_r0 (by decide))
    · exact fo_none
theorem ff_X12_link {K : Nat} {r0 : Nat} {z : ow_MS} (hr0 : 1000 ≤ r0) : Fo id (pf [] []) z (qe_X12_link K r0 z) := fq_X12_link K 0 _ _ _ _ _ _ z fr_rf (fun _ => (by first | omega | decide))
theorem fb_X12_split_0 {K : Nat} {z0 z : ow_MS}  {go : Nat → Int32 → Int32 → Int32 → Nat → ow_MS → Option ow_MS} {x1 : Int32} {x2 : Int32} {x3 : Int32} {r0 : Nat}  (hgo : ∀ (L : Nat) (x1 : Int32) (x2 : Int32) (x3 : Int32) (r0 : Nat) (z : ow_MS), fr (pf [] []) z0 z → (L = 0 ∨ L = 1 ∨ L = 2 ∨ L = 3 ∨ L = 4 ∨ L = 5 ∨ L = 6 → 1000 ≤ r0) → Fo id (pf [] []) z0 (go L x1 x2 x3 r0 z)) (hz : fr (pf [] []) z0 z) (hr0 : 1000 ≤ r0) : Fo id (pf [] []) z0 (qm_X12_split_0 K go x1 x2 x3 r0 z) := by
  unfold qm_X12_split_0
  exact (hgo 1 _ _ _ _ z hz (fun _ => (by first | omega | decide)))
theorem fb_X12_split_1 {K : Nat} {z0 z : ow_MS}  {go : Nat → Int32 → Int32 → Int32 → Nat → ow_MS → Option ow_MS} {x1 : Int32} {x2 : Int32} {x3 : Int32} {r0 : Nat}  (hgo : ∀ (L : Nat) (x1 : Int32) (x2 : Int32) (x3 : Int32) (r0 : Nat) (z : ow_MS), fr (pf [] []) z0 z → (L = 0 ∨ L = 1 ∨ L = 2 ∨ L = 3 ∨ L = 4 ∨ L = 5 ∨ L = 6 → 1000 ≤ r0) → Fo id (pf [] []) z0 (go L x1 x2 x3 r0 z)) (hz : fr (pf [] []) z0 z) (hr0 : 1000 ≤ r0) : Fo id (pf [] []) z0 (qm_X12_split_1 K go x1 x2 x3 r0 z) := by
  unfold qm_X12_split_1
  exact (fo_rdF (fun v1 => (fo_if (fo_wrF (Or.inr (Or.inr (by omega))) hz (fun z2 h_z2 => (hgo 2 _ _ _ _ z2 h_z2 (fun _ => (by first | omega | decide))))) (fo_wrI (Or.inr (Or.inr (by omega))) hz (fun z3 h_z3 => (hgo 1 _ _ _ _ z3 h_z3 (fun _ => (by first | omega | decide))))))))
theorem fb_X12_split_2 {K : Nat} {z0 z : ow_MS}  {go : Nat → Int32 → Int32 → Int32 → Nat → ow_MS → Option ow_MS} {x1 : Int32} {x2 : Int32} {x3 : Int32} {r0 : Nat}  (hgo : ∀ (L : Nat) (x1 : Int32) (x2 : Int32) (x3 : Int32) (r0 : Nat) (z : ow_MS), fr (pf [] []) z0 z → (L = 0 ∨ L = 1 ∨ L = 2 ∨ L = 3 ∨ L = 4 ∨ L = 5 ∨ L = 6 → 1000 ≤ r0) → Fo id (pf [] []) z0 (go L x1 x2 x3 r0 z)) (hz : fr (pf [] []) z0 z) (hr0 : 1000 ≤ r0) : Fo id (pf [] []) z0 (qm_X12_split_2 K go x1 x2 x3 r0 z) := by
  unfold qm_X12_split_2
  exact (fo_rdF (fun v4 => (fo_if (fo_some hz) (fo_rdI (fun v5 => (fo_if (fo_rdF (fun v6 => (fo_wrI (Or.inr (Or.inr (by omega))) hz (fun z7 h_z7 => (hgo 3 _ _ _ _ z7 h_z7 (fun _ => (by first | omega | decide))))))) (hgo 6 _ _ _ _ z hz (fun _ => (by first | omega | decide)))))))))
theorem fb_X12_split_3 {K : Nat} {z0 z : ow_MS}  {go : Nat → Int32 → Int32 → Int32 → Nat → ow_MS → Option ow_MS} {x1 : Int32} {x2 : Int32} {x3 : Int32} {r0 : Nat}  (hgo : ∀ (L : Nat) (x1 : Int32) (x2 : Int32) (x3 : Int32) (r0 : Nat) (z : ow_MS), fr (pf [] []) z0 z → (L = 0 ∨ L = 1 ∨ L = 2 ∨ L = 3 ∨ L = 4 ∨ L = 5 ∨ L = 6 → 1000 ≤ r0) → Fo id (pf [] []) z0 (go L x1 x2 x3 r0 z)) (hz : fr (pf [] []) z0 z) (hr0 : 1000 ≤ r0) : Fo id (pf [] []) z0 (qm_X12_split_3 K go x1 x2 x3 r0 z) := by
  unfold qm_X12_split_3
  exact (fo_if (fo_rdF (fun v8 => (fo_wrF (Or.inr (Or.inr (by omega))) hz (fun z9 h_z9 => (hgo 6 _ _ _ _ z9 h_z9 (fun _ => (by first | omega | decide))))))) (hgo 4 _ _ _ _ z hz (fun _ => (by first | omega | decide))))
theorem fb_X12_split_4 {K : Nat} {z0 z : ow_MS}  {go : Nat → Int32 → Int32 → Int32 → Nat → ow_MS → Option ow_MS} {x1 : Int32} {x2 : Int32} {x3 : Int32} {r0 : Nat}  (hgo : ∀ (L : Nat) (x1 : Int32) (x2 : Int32) (x3 : Int32) (r0 : Nat) (z : ow_MS), fr (pf [] []) z0 z → (L = 0 ∨ L = 1 ∨ L = 2 ∨ L = 3 ∨ L = 4 ∨ L = 5 ∨ L = 6 → 1000 ≤ r0) → Fo id (pf [] []) z0 (go L x1 x2 x3 r0 z)) (hz : fr (pf [] []) z0 z) (hr0 : 1000 ≤ r0) : Fo id (pf [] []) z0 (qm_X12_split_4 K go x1 x2 x3 r0 z) := by
  unfold qm_X12_split_4
  exact (fo_rdF (fun v10 => (fo_if (hgo 3 _ _ _ _ z hz (fun _ => (by first | omega | decide))) (fo_rdI (fun v11 => (fo_rdI (fun v12 => (fo_rdF (fun v13 => (fo_if (fo_rdI (fun v14 => (fo_rdI (fun v15 => (fo_rdI (fun v16 => (fo_if (fo_rdI (fun v17 => (fo_rdI (fun v18 => (fo_rdF (fun v19 => (fo_wrI (Or.inr (Or.inr (by omega))) hz (fun z20 h_z20 => (hgo 5 _ _ _ _ z20 h_z20 (fun _ => (by first | omega | decide))))))))))) (hgo 5 _ _ _ _ z hz (fun _ => (by first | omega | decide)))))))))) (hgo 5 _ _ _ _ z hz (fun _ => (by first | omega | decide)))))))))))))
theorem fb_X12_split_5 {K : Nat} {z0 z : ow_MS}  {go : Nat → Int32 → Int32 → Int32 → Nat → ow_MS → Option ow_MS} {x1 : Int32} {x2 : Int32} {x3 : Int32} {r0 : Nat}  (hgo : ∀ (L : Nat) (x1 : Int32) (x2 : Int32) (x3 : Int32) (r0 : Nat) (z : ow_MS), fr (pf [] []) z0 z → (L = 0 ∨ L = 1 ∨ L = 2 ∨ L = 3 ∨ L = 4 ∨ L = 5 ∨ L = 6 → 1000 ≤ r0) → Fo id (pf [] []) z0 (go L x1 x2 x3 r0 z)) (hz : fr (pf [] []) z0 z) (hr0 : 1000 ≤ r0) : Fo id (pf [] []) z0 (qm_X12_split_5 K go x1 x2 x3 r0 z) := by
  unfold qm_X12_split_5
  exact (hgo 4 _ _ _ _ z hz (fun _ => (by first | omega | decide)))
theorem fb_X12_split_6 {K : Nat} {z0 z : ow_MS}  {go : Nat → Int32 → Int32 → Int32 → Nat → ow_MS → Option ow_MS} {x1 : Int32} {x2 : Int32} {x3 : Int32} {r0 : Nat}  (hgo : ∀ (L : Nat) (x1 : Int32) (x2 : Int32) (x3 : Int32) (r0 : Nat) (z : ow_MS), fr (pf [] []) z0 z → (L = 0 ∨ L = 1 ∨ L = 2 ∨ L = 3 ∨ L = 4 ∨ L = 5 ∨ L = 6 → 1000 ≤ r0) → Fo id (pf [] []) z0 (go L x1 x2 x3 r0 z)) (hz : fr (pf [] []) z0 z) (hr0 : 1000 ≤ r0) : Fo id (pf [] []) z0 (qm_X12_split_6 K go x1 x2 x3 r0 z) := by
  unfold qm_X12_split_6
  exact (hgo 2 _ _ _ _ z hz (fun _ => (by first | omega | decide)))
theorem fq_X12_split {K : Nat} {z0 : ow_MS}   : ∀ (k L : Nat) (x1 : Int32) (x2 : Int32) (x3 : Int32) (r0 : Nat) (z : ow_MS), fr (pf [] []) z0 z → (L = 0 ∨ L = 1 ∨ L = 2 ∨ L = 3 ∨ L = 4 ∨ L = 5 ∨ L = 6 → 1000 ≤ r0) → Fo id (pf [] []) z0 (q_X12_split K k L x1 x2 x3 r0 z)
  | 0 => by
    intros
    exact fo_none
  | k + 1 => by
    intro L x1 x2 x3 r0 z hz h9_r0
    show Fo id (pf [] []) z0 (qb_X12_split K (q_X12_split K k) L x1 x2 x3 r0 z)
    unfold qb_X12_split
    split
    · exact fb_X12_split_0 (fq_X12_split k) hz (h9_r0 (by decide))
    · exact fb_X12_split_1 (fq_X12_split k) hz (h9_r0 (by decide))
    · exact fb_X12_split_2 (fq_X12_split k) hz (h9_r0 (by decide))
    · exact fb_X12_split_3 (fq_X12_split k) hz (h9_r0 (by decide))
    · exact fb_X12_split_4 (fq_X12_split k) hz (h9_r0 (by decide))
    · exact fb_X12_split_5 (fq_X12_split k) hz (h9_r0 (by decide))
    · exact fb_X12_split_6 (fq_X12_split k) hz (h9_r0 (by decide))
    · exact fo_none
theorem ff_X12_split {K : Nat} {r0 : Nat} {z : ow_MS} (hr0 : 1000 ≤ r0) : Fo id (pf [] []) z (qe_X12_split K r0 z) := fq_X12_split K 0 _ _ _ _ z fr_rf (fun _ => (by first | omega | decide))
theorem fb_X12_walk_0 {K : Nat} {z0 z : ow_MS}  {go : Nat → Int32 → Int32 → Int32 → Int32 → Int32 → Int32 → Nat → Int32 → ow_MS → Option ow_MS} {x1 : Int32} {x2 : Int32} {x3 : Int32} {x4 : Int32} {x5 : Int32} {x6 : Int32} {r0 : Nat} {t0 : Int32}  (hgo : ∀ (L : Nat) (x1 : Int32) (x2 : Int32) (x3 : Int32) (x4 : Int32) (x5 : Int32) (x6 : Int32) (r0 : Nat) (t0 : Int32) (z : ow_MS), fr (pf [] []) z0 z → (L = 0 ∨ L = 1 ∨ L = 2 ∨ L = 3 ∨ L = 4 ∨ L = 5 ∨ L = 6 ∨ L = 7 ∨ L = 8 ∨ L = 9 ∨ L = 10 ∨ L = 11 → 1000 ≤ r0) → Fo id (pf [] []) z0 (go L x1 x2 x3 x4 x5 x6 r0 t0 z)) (hz : fr (pf [] []) z0 z) (hr0 : 1000 ≤ r0) : Fo id (pf [] []) z0 (qm_X12_walk_0 K go x1 x2 x3 x4 x5 x6 r0 t0 z) := by
  unfold qm_X12_walk_0
  exact (hgo 1 _ _ _ _ _ _ _ _ z hz (fun _ => (by first | omega | decide)))
theorem fb_X12_walk_1 {K : Nat} {z0 z : ow_MS}  {go : Nat → Int32 → Int32 → Int32 → Int32 → Int32 → Int32 → Nat → Int32 → ow_MS → Option ow_MS} {x1 : Int32} {x2 : Int32} {x3 : Int32} {x4 : Int32} {x5 : Int32} {x6 : Int32} {r0 : Nat} {t0 : Int32}  (hgo : ∀ (L : Nat) (x1 : Int32) (x2 : Int32) (x3 : Int32) (x4 : Int32) (x5 : Int32) (x6 : Int32) (r0 : Nat) (t0 : Int32) (z : ow_MS), fr (pf [] []) z0 z → (L = 0 ∨ L = 1 ∨ L = 2 ∨ L = 3 ∨ L = 4 ∨ L = 5 ∨ L = 6 ∨ L = 7 ∨ L = 8 ∨ L = 9 ∨ L = 10 ∨ L = 11 → 1000 ≤ r0) → Fo id (pf [] []) z0 (go L x1 x2 x3 x4 x5 x6 r0 t0 z)) (hz : fr (pf [] []) z0 z) (hr0 : 1000 ≤ r0) : Fo id (pf [] []) z0 (qm_X12_walk_1 K go x1 x2 x3 x4 x5 x6 r0 t0 z) := by
  unfold qm_X12_walk_1
  exact (fo_rdF (fun v1 => (fo_if (fo_wrF (Or.inr (Or.inr (by omega))) hz (fun z2 h_z2 => (hgo 2 _ _ _ _ _ _ _ _ z2 h_z2 (fun _ => (by first | omega | decide))))) (fo_wrI (Or.inr (Or.inr (by omega))) hz (fun z3 h_z3 => (hgo 1 _ _ _ _ _ _ _ _ z3 h_z3 (fun _ => (by first | omega | decide))))))))
theorem fb_X12_walk_2 {K : Nat} {z0 z : ow_MS}  {go : Nat → Int32 → Int32 → Int32 → Int32 → Int32 → Int32 → Nat → Int32 → ow_MS → Option ow_MS} {x1 : Int32} {x2 : Int32} {x3 : Int32} {x4 : Int32} {x5 : Int32} {x6 : Int32} {r0 : Nat} {t0 : Int32}  (hgo : ∀ (L : Nat) (x1 : Int32) (x2 : Int32) (x3 : Int32) (x4 : Int32) (x5 : Int32) (x6 : Int32) (r0 : Nat) (t0 : Int32) (z : ow_MS), fr (pf [] []) z0 z → (L = 0 ∨ L = 1 ∨ L = 2 ∨ L = 3 ∨ L = 4 ∨ L = 5 ∨ L = 6 ∨ L = 7 ∨ L = 8 ∨ L = 9 ∨ L = 10 ∨ L = 11 → 1000 ≤ r0) → Fo id (pf [] []) z0 (go L x1 x2 x3 x4 x5 x6 r0 t0 z)) (hz : fr (pf [] []) z0 z) (hr0 : 1000 ≤ r0) : Fo id (pf [] []) z0 (qm_X12_walk_2 K go x1 x2 x3 x4 x5 x6 r0 t0 z) := by
  unfold qm_X12_walk_2
  exact (fo_rdF (fun v4 => (fo_if (fo_some hz) (fo_rdI (fun v5 => (fo_if (fo_rdF (fun v6 => (fo_wrI (Or.inr (Or.inr (by omega))) hz (fun z7 h_z7 => (hgo 3 _ _ _ _ _ _ _ _ z7 h_z7 (fun _ => (by first | omega | decide))))))) (hgo 11 _ _ _ _ _ _ _ _ z hz (fun _ => (by first | omega | decide)))))))))
theorem fb_X12_walk_3 {K : Nat} {z0 z : ow_MS}  {go : Nat → Int32 → Int32 → Int32 → Int32 → Int32 → Int32 → Nat → Int32 → ow_MS → Option ow_MS} {x1 : Int32} {x2 : Int32} {x3 : Int32} {x4 : Int32} {x5 : Int32} {x6 : Int32} {r0 : Nat} {t0 : Int32}  (hgo : ∀ (L : Nat) (x1 : Int32) (x2 : Int32) (x3 : Int32) (x4 : Int32) (x5 : Int32) (x6 : Int32) (r0 : Nat) (t0 : Int32) (z : ow_MS), fr (pf [] []) z0 z → (L = 0 ∨ L = 1 ∨ L = 2 ∨ L = 3 ∨ L = 4 ∨ L = 5 ∨ L = 6 ∨ L = 7 ∨ L = 8 ∨ L = 9 ∨ L = 10 ∨ L = 11 → 1000 ≤ r0) → Fo id (pf [] []) z0 (go L x1 x2 x3 x4 x5 x6 r0 t0 z)) (hz : fr (pf [] []) z0 z) (hr0 : 1000 ≤ r0) : Fo id (pf [] []) z0 (qm_X12_walk_3 K go x1 x2 x3 x4 x5 x6 r0 t0 z) := by
  unfold qm_X12_walk_3
  exact (fo_rdI (fun v8 => (fo_if (fo_rdF (fun v11 => (fo_wrI (Or.inr (Or.inr (by omega))) hz (fun z12 h_z12 => (fo_rdF (fun v13 => (fo_rdI (fun v14 => (fo_wrI (Or.inr (Or.inr (by omega))) h_z12 (fun z15 h_z15 => (fo_if (fo_rdI (fun v16 => (hgo 4 _ _ _ _ _ _ _ _ z15 h_z15 (fun _ => (by first | omega | decide))))) (hgo 4 _ _ _ _ _ _ _ _ z15 h_z15 (fun _ => (by first | omega | decide)))))))))))))) (fo_rdF (fun v9 => (fo_wrF (Or.inr (Or.inr (by omega))) hz (fun z10 h_z10 => (hgo 11 _ _ _ _ _ _ _ _ z10 h_z10 (fun _ => (by first | omega | decide))))))))))
theorem fb_X12_walk_4 {K : Nat} {z0 z : ow_MS}  {go : Nat → Int32 → Int32 → Int32 → Int32 → Int32 → Int32 → Nat → Int32 → ow_MS → Option ow_MS} {x1 : Int32} {x2 : Int32} {x3 : Int32} {x4 : Int32} {x5 : Int32} {x6 : Int32} {r0 : Nat} {t0 : Int32}  (hgo : ∀ (L : Nat) (x1 : Int32) (x2 : Int32) (x3 : Int32) (x4 : Int32) (x5 : Int32) (x6 : Int32) (r0 : Nat) (t0 : Int32) (z : ow_MS), fr (pf [] []) z0 z → (L = 0 ∨ L = 1 ∨ L = 2 ∨ L = 3 ∨ L = 4 ∨ L = 5 ∨ L = 6 ∨ L = 7 ∨ L = 8 ∨ L = 9 ∨ L = 10 ∨ L = 11 → 1000 ≤ r0) → Fo id (pf [] []) z0 (go L x1 x2 x3 x4 x5 x6 r0 t0 z)) (hz : fr (pf [] []) z0 z) (hr0 : 1000 ≤ r0) : Fo id (pf [] []) z0 (qm_X12_walk_4 K go x1 x2 x3 x4 x5 x6 r0 t0 z) := by
  unfold qm_X12_walk_4
  exact (fo_rdI (fun v17 => (fo_if (fo_rdI (fun v18 => (fo_rdI (fun v19 => (fo_if (hgo 6 _ _ _ _ _ _ _ _ z hz (fun _ => (by first | omega | decide))) (hgo 5 _ _ _ _ _ _ _ _ z hz (fun _ => (by first | omega | decide)))))))) (hgo 5 _ _ _ _ _ _ _ _ z hz (fun _ => (by first | omega | decide))))))
theorem fb_X12_walk_5 {K : Nat} {z0 z : ow_MS}  {go : Nat → Int32 → Int32 → Int32 → Int32 → Int32 → Int32 → Nat → Int32 → ow_MS → Option ow_MS} {x1 : Int32} {x2 : Int32} {x3 : Int32} {x4 : Int32} {x5 : Int32} {x6 : Int32} {r0 : Nat} {t0 : Int32}  (hgo : ∀ (L : Nat) (x1 : Int32) (x2 : Int32) (x3 : Int32) (x4 : Int32) (x5 : Int32) (x6 : Int32) (r0 : Nat) (t0 : Int32) (z : ow_MS), fr (pf [] []) z0 z → (L = 0 ∨ L = 1 ∨ L = 2 ∨ L = 3 ∨ L = 4 ∨ L = 5 ∨ L = 6 ∨ L = 7 ∨ L = 8 ∨ L = 9 ∨ L = 10 ∨ L = 11 → 1000 ≤ r0) → Fo id (pf [] []) z0 (go L x1 x2 x3 x4 x5 x6 r0 t0 z)) (hz : fr (pf [] []) z0 z) (hr0 : 1000 ≤ r0) : Fo id (pf [] []) z0 (qm_X12_walk_5 K go x1 x2 x3 x4 x5 x6 r0 t0 z) := by
  unfold qm_X12_walk_5
  exact (fo_rdI (fun v20 => (fo_if (fo_rdI (fun v21 => (fo_rdI (fun v22 => (fo_if (hgo 7 _ _ _ _ _ _ _ _ z hz (fun _ => (by first | omega | decide))) (hgo 6 _ _ _ _ _ _ _ _ z hz (fun _ => (by first | omega | decide)))))))) (hgo 7 _ _ _ _ _ _ _ _ z hz (fun _ => (by first | omega | decide))))))
theorem fb_X12_walk_6 {K : Nat} {z0 z : ow_MS}  {go : Nat → Int32 → Int32 → Int32 → Int32 → Int32 → Int32 → Nat → Int32 → ow_MS → Option ow_MS} {x1 : Int32} {x2 : Int32} {x3 : Int32} {x4 : Int32} {x5 : Int32} {x6 : Int32} {r0 : Nat} {t0 : Int32}  (hgo : ∀ (L : Nat) (x1 : Int32) (x2 : Int32) (x3 : Int32) (x4 : Int32) (x5 : Int32) (x6 : Int32) (r0 : Nat) (t0 : Int32) (z : ow_MS), fr (pf [] []) z0 z → (L = 0 ∨ L = 1 ∨ L = 2 ∨ L = 3 ∨ L = 4 ∨ L = 5 ∨ L = 6 ∨ L = 7 ∨ L = 8 ∨ L = 9 ∨ L = 10 ∨ L = 11 → 1000 ≤ r0) → Fo id (pf [] []) z0 (go L x1 x2 x3 x4 x5 x6 r0 t0 z)) (hz : fr (pf [] []) z0 z) (hr0 : 1000 ≤ r0) : Fo id (pf [] []) z0 (qm_X12_walk_6 K go x1 x2 x3 x4 x5 x6 r0 t0 z) := by
  unfold qm_X12_walk_6
  exact (hgo 8 _ _ _ _ _ _ _ _ z hz (fun _ => (by first | omega | decide)))
theorem fb_X12_walk_7 {K : Nat} {z0 z : ow_MS}  {go : Nat → Int32 → Int32 → Int32 → Int32 → Int32 → Int32 → Nat → Int32 → ow_MS → Option ow_MS} {x1 : Int32} {x2 : Int32} {x3 : Int32} {x4 : Int32} {x5 : Int32} {x6 : Int32} {r0 : Nat} {t0 : Int32}  (hgo : ∀ (L : Nat) (x1 : Int32) (x2 : Int32) (x3 : Int32) (x4 : Int32) (x5 : Int32) (x6 : Int32) (r0 : Nat) (t0 : Int32) (z : ow_MS), fr (pf [] []) z0 z → (L = 0 ∨ L = 1 ∨ L = 2 ∨ L = 3 ∨ L = 4 ∨ L = 5 ∨ L = 6 ∨ L = 7 ∨ L = 8 ∨ L = 9 ∨ L = 10 ∨ L = 11 → 1000 ≤ r0) → Fo id (pf [] []) z0 (go L x1 x2 x3 x4 x5 x6 r0 t0 z)) (hz : fr (pf [] []) z0 z) (hr0 : 1000 ≤ r0) : Fo id (pf [] []) z0 (qm_X12_walk_7 K go x1 x2 x3 x4 x5 x6 r0 t0 z) := by
  unfold qm_X12_walk_7
  exact (hgo 8 _ _ _ _ _ _ _ _ z hz (fun _ => (by first | omega | decide)))
theorem fb_X12_walk_8 {K : Nat} {z0 z : ow_MS}  {go : Nat → Int32 → Int32 → Int32 → Int32 → Int32 → Int32 → Nat → Int32 → ow_MS → Option ow_MS} {x1 : Int32} {x2 : Int32} {x3 : Int32} {x4 : Int32} {x5 : Int32} {x6 : Int32} {r0 : Nat} {t0 : Int32}  (hgo : ∀ (L : Nat) (x1 : Int32) (x2 : Int32) (x3 : Int32) (x4 : Int32) (x5 : Int32) (x6 : Int32) (r0 : Nat) (t0 : Int32) (z : ow_MS), fr (pf [] []) z0 z → (L = 0 ∨ L = 1 ∨ L = 2 ∨ L = 3 ∨ L = 4 ∨ L = 5 ∨ L = 6 ∨ L = 7 ∨ L = 8 ∨ L = 9 ∨ L = 10 ∨ L = 11 → 1000 ≤ r0) → Fo id (pf [] []) z0 (go L x1 x2 x3 x4 x5 x6 r0 t0 z)) (hz : fr (pf [] []) z0 z) (hr0 : 1000 ≤ r0) : Fo id (pf [] []) z0 (qm_X12_walk_8 K go x1 x2 x3 x4 x5 x6 r0 t0 z) := by
  unfold qm_X12_walk_8
  exact (fo_if (hgo 9 _ _ _ _ _ _ _ _ z hz (fun _ => (by first | omega | decide))) (hgo 9 _ _ _ _ _ _ _ _ z hz (fun _ => (by first | omega | decide))))
theorem fb_X12_walk_9 {K : Nat} {z0 z : ow_MS}  {go : Nat → Int32 → Int32 → Int32 → Int32 → Int32 → Int32 → Nat → Int32 → ow_MS → Option ow_MS} {x1 : Int32} {x2 : Int32} {x3 : Int32} {x4 : Int32} {x5 : Int32} {x6 : Int32} {r0 : Nat} {t0 : Int32}  (hgo : ∀ (L : Nat) (x1 : Int32) (x2 : Int32) (x3 : Int32) (x4 : Int32) (x5 : Int32) (x6 : Int32) (r0 : Nat) (t0 : Int32) (z : ow_MS), fr (pf [] []) z0 z → (L = 0 ∨ L = 1 ∨ L = 2 ∨ L = 3 ∨ L = 4 ∨ L = 5 ∨ L = 6 ∨ L = 7 ∨ L = 8 ∨ L = 9 ∨ L = 10 ∨ L = 11 → 1000 ≤ r0) → Fo id (pf [] []) z0 (go L x1 x2 x3 x4 x5 x6 r0 t0 z)) (hz : fr (pf [] []) z0 z) (hr0 : 1000 ≤ r0) : Fo id (pf [] []) z0 (qm_X12_walk_9 K go x1 x2 x3 x4 x5 x6 r0 t0 z) := by
  unfold qm_X12_walk_9
  exact (fo_rdI (fun v23 => (fo_if (hgo 10 _ _ _ _ _ _ _ _ z hz (fun _ => (by first | omega | decide))) (fo_rdI (fun v24 => (hgo 10 _ _ _ _ _ _ _ _ z hz (fun _ => (by first | omega | decide))))))))
theorem fb_X12_walk_10 {K : Nat} {z0 z : ow_MS}  {go : Nat → Int32 → Int32 → Int32 → Int32 → Int32 → Int32 → Nat → Int32 → ow_MS → Option ow_MS} {x1 : Int32} {x2 : Int32} {x3 : Int32} {x4 : Int32} {x5 : Int32} {x6 : Int32} {r0 : Nat} {t0 : Int32}  (hgo : ∀ (L : Nat) (x1 : Int32) (x2 : Int32) (x3 : Int32) (x4 : Int32) (x5 : Int32) (x6 : Int32) (r0 : Nat) (t0 : Int32) (z : ow_MS), fr (pf [] []) z0 z → (L = 0 ∨ L = 1 ∨ L = 2 ∨ L = 3 ∨ L = 4 ∨ L = 5 ∨ L = 6 ∨ L = 7 ∨ L = 8 ∨ L = 9 ∨ L = 10 ∨ L = 11 → 1000 ≤ r0) → Fo id (pf [] []) z0 (go L x1 x2 x3 x4 x5 x6 r0 t0 z)) (hz : fr (pf [] []) z0 z) (hr0 : 1000 ≤ r0) : Fo id (pf [] []) z0 (qm_X12_walk_10 K go x1 x2 x3 x4 x5 x6 r0 t0 z) := by
  unfold qm_X12_walk_10
  exact (hgo 3 _ _ _ _ _ _ _ _ z hz (fun _ => (by first | omega | decide)))
theorem fb_X12_walk_11 {K : Nat} {z0 z : ow_MS}  {go : Nat → Int32 → Int32 → Int32 → Int32 → Int32 → Int32 → Nat → Int32 → ow_MS → Option ow_MS} {x1 : Int32} {x2 : Int32} {x3 : Int32} {x4 : Int32} {x5 : Int32} {x6 : Int32} {r0 : Nat} {t0 : Int32}  (hgo : ∀ (L : Nat) (x1 : Int32) (x2 : Int32) (x3 : Int32) (x4 : Int32) (x5 : Int32) (x6 : Int32) (r0 : Nat) (t0 : Int32) (z : ow_MS), fr (pf [] []) z0 z → (L = 0 ∨ L = 1 ∨ L = 2 ∨ L = 3 ∨ L = 4 ∨ L = 5 ∨ L = 6 ∨ L = 7 ∨ L = 8 ∨ L = 9 ∨ L = 10 ∨ L = 11 → 1000 ≤ r0) → Fo id (pf [] []) z0 (go L x1 x2 x3 x4 x5 x6 r0 t0 z)) (hz : fr (pf [] []) z0 z) (hr0 : 1000 ≤ r0) : Fo id (pf [] []) z0 (qm_X12_walk_11 K go x1 x2 x3 x4 x5 x6 r0 t0 z) := by
  unfold qm_X12_walk_11
  exact (hgo 2 _ _ _ _ _ _ _ _ z hz (fun _ => (by first | omega | decide)))
theorem fq_X12_walk {K : Nat} {z0 : ow_MS}   : ∀ (k L : Nat) (x1 : Int32) (x2 : Int32) (x3 : Int32) (x4 : Int32) (x5 : Int32) (x6 : Int32) (r0 : Nat) (t0 : Int32) (z : ow_MS), fr (pf [] []) z0 z → (L = 0 ∨ L = 1 ∨ L = 2 ∨ L = 3 ∨ L = 4 ∨ L = 5 ∨ L = 6 ∨ L = 7 ∨ L = 8 ∨ L = 9 ∨ L = 10 ∨ L = 11 → 1000 ≤ r0) → Fo id (pf [] []) z0 (q_X12_walk K k L x1 x2 x3 x4 x5 x6 r0 t0 z)
  | 0 => by
    intros
    exact fo_none
  | k + 1 => by
    intro L x1 x2 x3 x4 x5 x6 r0 t0 z hz h9_r0
    show Fo id (pf [] []) z0 (qb_X12_walk K (q_X12_walk K k) L x1 x2 x3 x4 x5 x6 r0 t0 z)
    unfold qb_X12_walk
    split
    · exact fb_X12_walk_0 (fq_X12_walk k) hz (h9_r0 (by decide))
    · exact fb_X12_walk_1 (fq_X12_walk k) hz (h9_r0 (by decide))
    · exact fb_X12_walk_2 (fq_X12_walk k) hz (h9_r0 (by decide))
    · exact fb_X12_walk_3 (fq_X12_walk k) hz (h9_r0 (by decide))
    · exact fb_X12_walk_4 (fq_X12_walk k) hz (h9_r0 (by decide))
    · exact fb_X12_walk_5 (fq_X12_walk k) hz (h9_r0 (by decide))
    · exact fb_X12_walk_6 (fq_X12_walk k) hz (h9_r0 (by decide))
    · exact fb_X12_walk_7 (fq_X12_walk k) hz (h9_r0 (by decide))
    · exact fb_X12_walk_8 (fq_X12_walk k) hz (h9_r0 (by decide))
    · exact fb_X12_walk_9 (fq_X12_walk k) hz (h9_r0 (by decide))
    · exact fb_X12_walk_10 (fq_X12_walk k) hz (h9_r0 (by decide))
    · exact fb_X12_walk_11 (fq_X12_walk k) hz (h9_r0 (by decide))
    · exact fo_none
theorem ff_X12_walk {K : Nat} {r0 : Nat} {z : ow_MS} (hr0 : 1000 ≤ r0) : Fo id (pf [] []) z (qe_X12_walk K r0 z) := fq_X12_walk K 0 _ _ _ _ _ _ _ _ z fr_rf (fun _ => (by first | omega | decide))
theorem ff_X12_isCircle {K : Nat} {r0 : Nat} {x1 : Int32} {z : ow_MS} (hr0 : 1000 ≤ r0) : Fo Prod.snd (pf [] []) z (qe_X12_isCircle K r0 x1 z) := by
  unfold qe_X12_isCircle qm_X12_isCircle_0
  exact (fo_rdI (fun v1 => (fo_rdI (fun v2 => (fo_if (fo_okZ (fo_some fr_rf)) (fo_okZ (fo_some fr_rf)))))))
theorem fb_X12_isPlane_0 {K : Nat} {z0 z : ow_MS}  {go : Nat → Int32 → Int32 → Int32 → Int32 → Nat → Int32 → Int32 → ow_MS → Option (Int32 × ow_MS)} {x1 : Int32} {x2 : Int32} {x3 : Int32} {x4 : Int32} {r0 : Nat} {t0 : Int32} {t1 : Int32}  (hgo : ∀ (L : Nat) (x1 : Int32) (x2 : Int32) (x3 : Int32) (x4 : Int32) (r0 : Nat) (t0 : Int32) (t1 : Int32) (z : ow_MS), fr (pf [] []) z0 z → (L = 0 ∨ L = 1 ∨ L = 2 ∨ L = 3 ∨ L = 4 ∨ L = 5 → 1000 ≤ r0) → Fo Prod.snd (pf [] []) z0 (go L x1 x2 x3 x4 r0 t0 t1 z)) (hz : fr (pf [] []) z0 z) (hr0 : 1000 ≤ r0) : Fo Prod.snd (pf [] []) z0 (qm_X12_isPlane_0 K go x1 x2 x3 x4 r0 t0 t1 z) := by
  unfold qm_X12_isPlane_0
  exact (fo_cs0 (ff_X12_split (by first | omega | decide)) (pf_sub (by decide) pf_0) hz (fun z1 h_z1 => (fo_cs0 (ff_X12_walk (by first | omega | decide)) (pf_sub (by decide) pf_0) h_z1 (fun z2 h_z2 => (fo_rdF (fun v3 => (fo_nzI (hgo 1 _ _ _ _ _ _ _ z2 h_z2 (fun _ => (by first | omega | decide))))))))))
theorem fb_X12_isPlane_1 {K : Nat} {z0 z : ow_MS}  {go : Nat → Int32 → Int32 → Int32 → Int32 → Nat → Int32 → Int32 → ow_MS → Option (Int32 × ow_MS)} {x1 : Int32} {x2 : Int32} {x3 : Int32} {x4 : Int32} {r0 : Nat} {t0 : Int32} {t1 : Int32}  (hgo : ∀ (L : Nat) (x1 : Int32) (x2 : Int32) (x3 : Int32) (x4 : Int32) (r0 : Nat) (t0 : Int32) (t1 : Int32) (z : ow_MS), fr (pf [] []) z0 z → (L = 0 ∨ L = 1 ∨ L = 2 ∨ L = 3 ∨ L = 4 ∨ L = 5 → 1000 ≤ r0) → Fo Prod.snd (pf [] []) z0 (go L x1 x2 x3 x4 r0 t0 t1 z)) (hz : fr (pf [] []) z0 z) (hr0 : 1000 ≤ r0) : Fo Prod.snd (pf [] []) z0 (qm_X12_isPlane_1 K go x1 x2 x3 x4 r0 t0 t1 z) := by
  unfold qm_X12_isPlane_1
  exact (fo_rdF (fun v4 => (fo_if (fo_rdF (fun v5 => (fo_if (fo_okZ (fo_some hz)) (fo_okZ (fo_some hz))))) (hgo 2 _ _ _ _ _ _ _ z hz (fun _ => (by first | omega | decide))))))
theorem fb_X12_isPlane_2 {K : Nat} {z0 z : ow_MS}  {go : Nat → Int32 → Int32 → Int32 → Int32 → Nat → Int32 → Int32 → ow_MS → Option (Int32 × ow_MS)} {x1 : Int32} {x2 : Int32} {x3 : Int32} {x4 : Int32} {r0 : Nat} {t0 : Int32} {t1 : Int32}  (hgo : ∀ (L : Nat) (x1 : Int32) (x2 : Int32) (x3 : Int32) (x4 : Int32) (r0 : Nat) (t0 : Int32) (t1 : Int32) (z : ow_MS), fr (pf [] []) z0 z → (L = 0 ∨ L = 1 ∨ L = 2 ∨ L = 3 ∨ L = 4 ∨ L = 5 → 1000 ≤ r0) → Fo Prod.snd (pf [] []) z0 (go L x1 x2 x3 x4 r0 t0 t1 z)) (hz : fr (pf [] []) z0 z) (hr0 : 1000 ≤ r0) : Fo Prod.snd (pf [] []) z0 (qm_X12_isPlane_2 K go x1 x2 x3 x4 r0 t0 t1 z) := by
  unfold qm_X12_isPlane_2
  exact (fo_rdF (fun v6 => (fo_if (fo_if (hgo 5 _ _ _ _ _ _ _ z hz (fun _ => (by first | omega | decide))) (hgo 5 _ _ _ _ _ _ _ z hz (fun _ => (by first | omega | decide)))) (fo_rdI (fun v7 => (fo_if (fo_cs1 (ff_X12_isCircle (by first | omega | decide)) (pf_sub (by decide) pf_0) hz (fun v9 z8 h_z8 => (fo_if (hgo 4 _ _ _ _ _ _ _ z8 h_z8 (fun _ => (by first | omega | decide))) (hgo 3 _ _ _ _ _ _ _ z8 h_z8 (fun _ => (by first | omega | decide)))))) (hgo 3 _ _ _ _ _ _ _ z hz (fun _ => (by first | omega | decide)))))))))
theorem fb_X12_isPlane_3 {K : Nat} {z0 z : ow_MS}  {go : Nat → Int32 → Int32 → Int32 → Int32 → Nat → Int32 → Int32 → ow_MS → Option (Int32 × ow_MS)} {x1 : Int32} {x2 : Int32} {x3 : Int32} {x4 : Int32} {r0 : Nat} {t0 : Int32} {t1 : Int32}  (hgo : ∀ (L : Nat) (x1 : Int32) (x2 : Int32) (x3 : Int32) (x4 : Int32) (r0 : Nat) (t0 : Int32) (t1 : Int32) (z : ow_MS), fr (pf [] []) z0 z → (L = 0 ∨ L = 1 ∨ L = 2 ∨ L = 3 ∨ L = 4 ∨ L = 5 → 1000 ≤ r0) → Fo Prod.snd (pf [] []) z0 (go L x1 x2 x3 x4 r0 t0 t1 z)) (hz : fr (pf [] []) z0 z) (hr0 : 1000 ≤ r0) : Fo Prod.snd (pf [] []) z0 (qm_X12_isPlane_3 K go x1 x2 x3 x4 r0 t0 t1 z) := by
  unfold qm_X12_isPlane_3
  exact (hgo 4 _ _ _ _ _ _ _ z hz (fun _ => (by first | omega | decide)))
theorem fb_X12_isPlane_4 {K : Nat} {z0 z : ow_MS}  {go : Nat → Int32 → Int32 → Int32 → Int32 → Nat → Int32 → Int32 → ow_MS → Option (Int32 × ow_MS)} {x1 : Int32} {x2 : Int32} {x3 : Int32} {x4 : Int32} {r0 : Nat} {t0 : Int32} {t1 : Int32}  (hgo : ∀ (L : Nat) (x1 : Int32) (x2 : Int32) (x3 : Int32) (x4 : Int32) (r0 : Nat) (t0 : Int32) (t1 : Int32) (z : ow_MS), fr (pf [] []) z0 z → (L = 0 ∨ L = 1 ∨ L = 2 ∨ L = 3 ∨ L = 4 ∨ L = 5 → 1000 ≤ r0) → Fo Prod.snd (pf [] []) z0 (go L x1 x2 x3 x4 r0 t0 t1 z)) (hz : fr (pf [] []) z0 z) (hr0 : 1000 ≤ r0) : Fo Prod.snd (pf [] []) z0 (qm_X12_isPlane_4 K go x1 x2 x3 x4 r0 t0 t1 z) := by
  unfold qm_X12_isPlane_4
  exact (hgo 2 _ _ _ _ _ _ _ z hz (fun _ => (by first | omega | decide)))
theorem fb_X12_isPlane_5 {K : Nat} {z0 z : ow_MS}  {go : Nat → Int32 → Int32 → Int32 → Int32 → Nat → Int32 → Int32 → ow_MS → Option (Int32 × ow_MS)} {x1 : Int32} {x2 : Int32} {x3 : Int32} {x4 : Int32} {r0 : Nat} {t0 : Int32} {t1 : Int32}  (hgo : ∀ (L : Nat) (x1 : Int32) (x2 : Int32) (x3 : Int32) (x4 : Int32) (r0 : Nat) (t0 : Int32) (t1 : Int32) (z : ow_MS), fr (pf [] []) z0 z → (L = 0 ∨ L = 1 ∨ L = 2 ∨ L = 3 ∨ L = 4 ∨ L = 5 → 1000 ≤ r0) → Fo Prod.snd (pf [] []) z0 (go L x1 x2 x3 x4 r0 t0 t1 z)) (hz : fr (pf [] []) z0 z) (hr0 : 1000 ≤ r0) : Fo Prod.snd (pf [] []) z0 (qm_X12_isPlane_5 K go x1 x2 x3 x4 r0 t0 t1 z) := by
  unfold qm_X12_isPlane_5
  exact (hgo 1 _ _ _ _ _ _ _ z hz (fun _ => (by first | omega | decide)))
theorem fq_X12_isPlane {K : Nat} {z0 : ow_MS}   : ∀ (k L : Nat) (x1 : Int32) (x2 : Int32) (x3 : Int32) (x4 : Int32) (r0 : Nat) (t0 : Int32) (t1 : Int32) (z : ow_MS), fr (pf [] []) z0 z → (L = 0 ∨ L = 1 ∨ L = 2 ∨ L = 3 ∨ L = 4 ∨ L = 5 → 1000 ≤ r0) → Fo Prod.snd (pf [] []) z0 (q_X12_isPlane K k L x1 x2 x3 x4 r0 t0 t1 z)
  | 0 => by
    intros
    exact fo_none
  | k + 1 => by
    intro L x1 x2 x3 x4 r0 t0 t1 z hz h9_r0
    show Fo Prod.snd (pf [] []) z0 (qb_X12_isPlane K (q_X12_isPlane K k) L x1 x2 x3 x4 r0 t0 t1 z)
    unfold qb_X12_isPlane
    split
    · exact fb_X12_isPlane_0 (fq_X12_isPlane k) hz (h9_r0 (by decide))
    · exact fb_X12_isPlane_1 (fq_X12_isPlane k) hz (h9_r0 (by decide))
    · exact fb_X12_isPlane_2 (fq_X12_isPlane k) hz (h9_r0 (by decide))
    · exact fb_X12_isPlane_3 (fq_X12_isPlane k) hz (h9_r0 (by decide))
    · exact fb_X12_isPlane_4 (fq_X12_isPlane k) hz (h9_r0 (by decide))
    · exact fb_X12_isPlane_5 (fq_X12_isPlane k) hz (h9_r0 (by decide))
    · exact fo_none
theorem ff_X12_isPlane {K : Nat} {r0 : Nat} {z : ow_MS} (hr0 : 1000 ≤ r0) : Fo Prod.snd (pf [] []) z (qe_X12_isPlane K r0 z) := fq_X12_isPlane K 0 _ _ _ _ _ _ _ z fr_rf (fun _ => (by first | omega | decide))
theorem fb_X13_read_0 {K : Nat} {z0 z : ow_MS}  {go : Nat → Int32 → Int32 → Int32 → Int32 → Int32 → Int32 → Int32 → Int32 → Int32 → ow_MS → Option (Int32 × ow_MS)} {x1 : Int32} {x2 : Int32} {x3 : Int32} {x4 : Int32} {x5 : Int32} {x6 : Int32} {x7 : Int32} {x8 : Int32} {t0 : Int32}  (hgo : ∀ (L : Nat) (x1 : Int32) (x2 : Int32) (x3 : Int32) (x4 : Int32) (x5 : Int32) (x6 : Int32) (x7 : Int32) (x8 : Int32) (t0 : Int32) (z : ow_MS), fr (pf [16, 17, 18, 19] []) z0 z → Fo Prod.snd (pf [16, 17, 18, 19] []) z0 (go L x1 x2 x3 x4 x5 x6 x7 x8 t0 z)) (hz : fr (pf [16, 17, 18, 19] []) z0 z)  : Fo Prod.snd (pf [16, 17, 18, 19] []) z0 (qm_X13_read_0 K go x1 x2 x3 x4 x5 x6 x7 x8 t0 z) := by
  unfold qm_X13_read_0
  exact (fo_cs0 (ff_X12_clear (by first | omega | decide)) (pf_sub (by decide) pf_0) hz (fun z1 h_z1 => (hgo 1 _ _ _ _ _ _ _ _ _ z1 h_z1)))
theorem fb_X13_read_1 {K : Nat} {z0 z : ow_MS}  {go : Nat → Int32 → Int32 → Int32 → Int32 → Int32 → Int32 → Int32 → Int32 → Int32 → ow_MS → Option (Int32 × ow_MS)} {x1 : Int32} {x2 : Int32} {x3 : Int32} {x4 : Int32} {x5 : Int32} {x6 : Int32} {x7 : Int32} {x8 : Int32} {t0 : Int32}  (hgo : ∀ (L : Nat) (x1 : Int32) (x2 : Int32) (x3 : Int32) (x4 : Int32) (x5 : Int32) (x6 : Int32) (x7 : Int32) (x8 : Int32) (t0 : Int32) (z : ow_MS), fr (pf [16, 17, 18, 19] []) z0 z → Fo Prod.snd (pf [16, 17, 18, 19] []) z0 (go L x1 x2 x3 x4 x5 x6 x7 x8 t0 z)) (hz : fr (pf [16, 17, 18, 19] []) z0 z)  : Fo Prod.snd (pf [16, 17, 18, 19] []) z0 (qm_X13_read_1 K go x1 x2 x3 x4 x5 x6 x7 x8 t0 z) := by
  unfold qm_X13_read_1
  exact (fo_rdF (fun v2 => (fo_if (fo_cs0 (ff_X12_end (by first | omega | decide)) (pf_sub (by decide) pf_0) hz (fun z3 h_z3 => (fo_rdF (fun v4 => (hgo 10 _ _ _ _ _ _ _ _ _ z3 h_z3))))) (fo_rdI (fun v5 => (fo_if (fo_cs0 (ff_X12_end (by first | omega | decide)) (pf_sub (by decide) pf_0) hz (fun z6 h_z6 => (fo_rdF (fun v7 => (fo_if (fo_some h_z6) (hgo 1 _ _ _ _ _ _ _ _ _ z6 h_z6)))))) (fo_if (hgo 2 _ _ _ _ _ _ _ _ _ z hz) (fo_if (hgo 2 _ _ _ _ _ _ _ _ _ z hz) (fo_some hz)))))))))
theorem fb_X13_read_2 {K : Nat} {z0 z : ow_MS}  {go : Nat → Int32 → Int32 → Int32 → Int32 → Int32 → Int32 → Int32 → Int32 → Int32 → ow_MS → Option (Int32 × ow_MS)} {x1 : Int32} {x2 : Int32} {x3 : Int32} {x4 : Int32} {x5 : Int32} {x6 : Int32} {x7 : Int32} {x8 : Int32} {t0 : Int32}  (hgo : ∀ (L : Nat) (x1 : Int32) (x2 : Int32) (x3 : Int32) (x4 : Int32) (x5 : Int32) (x6 : Int32) (x7 : Int32) (x8 : Int32) (t0 : Int32) (z : ow_MS), fr (pf [16, 17, 18, 19] []) z0 z → Fo Prod.snd (pf [16, 17, 18, 19] []) z0 (go L x1 x2 x3 x4 x5 x6 x7 x8 t0 z)) (hz : fr (pf [16, 17, 18, 19] []) z0 z)  : Fo Prod.snd (pf [16, 17, 18, 19] []) z0 (qm_X13_read_2 K go x1 x2 x3 x4 x5 x6 x7 x8 t0 z) := by
  unfold qm_X13_read_2
  exact (fo_rdF (fun v8 => (fo_if (fo_rdF (fun v21 => (fo_some hz))) (fo_cs1 (ff_X13_byteAt) (pf_sub (by decide) pf_0) hz (fun v10 z9 h_z9 => (fo_if (fo_some h_z9) (fo_cs1 (ff_X13_byteAt) (pf_sub (by decide) pf_0) h_z9 (fun v12 z11 h_z11 => (fo_if (fo_cs1 (ff_X13_byteAt) (pf_sub (by decide) pf_0) h_z11 (fun v14 z13 h_z13 => (fo_cs1 (ff_X13_byteAt) (pf_sub (by decide) pf_0) h_z13 (fun v16 z15 h_z15 => (fo_if (hgo 3 _ _ _ _ _ _ _ _ _ z15 h_z15) (fo_cs1 (ff_X13_byteAt) (pf_sub (by decide) pf_0) h_z15 (fun v18 z17 h_z17 => (fo_if (hgo 3 _ _ _ _ _ _ _ _ _ z17 h_z17) (fo_cs1 (ff_X13_byteAt) (pf_sub (by decide) pf_0) h_z17 (fun v20 z19 h_z19 => (hgo 3 _ _ _ _ _ _ _ _ _ z19 h_z19))))))))))) (fo_some h_z11))))))))))
theorem fb_X13_read_3 {K : Nat} {z0 z : ow_MS}  {go : Nat → Int32 → Int32 → Int32 → Int32 → Int32 → Int32 → Int32 → Int32 → Int32 → ow_MS → Option (Int32 × ow_MS)} {x1 : Int32} {x2 : Int32} {x3 : Int32} {x4 : Int32} {x5 : Int32} {x6 : Int32} {x7 : Int32} {x8 : Int32} {t0 : Int32}  (hgo : ∀ (L : Nat) (x1 : Int32) (x2 : Int32) (x3 : Int32) (x4 : Int32) (x5 : Int32) (x6 : Int32) (x7 : Int32) (x8 : Int32) (t0 : Int32) (z : ow_MS), fr (pf [16, 17, 18, 19] []) z0 z → Fo Prod.snd (pf [16, 17, 18, 19] []) z0 (go L x1 x2 x3 x4 x5 x6 x7 x8 t0 z)) (hz : fr (pf [16, 17, 18, 19] []) z0 z)  : Fo Prod.snd (pf [16, 17, 18, 19] []) z0 (qm_X13_read_3 K go x1 x2 x3 x4 x5 x6 x7 x8 t0 z) := by
  unfold qm_X13_read_3
  exact (fo_rdF (fun v22 => (fo_if (fo_rdF (fun v27 => (fo_some hz))) (fo_cs1 (ff_X13_byteAt) (pf_sub (by decide) pf_0) hz (fun v24 z23 h_z23 => (fo_if (hgo 4 _ _ _ _ _ _ _ _ _ z23 h_z23) (fo_cs1 (ff_X13_byteAt) (pf_sub (by decide) pf_0) h_z23 (fun v26 z25 h_z25 => (fo_if (hgo 4 _ _ _ _ _ _ _ _ _ z25 h_z25) (fo_some h_z25))))))))))
theorem fb_X13_read_4 {K : Nat} {z0 z : ow_MS}  {go : Nat → Int32 → Int32 → Int32 → Int32 → Int32 → Int32 → Int32 → Int32 → Int32 → ow_MS → Option (Int32 × ow_MS)} {x1 : Int32} {x2 : Int32} {x3 : Int32} {x4 : Int32} {x5 : Int32} {x6 : Int32} {x7 : Int32} {x8 : Int32} {t0 : Int32}  (hgo : ∀ (L : Nat) (x1 : Int32) (x2 : Int32) (x3 : Int32) (x4 : Int32) (x5 : Int32) (x6 : Int32) (x7 : Int32) (x8 : Int32) (t0 : Int32) (z : ow_MS), fr (pf [16, 17, 18, 19] []) z0 z → Fo Prod.snd (pf [16, 17, 18, 19] []) z0 (go L x1 x2 x3 x4 x5 x6 x7 x8 t0 z)) (hz : fr (pf [16, 17, 18, 19] []) z0 z)  : Fo Prod.snd (pf [16, 17, 18, 19] []) z0 (qm_X13_read_4 K go x1 x2 x3 x4 x5 x6 x7 x8 t0 z) := by
  unfold qm_X13_read_4
  exact (fo_cs1 (ff_X13_byteAt) (pf_sub (by decide) pf_0) hz (fun v29 z28 h_z28 => (fo_if (hgo 5 _ _ _ _ _ _ _ _ _ z28 h_z28) (hgo 5 _ _ _ _ _ _ _ _ _ z28 h_z28))))
theorem fb_X13_read_5 {K : Nat} {z0 z : ow_MS}  {go : Nat → Int32 → Int32 → Int32 → Int32 → Int32 → Int32 → Int32 → Int32 → Int32 → ow_MS → Option (Int32 × ow_MS)} {x1 : Int32} {x2 : Int32} {x3 : Int32} {x4 : Int32} {x5 : Int32} {x6 : Int32} {x7 : Int32} {x8 : Int32} {t0 : Int32}  (hgo : ∀ (L : Nat) (x1 : Int32) (x2 : Int32) (x3 : Int32) (x4 : Int32) (x5 : Int32) (x6 : Int32) (x7 : Int32) (x8 : Int32) (t0 : Int32) (z : ow_MS), fr (pf [16, 17, 18, 19] []) z0 z → Fo Prod.snd (pf [16, 17, 18, 19] []) z0 (go L x1 x2 x3 x4 x5 x6 x7 x8 t0 z)) (hz : fr (pf [16, 17, 18, 19] []) z0 z)  : Fo Prod.snd (pf [16, 17, 18, 19] []) z0 (qm_X13_read_5 K go x1 x2 x3 x4 x5 x6 x7 x8 t0 z) := by
  unfold qm_X13_read_5
  exact (fo_if (hgo 6 _ _ _ _ _ _ _ _ _ z hz) (hgo 6 _ _ _ _ _ _ _ _ _ z hz))
theorem fb_X13_read_6 {K : Nat} {z0 z : ow_MS}  {go : Nat → Int32 → Int32 → Int32 → Int32 → Int32 → Int32 → Int32 → Int32 → Int32 → ow_MS → Option (Int32 × ow_MS)} {x1 : Int32} {x2 : Int32} {x3 : Int32} {x4 : Int32} {x5 : Int32} {x6 : Int32} {x7 : Int32} {x8 : Int32} {t0 : Int32}  (hgo : ∀ (L : Nat) (x1 : Int32) (x2 : Int32) (x3 : Int32) (x4 : Int32) (x5 : Int32) (x6 : Int32) (x7 : Int32) (x8 : Int32) (t0 : Int32) (z : ow_MS), fr (pf [16, 17, 18, 19] []) z0 z → Fo Prod.snd (pf [16, 17, 18, 19] []) z0 (go L x1 x2 x3 x4 x5 x6 x7 x8 t0 z)) (hz : fr (pf [16, 17, 18, 19] []) z0 z)  : Fo Prod.snd (pf [16, 17, 18, 19] []) z0 (qm_X13_read_6 K go x1 x2 x3 x4 x5 x6 x7 x8 t0 z) := by
  unfold qm_X13_read_6
  exact (hgo 7 _ _ _ _ _ _ _ _ _ z hz)
theorem fb_X13_read_7 {K : Nat} {z0 z : ow_MS}  {go : Nat → Int32 → Int32 → Int32 → Int32 → Int32 → Int32 → Int32 → Int32 → Int32 → ow_MS → Option (Int32 × ow_MS)} {x1 : Int32} {x2 : Int32} {x3 : Int32} {x4 : Int32} {x5 : Int32} {x6 : Int32} {x7 : Int32} {x8 : Int32} {t0 : Int32}  (hgo : ∀ (L : Nat) (x1 : Int32) (x2 : Int32) (x3 : Int32) (x4 : Int32) (x5 : Int32) (x6 : Int32) (x7 : Int32) (x8 : Int32) (t0 : Int32) (z : ow_MS), fr (pf [16, 17, 18, 19] []) z0 z → Fo Prod.snd (pf [16, 17, 18, 19] []) z0 (go L x1 x2 x3 x4 x5 x6 x7 x8 t0 z)) (hz : fr (pf [16, 17, 18, 19] []) z0 z)  : Fo Prod.snd (pf [16, 17, 18, 19] []) z0 (qm_X13_read_7 K go x1 x2 x3 x4 x5 x6 x7 x8 t0 z) := by
  unfold qm_X13_read_7
  exact (fo_if (hgo 8 _ _ _ _ _ _ _ _ _ z hz) (fo_rdI (fun v30 => (fo_if (hgo 8 _ _ _ _ _ _ _ _ _ z hz) (hgo 7 _ _ _ _ _ _ _ _ _ z hz)))))
theorem fb_X13_read_8 {K : Nat} {z0 z : ow_MS}  {go : Nat → Int32 → Int32 → Int32 → Int32 → Int32 → Int32 → Int32 → Int32 → Int32 → ow_MS → Option (Int32 × ow_MS)} {x1 : Int32} {x2 : Int32} {x3 : Int32} {x4 : Int32} {x5 : Int32} {x6 : Int32} {x7 : Int32} {x8 : Int32} {t0 : Int32}  (hgo : ∀ (L : Nat) (x1 : Int32) (x2 : Int32) (x3 : Int32) (x4 : Int32) (x5 : Int32) (x6 : Int32) (x7 : Int32) (x8 : Int32) (t0 : Int32) (z : ow_MS), fr (pf [16, 17, 18, 19] []) z0 z → Fo Prod.snd (pf [16, 17, 18, 19] []) z0 (go L x1 x2 x3 x4 x5 x6 x7 x8 t0 z)) (hz : fr (pf [16, 17, 18, 19] []) z0 z)  : Fo Prod.snd (pf [16, 17, 18, 19] []) z0 (qm_X13_read_8 K go x1 x2 x3 x4 x5 x6 x7 x8 t0 z) := by
  unfold qm_X13_read_8
  exact (fo_if (fo_if (fo_some hz) (fo_wrI (Or.inl (by decide)) hz (fun z31 h_z31 => (fo_wrI (Or.inl (by decide)) h_z31 (fun z32 h_z32 => (fo_wrI (Or.inl (by decide)) h_z32 (fun z33 h_z33 => (fo_wrI (Or.inl (by decide)) h_z33 (fun z34 h_z34 => (hgo 9 _ _ _ _ _ _ _ _ _ z34 h_z34)))))))))) (hgo 9 _ _ _ _ _ _ _ _ _ z hz))
theorem fb_X13_read_9 {K : Nat} {z0 z : ow_MS}  {go : Nat → Int32 → Int32 → Int32 → Int32 → Int32 → Int32 → Int32 → Int32 → Int32 → ow_MS → Option (Int32 × ow_MS)} {x1 : Int32} {x2 : Int32} {x3 : Int32} {x4 : Int32} {x5 : Int32} {x6 : Int32} {x7 : Int32} {x8 : Int32} {t0 : Int32}  (hgo : ∀ (L : Nat) (x1 : Int32) (x2 : Int32) (x3 : Int32) (x4 : Int32) (x5 : Int32) (x6 : Int32) (x7 : Int32) (x8 : Int32) (t0 : Int32) (z : ow_MS), fr (pf [16, 17, 18, 19] []) z0 z → Fo Prod.snd (pf [16, 17, 18, 19] []) z0 (go L x1 x2 x3 x4 x5 x6 x7 x8 t0 z)) (hz : fr (pf [16, 17, 18, 19] []) z0 z)  : Fo Prod.snd (pf [16, 17, 18, 19] []) z0 (qm_X13_read_9 K go x1 x2 x3 x4 x5 x6 x7 x8 t0 z) := by
  unfold qm_X13_read_9
  exact (fo_rdI (fun v35 => (fo_if (fo_rdI (fun v36 => (fo_if (fo_rdI (fun v37 => (fo_wrI (Or.inl (by decide)) hz (fun z38 h_z38 => (fo_wrI (Or.inr (Or.inr (by decide))) h_z38 (fun z39 h_z39 => (fo_cs0 (ff_X12_add (by first | omega | decide)) (pf_sub (by decide) pf_0) h_z39 (fun z40 h_z40 => (hgo 1 _ _ _ _ _ _ _ _ _ z40 h_z40))))))))) (fo_some hz)))) (fo_some hz))))
theorem fb_X13_read_10 {K : Nat} {z0 z : ow_MS}  {go : Nat → Int32 → Int32 → Int32 → Int32 → Int32 → Int32 → Int32 → Int32 → Int32 → ow_MS → Option (Int32 × ow_MS)} {x1 : Int32} {x2 : Int32} {x3 : Int32} {x4 : Int32} {x5 : Int32} {x6 : Int32} {x7 : Int32} {x8 : Int32} {t0 : Int32}  (hgo : ∀ (L : Nat) (x1 : Int32) (x2 : Int32) (x3 : Int32) (x4 : Int32) (x5 : Int32) (x6 : Int32) (x7 : Int32) (x8 : Int32) (t0 : Int32) (z : ow_MS), fr (pf [16, 17, 18, 19] []) z0 z → Fo Prod.snd (pf [16, 17, 18, 19] []) z0 (go L x1 x2 x3 x4 x5 x6 x7 x8 t0 z)) (hz : fr (pf [16, 17, 18, 19] []) z0 z)  : Fo Prod.snd (pf [16, 17, 18, 19] []) z0 (qm_X13_read_10 K go x1 x2 x3 x4 x5 x6 x7 x8 t0 z) := by
  unfold qm_X13_read_10
  exact (fo_if (fo_rdF (fun v41 => (fo_if (fo_cs0 (ff_X12_link (by first | omega | decide)) (pf_sub (by decide) pf_0) hz (fun z42 h_z42 => (fo_cs1 (ff_X12_isPlane (by first | omega | decide)) (pf_sub (by decide) pf_0) h_z42 (fun v44 z43 h_z43 => (fo_if (fo_rdF (fun v45 => (fo_some h_z43))) (fo_some h_z43)))))) (fo_some hz)))) (fo_rdI (fun v46 => (fo_if (hgo 11 _ _ _ _ _ _ _ _ _ z hz) (fo_rdI (fun v47 => (hgo 11 _ _ _ _ _ _ _ _ _ z hz)))))))
theorem fb_X13_read_11 {K : Nat} {z0 z : ow_MS}  {go : Nat → Int32 → Int32 → Int32 → Int32 → Int32 → Int32 → Int32 → Int32 → Int32 → ow_MS → Option (Int32 × ow_MS)} {x1 : Int32} {x2 : Int32} {x3 : Int32} {x4 : Int32} {x5 : Int32} {x6 : Int32} {x7 : Int32} {x8 : Int32} {t0 : Int32}  (hgo : ∀ (L : Nat) (x1 : Int32) (x2 : Int32) (x3 : Int32) (x4 : Int32) (x5 : Int32) (x6 : Int32) (x7 : Int32) (x8 : Int32) (t0 : Int32) (z : ow_MS), fr (pf [16, 17, 18, 19] []) z0 z → Fo Prod.snd (pf [16, 17, 18, 19] []) z0 (go L x1 x2 x3 x4 x5 x6 x7 x8 t0 z)) (hz : fr (pf [16, 17, 18, 19] []) z0 z)  : Fo Prod.snd (pf [16, 17, 18, 19] []) z0 (qm_X13_read_11 K go x1 x2 x3 x4 x5 x6 x7 x8 t0 z) := by
  unfold qm_X13_read_11
  exact (hgo 10 _ _ _ _ _ _ _ _ _ z hz)
theorem fq_X13_read {K : Nat} {z0 : ow_MS}   : ∀ (k L : Nat) (x1 : Int32) (x2 : Int32) (x3 : Int32) (x4 : Int32) (x5 : Int32) (x6 : Int32) (x7 : Int32) (x8 : Int32) (t0 : Int32) (z : ow_MS), fr (pf [16, 17, 18, 19] []) z0 z → Fo Prod.snd (pf [16, 17, 18, 19] []) z0 (q_X13_read K k L x1 x2 x3 x4 x5 x6 x7 x8 t0 z)
  | 0 => by
    intros
    exact fo_none
  | k + 1 => by
    intro L x1 x2 x3 x4 x5 x6 x7 x8 t0 z hz 
    show Fo Prod.snd (pf [16, 17, 18, 19] []) z0 (qb_X13_read K (q_X13_read K k) L x1 x2 x3 x4 x5 x6 x7 x8 t0 z)
    unfold qb_X13_read
    split
    · exact fb_X13_read_0 (fq_X13_read k) hz 
    · exact fb_X13_read_1 (fq_X13_read k) hz 
    · exact fb_X13_read_2 (fq_X13_read k) hz 
    · exact fb_X13_read_3 (fq_X13_read k) hz 
    · exact fb_X13_read_4 (fq_X13_read k) hz 
    · exact fb_X13_read_5 (fq_X13_read k) hz 
    · exact fb_X13_read_6 (fq_X13_read k) hz 
    · exact fb_X13_read_7 (fq_X13_read k) hz 
    · exact fb_X13_read_8 (fq_X13_read k) hz 
    · exact fb_X13_read_9 (fq_X13_read k) hz 
    · exact fb_X13_read_10 (fq_X13_read k) hz 
    · exact fb_X13_read_11 (fq_X13_read k) hz 
    · exact fo_none
theorem ff_X13_read {K : Nat} {z : ow_MS}  : Fo Prod.snd (pf [16, 17, 18, 19] []) z (qe_X13_read K z) := fq_X13_read K 0 _ _ _ _ _ _ _ _ _ z fr_rf 
theorem fb_X13_rowFrom_0 {K : Nat} {z0 z : ow_MS}  {go : Nat → Int32 → Int32 → Int32 → Int32 → Int32 → Int32 → Nat → Int32 → Int32 → Int32 → ow_MS → Option ow_MS} {x2 : Int32} {x3 : Int32} {x4 : Int32} {x5 : Int32} {x6 : Int32} {x7 : Int32} {r1 : Nat} {t0 : Int32} {t1 : Int32} {t2 : Int32}  (hgo : ∀ (L : Nat) (x2 : Int32) (x3 : Int32) (x4 : Int32) (x5 : Int32) (x6 : Int32) (x7 : Int32) (r1 : Nat) (t0 : Int32) (t1 : Int32) (t2 : Int32) (z : ow_MS), fr (pf [2, 3, 4, 5, 6] []) z0 z → (L = 0 ∨ L = 1 ∨ L = 2 ∨ L = 3 ∨ L = 4 ∨ L = 5 ∨ L = 6 ∨ L = 7 ∨ L = 8 → 1000 ≤ r1) → Fo id (pf [2, 3, 4, 5, 6] []) z0 (go L x2 x3 x4 x5 x6 x7 r1 t0 t1 t2 z)) (hz : fr (pf [2, 3, 4, 5, 6] []) z0 z) (hr1 : 1000 ≤ r1) : Fo id (pf [2, 3, 4, 5, 6] []) z0 (qm_X13_rowFrom_0 K go x2 x3 x4 x5 x6 x7 r1 t0 t1 t2 z) := by
  unfold qm_X13_rowFrom_0
  exact (hgo 1 _ _ _ _ _ _ _ _ _ _ z hz (fun _ => (by first | omega | decide)))
theorem fb_X13_rowFrom_1 {K : Nat} {z0 z : ow_MS}  {go : Nat → Int32 → Int32 → Int32 → Int32 → Int32 → Int32 → Nat → Int32 → Int32 → Int32 → ow_MS → Option ow_MS} {x2 : Int32} {x3 : Int32} {x4 : Int32} {x5 : Int32} {x6 : Int32} {x7 : Int32} {r1 : Nat} {t0 : Int32} {t1 : Int32} {t2 : Int32}  (hgo : ∀ (L : Nat) (x2 : Int32) (x3 : Int32) (x4 : Int32) (x5 : Int32) (x6 : Int32) (x7 : Int32) (r1 : Nat) (t0 : Int32) (t1 : Int32) (t2 : Int32) (z : ow_MS), fr (pf [2, 3, 4, 5, 6] []) z0 z → (L = 0 ∨ L = 1 ∨ L = 2 ∨ L = 3 ∨ L = 4 ∨ L = 5 ∨ L = 6 ∨ L = 7 ∨ L = 8 → 1000 ≤ r1) → Fo id (pf [2, 3, 4, 5, 6] []) z0 (go L x2 x3 x4 x5 x6 x7 r1 t0 t1 t2 z)) (hz : fr (pf [2, 3, 4, 5, 6] []) z0 z) (hr1 : 1000 ≤ r1) : Fo id (pf [2, 3, 4, 5, 6] []) z0 (qm_X13_rowFrom_1 K go x2 x3 x4 x5 x6 x7 r1 t0 t1 t2 z) := by
  unfold qm_X13_rowFrom_1
  exact (fo_if (fo_wrF (Or.inl (by decide)) hz (fun z1 h_z1 => (hgo 2 _ _ _ _ _ _ _ _ _ _ z1 h_z1 (fun _ => (by first | omega | decide))))) (fo_wrI (Or.inl (by decide)) hz (fun z2 h_z2 => (fo_wrZ (Or.inl (by decide)) h_z2 (fun z3 h_z3 => (hgo 1 _ _ _ _ _ _ _ _ _ _ z3 h_z3 (fun _ => (by first | omega | decide))))))))
theorem fb_X13_rowFrom_2 {K : Nat} {z0 z : ow_MS}  {go : Nat → Int32 → Int32 → Int32 → Int32 → Int32 → Int32 → Nat → Int32 → Int32 → Int32 → ow_MS → Option ow_MS} {x2 : Int32} {x3 : Int32} {x4 : Int32} {x5 : Int32} {x6 : Int32} {x7 : Int32} {r1 : Nat} {t0 : Int32} {t1 : Int32} {t2 : Int32}  (hgo : ∀ (L : Nat) (x2 : Int32) (x3 : Int32) (x4 : Int32) (x5 : Int32) (x6 : Int32) (x7 : Int32) (r1 : Nat) (t0 : Int32) (t1 : Int32) (t2 : Int32) (z : ow_MS), fr (pf [2, 3, 4, 5, 6] []) z0 z → (L = 0 ∨ L = 1 ∨ L = 2 ∨ L = 3 ∨ L = 4 ∨ L = 5 ∨ L = 6 ∨ L = 7 ∨ L = 8 → 1000 ≤ r1) → Fo id (pf [2, 3, 4, 5, 6] []) z0 (go L x2 x3 x4 x5 x6 x7 r1 t0 t1 t2 z)) (hz : fr (pf [2, 3, 4, 5, 6] []) z0 z) (hr1 : 1000 ≤ r1) : Fo id (pf [2, 3, 4, 5, 6] []) z0 (qm_X13_rowFrom_2 K go x2 x3 x4 x5 x6 x7 r1 t0 t1 t2 z) := by
  unfold qm_X13_rowFrom_2
  exact (fo_if (fo_rdF (fun v4 => (fo_wrI (Or.inl (by decide)) hz (fun z5 h_z5 => (fo_some h_z5))))) (fo_rdI (fun v6 => (fo_wrZ (Or.inl (by decide)) hz (fun z7 h_z7 => (hgo 3 _ _ _ _ _ _ _ _ _ _ z7 h_z7 (fun _ => (by first | omega | decide))))))))
theorem fb_X13_rowFrom_3 {K : Nat} {z0 z : ow_MS}  {go : Nat → Int32 → Int32 → Int32 → Int32 → Int32 → Int32 → Nat → Int32 → Int32 → Int32 → ow_MS → Option ow_MS} {x2 : Int32} {x3 : Int32} {x4 : Int32} {x5 : Int32} {x6 : Int32} {x7 : Int32} {r1 : Nat} {t0 : Int32} {t1 : Int32} {t2 : Int32}  (hgo : ∀ (L : Nat) (x2 : Int32) (x3 : Int32) (x4 : Int32) (x5 : Int32) (x6 : Int32) (x7 : Int32) (r1 : Nat) (t0 : Int32) (t1 : Int32) (t2 : Int32) (z : ow_MS), fr (pf [2, 3, 4, 5, 6] []) z0 z → (L = 0 ∨ L = 1 ∨ L = 2 ∨ L = 3 ∨ L = 4 ∨ L = 5 ∨ L = 6 ∨ L = 7 ∨ L = 8 → 1000 ≤ r1) → Fo id (pf [2, 3, 4, 5, 6] []) z0 (go L x2 x3 x4 x5 x6 x7 r1 t0 t1 t2 z)) (hz : fr (pf [2, 3, 4, 5, 6] []) z0 z) (hr1 : 1000 ≤ r1) : Fo id (pf [2, 3, 4, 5, 6] []) z0 (qm_X13_rowFrom_3 K go x2 x3 x4 x5 x6 x7 r1 t0 t1 t2 z) := by
  unfold qm_X13_rowFrom_3
  exact (fo_rdI (fun v8 => (fo_rdI (fun v9 => (fo_if (fo_wrI (Or.inl (by decide)) hz (fun z10 h_z10 => (fo_wrI (Or.inl (by decide)) h_z10 (fun z11 h_z11 => (hgo 4 _ _ _ _ _ _ _ _ _ _ z11 h_z11 (fun _ => (by first | omega | decide))))))) (hgo 4 _ _ _ _ _ _ _ _ _ _ z hz (fun _ => (by first | omega | decide))))))))
theorem fb_X13_rowFrom_4 {K : Nat} {z0 z : ow_MS}  {go : Nat → Int32 → Int32 → Int32 → Int32 → Int32 → Int32 → Nat → Int32 → Int32 → Int32 → ow_MS → Option ow_MS} {x2 : Int32} {x3 : Int32} {x4 : Int32} {x5 : Int32} {x6 : Int32} {x7 : Int32} {r1 : Nat} {t0 : Int32} {t1 : Int32} {t2 : Int32}  (hgo : ∀ (L : Nat) (x2 : Int32) (x3 : Int32) (x4 : Int32) (x5 : Int32) (x6 : Int32) (x7 : Int32) (r1 : Nat) (t0 : Int32) (t1 : Int32) (t2 : Int32) (z : ow_MS), fr (pf [2, 3, 4, 5, 6] []) z0 z → (L = 0 ∨ L = 1 ∨ L = 2 ∨ L = 3 ∨ L = 4 ∨ L = 5 ∨ L = 6 ∨ L = 7 ∨ L = 8 → 1000 ≤ r1) → Fo id (pf [2, 3, 4, 5, 6] []) z0 (go L x2 x3 x4 x5 x6 x7 r1 t0 t1 t2 z)) (hz : fr (pf [2, 3, 4, 5, 6] []) z0 z) (hr1 : 1000 ≤ r1) : Fo id (pf [2, 3, 4, 5, 6] []) z0 (qm_X13_rowFrom_4 K go x2 x3 x4 x5 x6 x7 r1 t0 t1 t2 z) := by
  unfold qm_X13_rowFrom_4
  exact (fo_rdF (fun v12 => (fo_wrF (Or.inl (by decide)) hz (fun z13 h_z13 => (fo_rdF (fun v14 => (fo_rdI (fun v15 => (fo_rdI (fun v16 => (fo_rdI (fun v17 => (fo_if (hgo 5 _ _ _ _ _ _ _ _ _ _ z13 h_z13 (fun _ => (by first | omega | decide))) (hgo 5 _ _ _ _ _ _ _ _ _ _ z13 h_z13 (fun _ => (by first | omega | decide))))))))))))))))
theorem fb_X13_rowFrom_5 {K : Nat} {z0 z : ow_MS}  {go : Nat → Int32 → Int32 → Int32 → Int32 → Int32 → Int32 → Nat → Int32 → Int32 → Int32 → ow_MS → Option ow_MS} {x2 : Int32} {x3 : Int32} {x4 : Int32} {x5 : Int32} {x6 : Int32} {x7 : Int32} {r1 : Nat} {t0 : Int32} {t1 : Int32} {t2 : Int32}  (hgo : ∀ (L : Nat) (x2 : Int32) (x3 : Int32) (x4 : Int32) (x5 : Int32) (x6 : Int32) (x7 : Int32) (r1 : Nat) (t0 : Int32) (t1 : Int32) (t2 : Int32) (z : ow_MS), fr (pf [2, 3, 4, 5, 6] []) z0 z → (L = 0 ∨ L = 1 ∨ L = 2 ∨ L = 3 ∨ L = 4 ∨ L = 5 ∨ L = 6 ∨ L = 7 ∨ L = 8 → 1000 ≤ r1) → Fo id (pf [2, 3, 4, 5, 6] []) z0 (go L x2 x3 x4 x5 x6 x7 r1 t0 t1 t2 z)) (hz : fr (pf [2, 3, 4, 5, 6] []) z0 z) (hr1 : 1000 ≤ r1) : Fo id (pf [2, 3, 4, 5, 6] []) z0 (qm_X13_rowFrom_5 K go x2 x3 x4 x5 x6 x7 r1 t0 t1 t2 z) := by
  unfold qm_X13_rowFrom_5
  exact (fo_wrI (Or.inl (by decide)) hz (fun z18 h_z18 => (fo_rdI (fun v19 => (fo_if (fo_rdF (fun v20 => (fo_wrF (Or.inl (by decide)) h_z18 (fun z21 h_z21 => (fo_rdF (fun v22 => (fo_wrI (Or.inl (by decide)) h_z21 (fun z23 h_z23 => (hgo 6 _ _ _ _ _ _ _ _ _ _ z23 h_z23 (fun _ => (by first | omega | decide))))))))))) (hgo 3 _ _ _ _ _ _ _ _ _ _ z18 h_z18 (fun _ => (by first | omega | decide))))))))
theorem fb_X13_rowFrom_6 {K : Nat} {z0 z : ow_MS}  {go : Nat → Int32 → Int32 → Int32 → Int32 → Int32 → Int32 → Nat → Int32 → Int32 → Int32 → ow_MS → Option ow_MS} {x2 : Int32} {x3 : Int32} {x4 : Int32} {x5 : Int32} {x6 : Int32} {x7 : Int32} {r1 : Nat} {t0 : Int32} {t1 : Int32} {t2 : Int32}  (hgo : ∀ (L : Nat) (x2 : Int32) (x3 : Int32) (x4 : Int32) (x5 : Int32) (x6 : Int32) (x7 : Int32) (r1 : Nat) (t0 : Int32) (t1 : Int32) (t2 : Int32) (z : ow_MS), fr (pf [2, 3, 4, 5, 6] []) z0 z → (L = 0 ∨ L = 1 ∨ L = 2 ∨ L = 3 ∨ L = 4 ∨ L = 5 ∨ L = 6 ∨ L = 7 ∨ L = 8 → 1000 ≤ r1) → Fo id (pf [2, 3, 4, 5, 6] []) z0 (go L x2 x3 x4 x5 x6 x7 r1 t0 t1 t2 z)) (hz : fr (pf [2, 3, 4, 5, 6] []) z0 z) (hr1 : 1000 ≤ r1) : Fo id (pf [2, 3, 4, 5, 6] []) z0 (qm_X13_rowFrom_6 K go x2 x3 x4 x5 x6 x7 r1 t0 t1 t2 z) := by
  unfold qm_X13_rowFrom_6
  exact (fo_if (hgo 8 _ _ _ _ _ _ _ _ _ _ z hz (fun _ => (by first | omega | decide))) (fo_if (fo_rdI (fun v24 => (fo_rdI (fun v25 => (fo_rdI (fun v26 => (fo_rdI (fun v27 => (fo_if (hgo 7 _ _ _ _ _ _ _ _ _ _ z hz (fun _ => (by first | omega | decide))) (hgo 7 _ _ _ _ _ _ _ _ _ _ z hz (fun _ => (by first | omega | decide)))))))))))) (hgo 8 _ _ _ _ _ _ _ _ _ _ z hz (fun _ => (by first | omega | decide)))))
theorem fb_X13_rowFrom_7 {K : Nat} {z0 z : ow_MS}  {go : Nat → Int32 → Int32 → Int32 → Int32 → Int32 → Int32 → Nat → Int32 → Int32 → Int32 → ow_MS → Option ow_MS} {x2 : Int32} {x3 : Int32} {x4 : Int32} {x5 : Int32} {x6 : Int32} {x7 : Int32} {r1 : Nat} {t0 : Int32} {t1 : Int32} {t2 : Int32}  (hgo : ∀ (L : Nat) (x2 : Int32) (x3 : Int32) (x4 : Int32) (x5 : Int32) (x6 : Int32) (x7 : Int32) (r1 : Nat) (t0 : Int32) (t1 : Int32) (t2 : Int32) (z : ow_MS), fr (pf [2, 3, 4, 5, 6] []) z0 z → (L = 0 ∨ L = 1 ∨ L = 2 ∨ L = 3 ∨ L = 4 ∨ L = 5 ∨ L = 6 ∨ L = 7 ∨ L = 8 → 1000 ≤ r1) → Fo id (pf [2, 3, 4, 5, 6] []) z0 (go L x2 x3 x4 x5 x6 x7 r1 t0 t1 t2 z)) (hz : fr (pf [2, 3, 4, 5, 6] []) z0 z) (hr1 : 1000 ≤ r1) : Fo id (pf [2, 3, 4, 5, 6] []) z0 (qm_X13_rowFrom_7 K go x2 x3 x4 x5 x6 x7 r1 t0 t1 t2 z) := by
  unfold qm_X13_rowFrom_7
  exact (hgo 6 _ _ _ _ _ _ _ _ _ _ z hz (fun _ => (by first | omega | decide)))
theorem fb_X13_rowFrom_8 {K : Nat} {z0 z : ow_MS}  {go : Nat → Int32 → Int32 → Int32 → Int32 → Int32 → Int32 → Nat → Int32 → Int32 → Int32 → ow_MS → Option ow_MS} {x2 : Int32} {x3 : Int32} {x4 : Int32} {x5 : Int32} {x6 : Int32} {x7 : Int32} {r1 : Nat} {t0 : Int32} {t1 : Int32} {t2 : Int32}  (hgo : ∀ (L : Nat) (x2 : Int32) (x3 : Int32) (x4 : Int32) (x5 : Int32) (x6 : Int32) (x7 : Int32) (r1 : Nat) (t0 : Int32) (t1 : Int32) (t2 : Int32) (z : ow_MS), fr (pf [2, 3, 4, 5, 6] []) z0 z → (L = 0 ∨ L = 1 ∨ L = 2 ∨ L = 3 ∨ L = 4 ∨ L = 5 ∨ L = 6 ∨ L = 7 ∨ L = 8 → 1000 ≤ r1) → Fo id (pf [2, 3, 4, 5, 6] []) z0 (go L x2 x3 x4 x5 x6 x7 r1 t0 t1 t2 z)) (hz : fr (pf [2, 3, 4, 5, 6] []) z0 z) (hr1 : 1000 ≤ r1) : Fo id (pf [2, 3, 4, 5, 6] []) z0 (qm_X13_rowFrom_8 K go x2 x3 x4 x5 x6 x7 r1 t0 t1 t2 z) := by
  unfold qm_X13_rowFrom_8
  exact (hgo 2 _ _ _ _ _ _ _ _ _ _ z hz (fun _ => (by first | omega | decide)))
theorem fq_X13_rowFrom {K : Nat} {z0 : ow_MS}   : ∀ (k L : Nat) (x2 : Int32) (x3 : Int32) (x4 : Int32) (x5 : Int32) (x6 : Int32) (x7 : Int32) (r1 : Nat) (t0 : Int32) (t1 : Int32) (t2 : Int32) (z : ow_MS), fr (pf [2, 3, 4, 5, 6] []) z0 z → (L = 0 ∨ L = 1 ∨ L = 2 ∨ L = 3 ∨ L = 4 ∨ L = 5 ∨ L = 6 ∨ L = 7 ∨ L = 8 → 1000 ≤ r1) → Fo id (pf [2, 3, 4, 5, 6] []) z0 (q_X13_rowFrom K k L x2 x3 x4 x5 x6 x7 r1 t0 t1 t2 z)
  | 0 => by
    intros
    exact fo_none
  | k + 1 => by
    intro L x2 x3 x4 x5 x6 x7 r1 t0 t1 t2 z hz h9_r1
    show Fo id (pf [2, 3, 4, 5, 6] []) z0 (qb_X13_rowFrom K (q_X13_rowFrom K k) L x2 x3 x4 x5 x6 x7 r1 t0 t1 t2 z)
    unfold qb_X13_rowFrom
    split
    · exact fb_X13_rowFrom_0 (fq_X13_rowFrom k) hz (h9_r1 (by decide))
    · exact fb_X13_rowFrom_1 (fq_X13_rowFrom k) hz (h9_r1 (by decide))
    · exact fb_X13_rowFrom_2 (fq_X13_rowFrom k) hz (h9_r1 (by decide))
    · exact fb_X13_rowFrom_3 (fq_X13_rowFrom k) hz (h9_r1 (by decide))
    · exact fb_X13_rowFrom_4 (fq_X13_rowFrom k) hz (h9_r1 (by decide))
    · exact fb_X13_rowFrom_5 (fq_X13_rowFrom k) hz (h9_r1 (by decide))
    · exact fb_X13_rowFrom_6 (fq_X13_rowFrom k) hz (h9_r1 (by decide))
    · exact fb_X13_rowFrom_7 (fq_X13_rowFrom k) hz (h9_r1 (by decide))
    · exact fb_X13_rowFrom_8 (fq_X13_rowFrom k) hz (h9_r1 (by decide))
    · exact fo_none
theorem ff_X13_rowFrom {K : Nat} {r1 : Nat} {x2 : Int32} {z : ow_MS} (hr1 : 1000 ≤ r1) : Fo id (pf [2, 3, 4, 5, 6] []) z (qe_X13_rowFrom K r1 x2 z) := fq_X13_rowFrom K 0 _ _ _ _ _ _ _ _ _ _ z fr_rf (fun _ => (by first | omega | decide))
theorem fb_X13_isBelow_0 {K : Nat} {z0 z : ow_MS}  {go : Nat → Int32 → Int32 → Int32 → Int32 → Nat → Nat → ow_MS → Option (Int32 × ow_MS)} {x1 : Int32} {x3 : Int32} {x4 : Int32} {x5 : Int32} {r0 : Nat} {r2 : Nat}  (hgo : ∀ (L : Nat) (x1 : Int32) (x3 : Int32) (x4 : Int32) (x5 : Int32) (r0 : Nat) (r2 : Nat) (z : ow_MS), fr (pf [] []) z0 z → Fo Prod.snd (pf [] []) z0 (go L x1 x3 x4 x5 r0 r2 z)) (hz : fr (pf [] []) z0 z)  : Fo Prod.snd (pf [] []) z0 (qm_X13_isBelow_0 K go x1 x3 x4 x5 r0 r2 z) := by
  unfold qm_X13_isBelow_0
  exact (fo_rdI (fun v1 => (fo_rdI (fun v2 => (hgo 1 _ _ _ _ _ _ z hz)))))
theorem fb_X13_isBelow_1 {K : Nat} {z0 z : ow_MS}  {go : Nat → Int32 → Int32 → Int32 → Int32 → Nat → Nat → ow_MS → Option (Int32 × ow_MS)} {x1 : Int32} {x3 : Int32} {x4 : Int32} {x5 : Int32} {r0 : Nat} {r2 : Nat}  (hgo : ∀ (L : Nat) (x1 : Int32) (x3 : Int32) (x4 : Int32) (x5 : Int32) (r0 : Nat) (r2 : Nat) (z : ow_MS), fr (pf [] []) z0 z → Fo Prod.snd (pf [] []) z0 (go L x1 x3 x4 x5 r0 r2 z)) (hz : fr (pf [] []) z0 z)  : Fo Prod.snd (pf [] []) z0 (qm_X13_isBelow_1 K go x1 x3 x4 x5 r0 r2 z) := by
  unfold qm_X13_isBelow_1
  exact (fo_if (fo_rdI (fun v3 => (fo_rdI (fun v4 => (fo_if (fo_okZ (fo_some hz)) (fo_okZ (fo_some hz))))))) (fo_rdI (fun v5 => (fo_rdI (fun v6 => (fo_if (hgo 1 _ _ _ _ _ _ z hz) (fo_rdI (fun v7 => (fo_rdI (fun v8 => (fo_if (fo_okZ (fo_some hz)) (fo_okZ (fo_some hz)))))))))))))
theorem fq_X13_isBelow {K : Nat} {z0 : ow_MS}   : ∀ (k L : Nat) (x1 : Int32) (x3 : Int32) (x4 : Int32) (x5 : Int32) (r0 : Nat) (r2 : Nat) (z : ow_MS), fr (pf [] []) z0 z → Fo Prod.snd (pf [] []) z0 (q_X13_isBelow K k L x1 x3 x4 x5 r0 r2 z)
  | 0 => by
    intros
    exact fo_none
  | k + 1 => by
    intro L x1 x3 x4 x5 r0 r2 z hz 
    show Fo Prod.snd (pf [] []) z0 (qb_X13_isBelow K (q_X13_isBelow K k) L x1 x3 x4 x5 r0 r2 z)
    unfold qb_X13_isBelow
    split
    · exact fb_X13_isBelow_0 (fq_X13_isBelow k) hz 
    · exact fb_X13_isBelow_1 (fq_X13_isBelow k) hz 
    · exact fo_none
theorem ff_X13_isBelow {K : Nat} {r0 : Nat} {x1 : Int32} {r2 : Nat} {x3 : Int32} {z : ow_MS}  : Fo Prod.snd (pf [] []) z (qe_X13_isBelow K r0 x1 r2 x3 z) := fq_X13_isBelow K 0 _ _ _ _ _ _ z fr_rf 
theorem fb_X13_leastOf_0 {K : Nat} {z0 z : ow_MS}  {go : Nat → Int32 → Int32 → Int32 → Int32 → Int32 → Nat → ow_MS → Option (Int32 × ow_MS)} {x2 : Int32} {x3 : Int32} {x4 : Int32} {x5 : Int32} {x6 : Int32} {r1 : Nat}  (hgo : ∀ (L : Nat) (x2 : Int32) (x3 : Int32) (x4 : Int32) (x5 : Int32) (x6 : Int32) (r1 : Nat) (z : ow_MS), fr (pf [2, 3, 4, 5, 6, 7] []) z0 z → (L = 0 ∨ L = 1 ∨ L = 2 ∨ L = 3 ∨ L = 4 → 1000 ≤ r1) → Fo Prod.snd (pf [2, 3, 4, 5, 6, 7] []) z0 (go L x2 x3 x4 x5 x6 r1 z)) (hz : fr (pf [2, 3, 4, 5, 6, 7] []) z0 z) (hr1 : 1000 ≤ r1) : Fo Prod.snd (pf [2, 3, 4, 5, 6, 7] []) z0 (qm_X13_leastOf_0 K go x2 x3 x4 x5 x6 r1 z) := by
  unfold qm_X13_leastOf_0
  exact (hgo 1 _ _ _ _ _ _ z hz (fun _ => (by first | omega | decide)))
theorem fb_X13_leastOf_1 {K : Nat} {z0 z : ow_MS}  {go : Nat → Int32 → Int32 → Int32 → Int32 → Int32 → Nat → ow_MS → Option (Int32 × ow_MS)} {x2 : Int32} {x3 : Int32} {x4 : Int32} {x5 : Int32} {x6 : Int32} {r1 : Nat}  (hgo : ∀ (L : Nat) (x2 : Int32) (x3 : Int32) (x4 : Int32) (x5 : Int32) (x6 : Int32) (r1 : Nat) (z : ow_MS), fr (pf [2, 3, 4, 5, 6, 7] []) z0 z → (L = 0 ∨ L = 1 ∨ L = 2 ∨ L = 3 ∨ L = 4 → 1000 ≤ r1) → Fo Prod.snd (pf [2, 3, 4, 5, 6, 7] []) z0 (go L x2 x3 x4 x5 x6 r1 z)) (hz : fr (pf [2, 3, 4, 5, 6, 7] []) z0 z) (hr1 : 1000 ≤ r1) : Fo Prod.snd (pf [2, 3, 4, 5, 6, 7] []) z0 (qm_X13_leastOf_1 K go x2 x3 x4 x5 x6 r1 z) := by
  unfold qm_X13_leastOf_1
  exact (fo_rdF (fun v1 => (fo_if (fo_some hz) (fo_rdI (fun v2 => (fo_rdI (fun v3 => (fo_if (fo_cs0 (ff_X13_rowFrom (by first | omega | decide)) (pf_sub (by decide) pf_0) hz (fun z4 h_z4 => (fo_if (hgo 2 _ _ _ _ _ _ z4 h_z4 (fun _ => (by first | omega | decide))) (fo_cs1 (ff_X13_isBelow) (pf_sub (by decide) pf_0) h_z4 (fun v6 z5 h_z5 => (fo_if (hgo 4 _ _ _ _ _ _ z5 h_z5 (fun _ => (by first | omega | decide))) (hgo 2 _ _ _ _ _ _ z5 h_z5 (fun _ => (by first | omega | decide))))))))) (hgo 4 _ _ _ _ _ _ z hz (fun _ => (by first | omega | decide)))))))))))
theorem fb_X13_leastOf_2 {K : Nat} {z0 z : ow_MS}  {go : Nat → Int32 → Int32 → Int32 → Int32 → Int32 → Nat → ow_MS → Option (Int32 × ow_MS)} {x2 : Int32} {x3 : Int32} {x4 : Int32} {x5 : Int32} {x6 : Int32} {r1 : Nat}  (hgo : ∀ (L : Nat) (x2 : Int32) (x3 : Int32) (x4 : Int32) (x5 : Int32) (x6 : Int32) (r1 : Nat) (z : ow_MS), fr (pf [2, 3, 4, 5, 6, 7] []) z0 z → (L = 0 ∨ L = 1 ∨ L = 2 ∨ L = 3 ∨ L = 4 → 1000 ≤ r1) → Fo Prod.snd (pf [2, 3, 4, 5, 6, 7] []) z0 (go L x2 x3 x4 x5 x6 r1 z)) (hz : fr (pf [2, 3, 4, 5, 6, 7] []) z0 z) (hr1 : 1000 ≤ r1) : Fo Prod.snd (pf [2, 3, 4, 5, 6, 7] []) z0 (qm_X13_leastOf_2 K go x2 x3 x4 x5 x6 r1 z) := by
  unfold qm_X13_leastOf_2
  exact (hgo 3 _ _ _ _ _ _ z hz (fun _ => (by first | omega | decide)))
theorem fb_X13_leastOf_3 {K : Nat} {z0 z : ow_MS}  {go : Nat → Int32 → Int32 → Int32 → Int32 → Int32 → Nat → ow_MS → Option (Int32 × ow_MS)} {x2 : Int32} {x3 : Int32} {x4 : Int32} {x5 : Int32} {x6 : Int32} {r1 : Nat}  (hgo : ∀ (L : Nat) (x2 : Int32) (x3 : Int32) (x4 : Int32) (x5 : Int32) (x6 : Int32) (r1 : Nat) (z : ow_MS), fr (pf [2, 3, 4, 5, 6, 7] []) z0 z → (L = 0 ∨ L = 1 ∨ L = 2 ∨ L = 3 ∨ L = 4 → 1000 ≤ r1) → Fo Prod.snd (pf [2, 3, 4, 5, 6, 7] []) z0 (go L x2 x3 x4 x5 x6 r1 z)) (hz : fr (pf [2, 3, 4, 5, 6, 7] []) z0 z) (hr1 : 1000 ≤ r1) : Fo Prod.snd (pf [2, 3, 4, 5, 6, 7] []) z0 (qm_X13_leastOf_3 K go x2 x3 x4 x5 x6 r1 z) := by
  unfold qm_X13_leastOf_3
  exact (fo_rdF (fun v7 => (fo_if (hgo 4 _ _ _ _ _ _ z hz (fun _ => (by first | omega | decide))) (fo_rdI (fun v8 => (fo_wrI (Or.inl (by decide)) hz (fun z9 h_z9 => (hgo 3 _ _ _ _ _ _ z9 h_z9 (fun _ => (by first | omega | decide))))))))))
theorem fb_X13_leastOf_4 {K : Nat} {z0 z : ow_MS}  {go : Nat → Int32 → Int32 → Int32 → Int32 → Int32 → Nat → ow_MS → Option (Int32 × ow_MS)} {x2 : Int32} {x3 : Int32} {x4 : Int32} {x5 : Int32} {x6 : Int32} {r1 : Nat}  (hgo : ∀ (L : Nat) (x2 : Int32) (x3 : Int32) (x4 : Int32) (x5 : Int32) (x6 : Int32) (r1 : Nat) (z : ow_MS), fr (pf [2, 3, 4, 5, 6, 7] []) z0 z → (L = 0 ∨ L = 1 ∨ L = 2 ∨ L = 3 ∨ L = 4 → 1000 ≤ r1) → Fo Prod.snd (pf [2, 3, 4, 5, 6, 7] []) z0 (go L x2 x3 x4 x5 x6 r1 z)) (hz : fr (pf [2, 3, 4, 5, 6, 7] []) z0 z) (hr1 : 1000 ≤ r1) : Fo Prod.snd (pf [2, 3, 4, 5, 6, 7] []) z0 (qm_X13_leastOf_4 K go x2 x3 x4 x5 x6 r1 z) := by
  unfold qm_X13_leastOf_4
  exact (hgo 1 _ _ _ _ _ _ z hz (fun _ => (by first | omega | decide)))
theorem fq_X13_leastOf {K : Nat} {z0 : ow_MS}   : ∀ (k L : Nat) (x2 : Int32) (x3 : Int32) (x4 : Int32) (x5 : Int32) (x6 : Int32) (r1 : Nat) (z : ow_MS), fr (pf [2, 3, 4, 5, 6, 7] []) z0 z → (L = 0 ∨ L = 1 ∨ L = 2 ∨ L = 3 ∨ L = 4 → 1000 ≤ r1) → Fo Prod.snd (pf [2, 3, 4, 5, 6, 7] []) z0 (q_X13_leastOf K k L x2 x3 x4 x5 x6 r1 z)
  | 0 => by
    intros
    exact fo_none
  | k + 1 => by
    intro L x2 x3 x4 x5 x6 r1 z hz h9_r1
    show Fo Prod.snd (pf [2, 3, 4, 5, 6, 7] []) z0 (qb_X13_leastOf K (q_X13_leastOf K k) L x2 x3 x4 x5 x6 r1 z)
    unfold qb_X13_leastOf
    split
    · exact fb_X13_leastOf_0 (fq_X13_leastOf k) hz (h9_r1 (by decide))
    · exact fb_X13_leastOf_1 (fq_X13_leastOf k) hz (h9_r1 (by decide))
    · exact fb_X13_leastOf_2 (fq_X13_leastOf k) hz (h9_r1 (by decide))
    · exact fb_X13_leastOf_3 (fq_X13_leastOf k) hz (h9_r1 (by decide))
    · exact fb_X13_leastOf_4 (fq_X13_leastOf k) hz (h9_r1 (by decide))
    · exact fo_none
theorem ff_X13_leastOf {K : Nat} {r1 : Nat} {x2 : Int32} {x3 : Int32} {z : ow_MS} (hr1 : 1000 ≤ r1) : Fo Prod.snd (pf [2, 3, 4, 5, 6, 7] []) z (qe_X13_leastOf K r1 x2 x3 z) := fq_X13_leastOf K 0 _ _ _ _ _ _ z fr_rf (fun _ => (by first | omega | decide))
theorem fb_X13_pack_0 {K : Nat} {z0 z : ow_MS} {pr2 : Nat} {go : Nat → Int32 → Int32 → Int32 → Int32 → Int32 → Int32 → Int32 → Int32 → Int32 → Nat → Nat → Int32 → Int32 → ow_MS → Option ow_MS} {x3 : Int32} {x4 : Int32} {x5 : Int32} {x6 : Int32} {x7 : Int32} {x8 : Int32} {x9 : Int32} {x10 : Int32} {x11 : Int32} {r1 : Nat} {r2 : Nat} {t0 : Int32} {t1 : Int32}  (hgo : ∀ (L : Nat) (x3 : Int32) (x4 : Int32) (x5 : Int32) (x6 : Int32) (x7 : Int32) (x8 : Int32) (x9 : Int32) (x10 : Int32) (x11 : Int32) (r1 : Nat) (r2 : Nat) (t0 : Int32) (t1 : Int32) (z : ow_MS), fr (pf [2, 3, 4, 5, 6, 7, 8, 9] [pr2]) z0 z → (L = 0 ∨ L = 1 ∨ L = 2 ∨ L = 3 ∨ L = 4 ∨ L = 5 ∨ L = 6 ∨ L = 7 ∨ L = 8 ∨ L = 9 → 1000 ≤ r1) → (L = 0 ∨ L = 1 ∨ L = 2 ∨ L = 3 ∨ L = 4 ∨ L = 5 ∨ L = 6 ∨ L = 7 ∨ L = 8 ∨ L = 9 → r2 = pr2) → Fo id (pf [2, 3, 4, 5, 6, 7, 8, 9] [pr2]) z0 (go L x3 x4 x5 x6 x7 x8 x9 x10 x11 r1 r2 t0 t1 z)) (hz : fr (pf [2, 3, 4, 5, 6, 7, 8, 9] [pr2]) z0 z) (hr1 : 1000 ≤ r1) (e_r2 : r2 = pr2) : Fo id (pf [2, 3, 4, 5, 6, 7, 8, 9] [pr2]) z0 (qm_X13_pack_0 K go x3 x4 x5 x6 x7 x8 x9 x10 x11 r1 r2 t0 t1 z) := by
  unfold qm_X13_pack_0
  exact (fo_cs0 (ff_X12_link (by first | omega | decide)) (pf_sub (by decide) pf_0) hz (fun z1 h_z1 => (fo_cs0 (ff_X12_split (by first | omega | decide)) (pf_sub (by decide) pf_0) h_z1 (fun z2 h_z2 => (hgo 1 _ _ _ _ _ _ _ _ _ _ _ _ _ z2 h_z2 (fun _ => (by first | omega | decide)) (fun _ => e_r2))))))
theorem fb_X13_pack_1 {K : Nat} {z0 z : ow_MS} {pr2 : Nat} {go : Nat → Int32 → Int32 → Int32 → Int32 → Int32 → Int32 → Int32 → Int32 → Int32 → Nat → Nat → Int32 → Int32 → ow_MS → Option ow_MS} {x3 : Int32} {x4 : Int32} {x5 : Int32} {x6 : Int32} {x7 : Int32} {x8 : Int32} {x9 : Int32} {x10 : Int32} {x11 : Int32} {r1 : Nat} {r2 : Nat} {t0 : Int32} {t1 : Int32}  (hgo : ∀ (L : Nat) (x3 : Int32) (x4 : Int32) (x5 : Int32) (x6 : Int32) (x7 : Int32) (x8 : Int32) (x9 : Int32) (x10 : Int32) (x11 : Int32) (r1 : Nat) (r2 : Nat) (t0 : Int32) (t1 : Int32) (z : ow_MS), fr (pf [2, 3, 4, 5, 6, 7, 8, 9] [pr2]) z0 z → (L = 0 ∨ L = 1 ∨ L = 2 ∨ L = 3 ∨ L = 4 ∨ L = 5 ∨ L = 6 ∨ L = 7 ∨ L = 8 ∨ L = 9 → 1000 ≤ r1) → (L = 0 ∨ L = 1 ∨ L = 2 ∨ L = 3 ∨ L = 4 ∨ L = 5 ∨ L = 6 ∨ L = 7 ∨ L = 8 ∨ L = 9 → r2 = pr2) → Fo id (pf [2, 3, 4, 5, 6, 7, 8, 9] [pr2]) z0 (go L x3 x4 x5 x6 x7 x8 x9 x10 x11 r1 r2 t0 t1 z)) (hz : fr (pf [2, 3, 4, 5, 6, 7, 8, 9] [pr2]) z0 z) (hr1 : 1000 ≤ r1) (e_r2 : r2 = pr2) : Fo id (pf [2, 3, 4, 5, 6, 7, 8, 9] [pr2]) z0 (qm_X13_pack_1 K go x3 x4 x5 x6 x7 x8 x9 x10 x11 r1 r2 t0 t1 z) := by
  unfold qm_X13_pack_1
  exact (fo_rdF (fun v3 => (fo_if (hgo 3 _ _ _ _ _ _ _ _ _ _ _ _ _ z hz (fun _ => (by first | omega | decide)) (fun _ => e_r2)) (fo_cs1 (ff_X13_leastOf (by first | omega | decide)) (pf_sub (by decide) pf_0) hz (fun v5 z4 h_z4 => (fo_if (hgo 2 _ _ _ _ _ _ _ _ _ _ _ _ _ z4 h_z4 (fun _ => (by first | omega | decide)) (fun _ => e_r2)) (fo_wrI (Or.inl (by decide)) h_z4 (fun z6 h_z6 => (fo_wrZ (Or.inl (by decide)) h_z6 (fun z7 h_z7 => (hgo 2 _ _ _ _ _ _ _ _ _ _ _ _ _ z7 h_z7 (fun _ => (by first | omega | decide)) (fun _ => e_r2))))))))))))
theorem fb_X13_pack_2 {K : Nat} {z0 z : ow_MS} {pr2 : Nat} {go : Nat → Int32 → Int32 → Int32 → Int32 → Int32 → Int32 → Int32 → Int32 → Int32 → Nat → Nat → Int32 → Int32 → ow_MS → Option ow_MS} {x3 : Int32} {x4 : Int32} {x5 : Int32} {x6 : Int32} {x7 : Int32} {x8 : Int32} {x9 : Int32} {x10 : Int32} {x11 : Int32} {r1 : Nat} {r2 : Nat} {t0 : Int32} {t1 : Int32}  (hgo : ∀ (L : Nat) (x3 : Int32) (x4 : Int32) (x5 : Int32) (x6 : Int32) (x7 : Int32) (x8 : Int32) (x9 : Int32) (x10 : Int32) (x11 : Int32) (r1 : Nat) (r2 : Nat) (t0 : Int32) (t1 : Int32) (z : ow_MS), fr (pf [2, 3, 4, 5, 6, 7, 8, 9] [pr2]) z0 z → (L = 0 ∨ L = 1 ∨ L = 2 ∨ L = 3 ∨ L = 4 ∨ L = 5 ∨ L = 6 ∨ L = 7 ∨ L = 8 ∨ L = 9 → 1000 ≤ r1) → (L = 0 ∨ L = 1 ∨ L = 2 ∨ L = 3 ∨ L = 4 ∨ L = 5 ∨ L = 6 ∨ L = 7 ∨ L = 8 ∨ L = 9 → r2 = pr2) → Fo id (pf [2, 3, 4, 5, 6, 7, 8, 9] [pr2]) z0 (go L x3 x4 x5 x6 x7 x8 x9 x10 x11 r1 r2 t0 t1 z)) (hz : fr (pf [2, 3, 4, 5, 6, 7, 8, 9] [pr2]) z0 z) (hr1 : 1000 ≤ r1) (e_r2 : r2 = pr2) : Fo id (pf [2, 3, 4, 5, 6, 7, 8, 9] [pr2]) z0 (qm_X13_pack_2 K go x3 x4 x5 x6 x7 x8 x9 x10 x11 r1 r2 t0 t1 z) := by
  unfold qm_X13_pack_2
  exact (hgo 1 _ _ _ _ _ _ _ _ _ _ _ _ _ z hz (fun _ => (by first | omega | decide)) (fun _ => e_r2))
theorem fb_X13_pack_3 {K : Nat} {z0 z : ow_MS} {pr2 : Nat} {go : Nat → Int32 → Int32 → Int32 → Int32 → Int32 → Int32 → Int32 → Int32 → Int32 → Nat → Nat → Int32 → Int32 → ow_MS → Option ow_MS} {x3 : Int32} {x4 : Int32} {x5 : Int32} {x6 : Int32} {x7 : Int32} {x8 : Int32} {x9 : Int32} {x10 : Int32} {x11 : Int32} {r1 : Nat} {r2 : Nat} {t0 : Int32} {t1 : Int32}  (hgo : ∀ (L : Nat) (x3 : Int32) (x4 : Int32) (x5 : Int32) (x6 : Int32) (x7 : Int32) (x8 : Int32) (x9 : Int32) (x10 : Int32) (x11 : Int32) (r1 : Nat) (r2 : Nat) (t0 : Int32) (t1 : Int32) (z : ow_MS), fr (pf [2, 3, 4, 5, 6, 7, 8, 9] [pr2]) z0 z → (L = 0 ∨ L = 1 ∨ L = 2 ∨ L = 3 ∨ L = 4 ∨ L = 5 ∨ L = 6 ∨ L = 7 ∨ L = 8 ∨ L = 9 → 1000 ≤ r1) → (L = 0 ∨ L = 1 ∨ L = 2 ∨ L = 3 ∨ L = 4 ∨ L = 5 ∨ L = 6 ∨ L = 7 ∨ L = 8 ∨ L = 9 → r2 = pr2) → Fo id (pf [2, 3, 4, 5, 6, 7, 8, 9] [pr2]) z0 (go L x3 x4 x5 x6 x7 x8 x9 x10 x11 r1 r2 t0 t1 z)) (hz : fr (pf [2, 3, 4, 5, 6, 7, 8, 9] [pr2]) z0 z) (hr1 : 1000 ≤ r1) (e_r2 : r2 = pr2) : Fo id (pf [2, 3, 4, 5, 6, 7, 8, 9] [pr2]) z0 (qm_X13_pack_3 K go x3 x4 x5 x6 x7 x8 x9 x10 x11 r1 r2 t0 t1 z) := by
  unfold qm_X13_pack_3
  exact (fo_if (hgo 9 _ _ _ _ _ _ _ _ _ _ _ _ _ z hz (fun _ => (by first | omega | decide)) (fun _ => e_r2)) (hgo 4 _ _ _ _ _ _ _ _ _ _ _ _ _ z hz (fun _ => (by first | omega | decide)) (fun _ => e_r2)))
theorem fb_X13_pack_4 {K : Nat} {z0 z : ow_MS} {pr2 : Nat} {go : Nat → Int32 → Int32 → Int32 → Int32 → Int32 → Int32 → Int32 → Int32 → Int32 → Nat → Nat → Int32 → Int32 → ow_MS → Option ow_MS} {x3 : Int32} {x4 : Int32} {x5 : Int32} {x6 : Int32} {x7 : Int32} {x8 : Int32} {x9 : Int32} {x10 : Int32} {x11 : Int32} {r1 : Nat} {r2 : Nat} {t0 : Int32} {t1 : Int32}  (hgo : ∀ (L : Nat) (x3 : Int32) (x4 : Int32) (x5 : Int32) (x6 : Int32) (x7 : Int32) (x8 : Int32) (x9 : Int32) (x10 : Int32) (x11 : Int32) (r1 : Nat) (r2 : Nat) (t0 : Int32) (t1 : Int32) (z : ow_MS), fr (pf [2, 3, 4, 5, 6, 7, 8, 9] [pr2]) z0 z → (L = 0 ∨ L = 1 ∨ L = 2 ∨ L = 3 ∨ L = 4 ∨ L = 5 ∨ L = 6 ∨ L = 7 ∨ L = 8 ∨ L = 9 → 1000 ≤ r1) → (L = 0 ∨ L = 1 ∨ L = 2 ∨ L = 3 ∨ L = 4 ∨ L = 5 ∨ L = 6 ∨ L = 7 ∨ L = 8 ∨ L = 9 → r2 = pr2) → Fo id (pf [2, 3, 4, 5, 6, 7, 8, 9] [pr2]) z0 (go L x3 x4 x5 x6 x7 x8 x9 x10 x11 r1 r2 t0 t1 z)) (hz : fr (pf [2, 3, 4, 5, 6, 7, 8, 9] [pr2]) z0 z) (hr1 : 1000 ≤ r1) (e_r2 : r2 = pr2) : Fo id (pf [2, 3, 4, 5, 6, 7, 8, 9] [pr2]) z0 (qm_X13_pack_4 K go x3 x4 x5 x6 x7 x8 x9 x10 x11 r1 r2 t0 t1 z) := by
  unfold qm_X13_pack_4
  exact (fo_if (fo_wrZ (Or.inl (by decide)) hz (fun z8 h_z8 => (hgo 7 _ _ _ _ _ _ _ _ _ _ _ _ _ z8 h_z8 (fun _ => (by first | omega | decide)) (fun _ => e_r2)))) (fo_rdI (fun v9 => (fo_if (fo_if (hgo 5 _ _ _ _ _ _ _ _ _ _ _ _ _ z hz (fun _ => (by first | omega | decide)) (fun _ => e_r2)) (fo_rdI (fun v10 => (fo_rdI (fun v11 => (fo_if (hgo 5 _ _ _ _ _ _ _ _ _ _ _ _ _ z hz (fun _ => (by first | omega | decide)) (fun _ => e_r2)) (fo_rdI (fun v12 => (fo_rdI (fun v13 => (fo_if (fo_cs1 (ff_X13_isBelow) (pf_sub (by decide) pf_0) hz (fun v15 z14 h_z14 => (fo_if (hgo 6 _ _ _ _ _ _ _ _ _ _ _ _ _ z14 h_z14 (fun _ => (by first | omega | decide)) (fun _ => e_r2)) (hgo 5 _ _ _ _ _ _ _ _ _ _ _ _ _ z14 h_z14 (fun _ => (by first | omega | decide)) (fun _ => e_r2))))) (hgo 6 _ _ _ _ _ _ _ _ _ _ _ _ _ z hz (fun _ => (by first | omega | decide)) (fun _ => e_r2))))))))))))) (hgo 6 _ _ _ _ _ _ _ _ _ _ _ _ _ z hz (fun _ => (by first | omega | decide)) (fun _ => e_r2))))))
theorem fb_X13_pack_5 {K : Nat} {z0 z : ow_MS} {pr2 : Nat} {go : Nat → Int32 → Int32 → Int32 → Int32 → Int32 → Int32 → Int32 → Int32 → Int32 → Nat → Nat → Int32 → Int32 → ow_MS → Option ow_MS} {x3 : Int32} {x4 : Int32} {x5 : Int32} {x6 : Int32} {x7 : Int32} {x8 : Int32} {x9 : Int32} {x10 : Int32} {x11 : Int32} {r1 : Nat} {r2 : Nat} {t0 : Int32} {t1 : Int32}  (hgo : ∀ (L : Nat) (x3 : Int32) (x4 : Int32) (x5 : Int32) (x6 : Int32) (x7 : Int32) (x8 : Int32) (x9 : Int32) (x10 : Int32) (x11 : Int32) (r1 : Nat) (r2 : Nat) (t0 : Int32) (t1 : Int32) (z : ow_MS), fr (pf [2, 3, 4, 5, 6, 7, 8, 9] [pr2]) z0 z → (L = 0 ∨ L = 1 ∨ L = 2 ∨ L = 3 ∨ L = 4 ∨ L = 5 ∨ L = 6 ∨ L = 7 ∨ L = 8 ∨ L = 9 → 1000 ≤ r1) → (L = 0 ∨ L = 1 ∨ L = 2 ∨ L = 3 ∨ L = 4 ∨ L = 5 ∨ L = 6 ∨ L = 7 ∨ L = 8 ∨ L = 9 → r2 = pr2) → Fo id (pf [2, 3, 4, 5, 6, 7, 8, 9] [pr2]) z0 (go L x3 x4 x5 x6 x7 x8 x9 x10 x11 r1 r2 t0 t1 z)) (hz : fr (pf [2, 3, 4, 5, 6, 7, 8, 9] [pr2]) z0 z) (hr1 : 1000 ≤ r1) (e_r2 : r2 = pr2) : Fo id (pf [2, 3, 4, 5, 6, 7, 8, 9] [pr2]) z0 (qm_X13_pack_5 K go x3 x4 x5 x6 x7 x8 x9 x10 x11 r1 r2 t0 t1 z) := by
  unfold qm_X13_pack_5
  exact (hgo 6 _ _ _ _ _ _ _ _ _ _ _ _ _ z hz (fun _ => (by first | omega | decide)) (fun _ => e_r2))
theorem fb_X13_pack_6 {K : Nat} {z0 z : ow_MS} {pr2 : Nat} {go : Nat → Int32 → Int32 → Int32 → Int32 → Int32 → Int32 → Int32 → Int32 → Int32 → Nat → Nat → Int32 → Int32 → ow_MS → Option ow_MS} {x3 : Int32} {x4 : Int32} {x5 : Int32} {x6 : Int32} {x7 : Int32} {x8 : Int32} {x9 : Int32} {x10 : Int32} {x11 : Int32} {r1 : Nat} {r2 : Nat} {t0 : Int32} {t1 : Int32}  (hgo : ∀ (L : Nat) (x3 : Int32) (x4 : Int32) (x5 : Int32) (x6 : Int32) (x7 : Int32) (x8 : Int32) (x9 : Int32) (x10 : Int32) (x11 : Int32) (r1 : Nat) (r2 : Nat) (t0 : Int32) (t1 : Int32) (z : ow_MS), fr (pf [2, 3, 4, 5, 6, 7, 8, 9] [pr2]) z0 z → (L = 0 ∨ L = 1 ∨ L = 2 ∨ L = 3 ∨ L = 4 ∨ L = 5 ∨ L = 6 ∨ L = 7 ∨ L = 8 ∨ L = 9 → 1000 ≤ r1) → (L = 0 ∨ L = 1 ∨ L = 2 ∨ L = 3 ∨ L = 4 ∨ L = 5 ∨ L = 6 ∨ L = 7 ∨ L = 8 ∨ L = 9 → r2 = pr2) → Fo id (pf [2, 3, 4, 5, 6, 7, 8, 9] [pr2]) z0 (go L x3 x4 x5 x6 x7 x8 x9 x10 x11 r1 r2 t0 t1 z)) (hz : fr (pf [2, 3, 4, 5, 6, 7, 8, 9] [pr2]) z0 z) (hr1 : 1000 ≤ r1) (e_r2 : r2 = pr2) : Fo id (pf [2, 3, 4, 5, 6, 7, 8, 9] [pr2]) z0 (qm_X13_pack_6 K go x3 x4 x5 x6 x7 x8 x9 x10 x11 r1 r2 t0 t1 z) := by
  unfold qm_X13_pack_6
  exact (hgo 4 _ _ _ _ _ _ _ _ _ _ _ _ _ z hz (fun _ => (by first | omega | decide)) (fun _ => e_r2))
theorem fb_X13_pack_7 {K : Nat} {z0 z : ow_MS} {pr2 : Nat} {go : Nat → Int32 → Int32 → Int32 → Int32 → Int32 → Int32 → Int32 → Int32 → Int32 → Nat → Nat → Int32 → Int32 → ow_MS → Option ow_MS} {x3 : Int32} {x4 : Int32} {x5 : Int32} {x6 : Int32} {x7 : Int32} {x8 : Int32} {x9 : Int32} {x10 : Int32} {x11 : Int32} {r1 : Nat} {r2 : Nat} {t0 : Int32} {t1 : Int32}  (hgo : ∀ (L : Nat) (x3 : Int32) (x4 : Int32) (x5 : Int32) (x6 : Int32) (x7 : Int32) (x8 : Int32) (x9 : Int32) (x10 : Int32) (x11 : Int32) (r1 : Nat) (r2 : Nat) (t0 : Int32) (t1 : Int32) (z : ow_MS), fr (pf [2, 3, 4, 5, 6, 7, 8, 9] [pr2]) z0 z → (L = 0 ∨ L = 1 ∨ L = 2 ∨ L = 3 ∨ L = 4 ∨ L = 5 ∨ L = 6 ∨ L = 7 ∨ L = 8 ∨ L = 9 → 1000 ≤ r1) → (L = 0 ∨ L = 1 ∨ L = 2 ∨ L = 3 ∨ L = 4 ∨ L = 5 ∨ L = 6 ∨ L = 7 ∨ L = 8 ∨ L = 9 → r2 = pr2) → Fo id (pf [2, 3, 4, 5, 6, 7, 8, 9] [pr2]) z0 (go L x3 x4 x5 x6 x7 x8 x9 x10 x11 r1 r2 t0 t1 z)) (hz : fr (pf [2, 3, 4, 5, 6, 7, 8, 9] [pr2]) z0 z) (hr1 : 1000 ≤ r1) (e_r2 : r2 = pr2) : Fo id (pf [2, 3, 4, 5, 6, 7, 8, 9] [pr2]) z0 (qm_X13_pack_7 K go x3 x4 x5 x6 x7 x8 x9 x10 x11 r1 r2 t0 t1 z) := by
  unfold qm_X13_pack_7
  exact (fo_rdI (fun v16 => (fo_if (fo_rdI (fun v17 => (fo_nzI (hgo 3 _ _ _ _ _ _ _ _ _ _ _ _ _ z hz (fun _ => (by first | omega | decide)) (fun _ => e_r2))))) (fo_rdI (fun v18 => (fo_if (hgo 8 _ _ _ _ _ _ _ _ _ _ _ _ _ z hz (fun _ => (by first | omega | decide)) (fun _ => e_r2)) (hgo 8 _ _ _ _ _ _ _ _ _ _ _ _ _ z hz (fun _ => (by first | omega | decide)) (fun _ => e_r2))))))))
theorem fb_X13_pack_8 {K : Nat} {z0 z : ow_MS} {pr2 : Nat} {go : Nat → Int32 → Int32 → Int32 → Int32 → Int32 → Int32 → Int32 → Int32 → Int32 → Nat → Nat → Int32 → Int32 → ow_MS → Option ow_MS} {x3 : Int32} {x4 : Int32} {x5 : Int32} {x6 : Int32} {x7 : Int32} {x8 : Int32} {x9 : Int32} {x10 : Int32} {x11 : Int32} {r1 : Nat} {r2 : Nat} {t0 : Int32} {t1 : Int32}  (hgo : ∀ (L : Nat) (x3 : Int32) (x4 : Int32) (x5 : Int32) (x6 : Int32) (x7 : Int32) (x8 : Int32) (x9 : Int32) (x10 : Int32) (x11 : Int32) (r1 : Nat) (r2 : Nat) (t0 : Int32) (t1 : Int32) (z : ow_MS), fr (pf [2, 3, 4, 5, 6, 7, 8, 9] [pr2]) z0 z → (L = 0 ∨ L = 1 ∨ L = 2 ∨ L = 3 ∨ L = 4 ∨ L = 5 ∨ L = 6 ∨ L = 7 ∨ L = 8 ∨ L = 9 → 1000 ≤ r1) → (L = 0 ∨ L = 1 ∨ L = 2 ∨ L = 3 ∨ L = 4 ∨ L = 5 ∨ L = 6 ∨ L = 7 ∨ L = 8 ∨ L = 9 → r2 = pr2) → Fo id (pf [2, 3, 4, 5, 6, 7, 8, 9] [pr2]) z0 (go L x3 x4 x5 x6 x7 x8 x9 x10 x11 r1 r2 t0 t1 z)) (hz : fr (pf [2, 3, 4, 5, 6, 7, 8, 9] [pr2]) z0 z) (hr1 : 1000 ≤ r1) (e_r2 : r2 = pr2) : Fo id (pf [2, 3, 4, 5, 6, 7, 8, 9] [pr2]) z0 (qm_X13_pack_8 K go x3 x4 x5 x6 x7 x8 x9 x10 x11 r1 r2 t0 t1 z) := by
  unfold qm_X13_pack_8
  exact (fo_wrI (Or.inr (Or.inl (by rw [e_r2]; simp))) hz (fun z19 h_z19 => (hgo 7 _ _ _ _ _ _ _ _ _ _ _ _ _ z19 h_z19 (fun _ => (by first | omega | decide)) (fun _ => e_r2))))
theorem fb_X13_pack_9 {K : Nat} {z0 z : ow_MS} {pr2 : Nat} {go : Nat → Int32 → Int32 → Int32 → Int32 → Int32 → Int32 → Int32 → Int32 → Int32 → Nat → Nat → Int32 → Int32 → ow_MS → Option ow_MS} {x3 : Int32} {x4 : Int32} {x5 : Int32} {x6 : Int32} {x7 : Int32} {x8 : Int32} {x9 : Int32} {x10 : Int32} {x11 : Int32} {r1 : Nat} {r2 : Nat} {t0 : Int32} {t1 : Int32}  (hgo : ∀ (L : Nat) (x3 : Int32) (x4 : Int32) (x5 : Int32) (x6 : Int32) (x7 : Int32) (x8 : Int32) (x9 : Int32) (x10 : Int32) (x11 : Int32) (r1 : Nat) (r2 : Nat) (t0 : Int32) (t1 : Int32) (z : ow_MS), fr (pf [2, 3, 4, 5, 6, 7, 8, 9] [pr2]) z0 z → (L = 0 ∨ L = 1 ∨ L = 2 ∨ L = 3 ∨ L = 4 ∨ L = 5 ∨ L = 6 ∨ L = 7 ∨ L = 8 ∨ L = 9 → 1000 ≤ r1) → (L = 0 ∨ L = 1 ∨ L = 2 ∨ L = 3 ∨ L = 4 ∨ L = 5 ∨ L = 6 ∨ L = 7 ∨ L = 8 ∨ L = 9 → r2 = pr2) → Fo id (pf [2, 3, 4, 5, 6, 7, 8, 9] [pr2]) z0 (go L x3 x4 x5 x6 x7 x8 x9 x10 x11 r1 r2 t0 t1 z)) (hz : fr (pf [2, 3, 4, 5, 6, 7, 8, 9] [pr2]) z0 z) (hr1 : 1000 ≤ r1) (e_r2 : r2 = pr2) : Fo id (pf [2, 3, 4, 5, 6, 7, 8, 9] [pr2]) z0 (qm_X13_pack_9 K go x3 x4 x5 x6 x7 x8 x9 x10 x11 r1 r2 t0 t1 z) := by
  unfold qm_X13_pack_9
  exact (fo_if (fo_wrI (Or.inr (Or.inl (by rw [e_r2]; simp))) hz (fun z20 h_z20 => (fo_some h_z20))) (fo_wrI (Or.inr (Or.inl (by rw [e_r2]; simp))) hz (fun z21 h_z21 => (hgo 9 _ _ _ _ _ _ _ _ _ _ _ _ _ z21 h_z21 (fun _ => (by first | omega | decide)) (fun _ => e_r2)))))
theorem fq_X13_pack {K : Nat} {z0 : ow_MS} {pr2 : Nat}  : ∀ (k L : Nat) (x3 : Int32) (x4 : Int32) (x5 : Int32) (x6 : Int32) (x7 : Int32) (x8 : Int32) (x9 : Int32) (x10 : Int32) (x11 : Int32) (r1 : Nat) (r2 : Nat) (t0 : Int32) (t1 : Int32) (z : ow_MS), fr (pf [2, 3, 4, 5, 6, 7, 8, 9] [pr2]) z0 z → (L = 0 ∨ L = 1 ∨ L = 2 ∨ L = 3 ∨ L = 4 ∨ L = 5 ∨ L = 6 ∨ L = 7 ∨ L = 8 ∨ L = 9 → 1000 ≤ r1) → (L = 0 ∨ L = 1 ∨ L = 2 ∨ L = 3 ∨ L = 4 ∨ L = 5 ∨ L = 6 ∨ L = 7 ∨ L = 8 ∨ L = 9 → r2 = pr2) → Fo id (pf [2, 3, 4, 5, 6, 7, 8, 9] [pr2]) z0 (q_X13_pack K k L x3 x4 x5 x6 x7 x8 x9 x10 x11 r1 r2 t0 t1 z)
  | 0 => by
    intros
    exact fo_none
  | k + 1 => by
    intro L x3 x4 x5 x6 x7 x8 x9 x10 x11 r1 r2 t0 t1 z hz h9_r1 h9_r2
    show Fo id (pf [2, 3, 4, 5, 6, 7, 8, 9] [pr2]) z0 (qb_X13_pack K (q_X13_pack K k) L x3 x4 x5 x6 x7 x8 x9 x10 x11 r1 r2 t0 t1 z)
    unfold qb_X13_pack
    split
    · exact fb_X13_pack_0 (fq_X13_pack k) hz (h9_r1 (by decide)) (h9_r2 (by decide))
    · exact fb_X13_pack_1 (fq_X13_pack k) hz (h9_r1 (by decide)) (h9_r2 (by decide))
    · exact fb_X13_pack_2 (fq_X13_pack k) hz (h9_r1 (by decide)) (h9_r2 (by decide))
    · exact fb_X13_pack_3 (fq_X13_pack k) hz (h9_r1 (by decide)) (h9_r2 (by decide))
    · exact fb_X13_pack_4 (fq_X13_pack k) hz (h9_r1 (by decide)) (h9_r2 (by decide))
    · exact fb_X13_pack_5 (fq_X13_pack k) hz (h9_r1 (by decide)) (h9_r2 (by decide))
    · exact fb_X13_pack_6 (fq_X13_pack k) hz (h9_r1 (by decide)) (h9_r2 (by decide))
    · exact fb_X13_pack_7 (fq_X13_pack k) hz (h9_r1 (by decide)) (h9_r2 (by decide))
    · exact fb_X13_pack_8 (fq_X13_pack k) hz (h9_r1 (by decide)) (h9_r2 (by decide))
    · exact fb_X13_pack_9 (fq_X13_pack k) hz (h9_r1 (by decide)) (h9_r2 (by decide))
    · exact fo_none
theorem ff_X13_pack {K : Nat} {r1 : Nat} {r2 : Nat} {x3 : Int32} {z : ow_MS} (hr1 : 1000 ≤ r1) : Fo id (pf [2, 3, 4, 5, 6, 7, 8, 9] [r2]) z (qe_X13_pack K r1 r2 x3 z) := fq_X13_pack (pr2 := r2) K 0 _ _ _ _ _ _ _ _ _ _ _ _ _ z fr_rf (fun _ => (by first | omega | decide)) (fun _ => rfl)
theorem ff_X13_keep {K : Nat} {z : ow_MS}  : Fo Prod.snd (pf [2, 3, 4, 5, 6, 7, 8, 9, 12] []) z (qe_X13_keep K z) := by
  unfold qe_X13_keep qm_X13_keep_0
  exact (fo_cs1 (ff_X13_free) (pf_sub (by decide) pf_0) fr_rf (fun v2 z1 h_z1 => (fo_cs0 (ff_X13_pack (by first | omega | decide)) (pf_sub (by decide) (pf_1 (Or.inl (by decide)))) h_z1 (fun z3 h_z3 => (fo_some h_z3)))))
theorem ff_X13_diagram {K : Nat} {z : ow_MS}  : Fo Prod.snd (pf [1, 2, 3, 4, 5, 6, 7, 8, 9, 11, 12, 16, 17, 18, 19] []) z (qe_X13_diagram K z) := by
  unfold qe_X13_diagram qm_X13_diagram_0
  exact (fo_wrF (Or.inl (by decide)) fr_rf (fun z1 h_z1 => (fo_cs1 (ff_X13_free) (pf_sub (by decide) pf_0) h_z1 (fun v3 z2 h_z2 => (fo_if (fo_cs1 (ff_X13_fails) (pf_sub (by decide) pf_0) h_z2 (fun v10 z9 h_z9 => (fo_some h_z9))) (fo_cs1 (ff_X13_read) (pf_sub (by decide) pf_0) h_z2 (fun v5 z4 h_z4 => (fo_wrF (Or.inl (by decide)) h_z4 (fun z6 h_z6 => (fo_if (fo_cs1 (ff_X13_keep) (pf_sub (by decide) pf_0) h_z6 (fun v8 z7 h_z7 => (fo_some h_z7))) (fo_some h_z6)))))))))))
theorem fb_X13_freeBraid_0 {K : Nat} {z0 z : ow_MS}  {go : Nat → Int32 → ow_MS → Option (Int32 × ow_MS)} {x1 : Int32}  (hgo : ∀ (L : Nat) (x1 : Int32) (z : ow_MS), fr (pf [] []) z0 z → Fo Prod.snd (pf [] []) z0 (go L x1 z)) (hz : fr (pf [] []) z0 z)  : Fo Prod.snd (pf [] []) z0 (qm_X13_freeBraid_0 K go x1 z) := by
  unfold qm_X13_freeBraid_0
  exact (hgo 1 _ z hz)
theorem fb_X13_freeBraid_1 {K : Nat} {z0 z : ow_MS}  {go : Nat → Int32 → ow_MS → Option (Int32 × ow_MS)} {x1 : Int32}  (hgo : ∀ (L : Nat) (x1 : Int32) (z : ow_MS), fr (pf [] []) z0 z → Fo Prod.snd (pf [] []) z0 (go L x1 z)) (hz : fr (pf [] []) z0 z)  : Fo Prod.snd (pf [] []) z0 (qm_X13_freeBraid_1 K go x1 z) := by
  unfold qm_X13_freeBraid_1
  exact (fo_if (hgo 2 _ z hz) (fo_rdI (fun v1 => (fo_if (hgo 2 _ z hz) (hgo 1 _ z hz)))))
theorem fb_X13_freeBraid_2 {K : Nat} {z0 z : ow_MS}  {go : Nat → Int32 → ow_MS → Option (Int32 × ow_MS)} {x1 : Int32}  (hgo : ∀ (L : Nat) (x1 : Int32) (z : ow_MS), fr (pf [] []) z0 z → Fo Prod.snd (pf [] []) z0 (go L x1 z)) (hz : fr (pf [] []) z0 z)  : Fo Prod.snd (pf [] []) z0 (qm_X13_freeBraid_2 K go x1 z) := by
  unfold qm_X13_freeBraid_2
  exact (fo_if (fo_some hz) (fo_some hz))
theorem fq_X13_freeBraid {K : Nat} {z0 : ow_MS}   : ∀ (k L : Nat) (x1 : Int32) (z : ow_MS), fr (pf [] []) z0 z → Fo Prod.snd (pf [] []) z0 (q_X13_freeBraid K k L x1 z)
  | 0 => by
    intros
    exact fo_none
  | k + 1 => by
    intro L x1 z hz 
    show Fo Prod.snd (pf [] []) z0 (qb_X13_freeBraid K (q_X13_freeBraid K k) L x1 z)
    unfold qb_X13_freeBraid
    split
    · exact fb_X13_freeBraid_0 (fq_X13_freeBraid k) hz 
    · exact fb_X13_freeBraid_1 (fq_X13_freeBraid k) hz 
    · exact fb_X13_freeBraid_2 (fq_X13_freeBraid k) hz 
    · exact fo_none
theorem ff_X13_freeBraid {K : Nat} {z : ow_MS}  : Fo Prod.snd (pf [] []) z (qe_X13_freeBraid K z) := fq_X13_freeBraid K 0 _ z fr_rf 
theorem fb_X13_braid_0 {K : Nat} {z0 z : ow_MS}  {go : Nat → Int32 → Int32 → Int32 → Int32 → Int32 → Int32 → Int32 → Int32 → Int32 → ow_MS → Option (Int32 × ow_MS)} {x1 : Int32} {x2 : Int32} {x3 : Int32} {x4 : Int32} {x5 : Int32} {x6 : Int32} {x7 : Int32} {t0 : Int32} {t1 : Int32}  (hgo : ∀ (L : Nat) (x1 : Int32) (x2 : Int32) (x3 : Int32) (x4 : Int32) (x5 : Int32) (x6 : Int32) (x7 : Int32) (t0 : Int32) (t1 : Int32) (z : ow_MS), fr (pf [1, 11, 94, 95, 96] []) z0 z → Fo Prod.snd (pf [1, 11, 94, 95, 96] []) z0 (go L x1 x2 x3 x4 x5 x6 x7 t0 t1 z)) (hz : fr (pf [1, 11, 94, 95, 96] []) z0 z)  : Fo Prod.snd (pf [1, 11, 94, 95, 96] []) z0 (qm_X13_braid_0 K go x1 x2 x3 x4 x5 x6 x7 t0 t1 z) := by
  unfold qm_X13_braid_0
  exact (fo_wrF (Or.inl (by decide)) hz (fun z1 h_z1 => (fo_if (hgo 1 _ _ _ _ _ _ _ _ _ z1 h_z1) (fo_if (fo_cs1 (ff_X13_freeBraid) (pf_sub (by decide) pf_0) h_z1 (fun v3 z2 h_z2 => (fo_if (fo_cs1 (ff_X13_fails) (pf_sub (by decide) pf_0) h_z2 (fun v5 z4 h_z4 => (fo_some h_z4))) (hgo 2 _ _ _ _ _ _ _ _ _ z2 h_z2)))) (hgo 1 _ _ _ _ _ _ _ _ _ z1 h_z1)))))
theorem fb_X13_braid_1 {K : Nat} {z0 z : ow_MS}  {go : Nat → Int32 → Int32 → Int32 → Int32 → Int32 → Int32 → Int32 → Int32 → Int32 → ow_MS → Option (Int32 × ow_MS)} {x1 : Int32} {x2 : Int32} {x3 : Int32} {x4 : Int32} {x5 : Int32} {x6 : Int32} {x7 : Int32} {t0 : Int32} {t1 : Int32}  (hgo : ∀ (L : Nat) (x1 : Int32) (x2 : Int32) (x3 : Int32) (x4 : Int32) (x5 : Int32) (x6 : Int32) (x7 : Int32) (t0 : Int32) (t1 : Int32) (z : ow_MS), fr (pf [1, 11, 94, 95, 96] []) z0 z → Fo Prod.snd (pf [1, 11, 94, 95, 96] []) z0 (go L x1 x2 x3 x4 x5 x6 x7 t0 t1 z)) (hz : fr (pf [1, 11, 94, 95, 96] []) z0 z)  : Fo Prod.snd (pf [1, 11, 94, 95, 96] []) z0 (qm_X13_braid_1 K go x1 x2 x3 x4 x5 x6 x7 t0 t1 z) := by
  unfold qm_X13_braid_1
  exact (fo_cs1 (ff_X13_fails) (pf_sub (by decide) pf_0) hz (fun v7 z6 h_z6 => (fo_some h_z6)))
theorem fb_X13_braid_2 {K : Nat} {z0 z : ow_MS}  {go : Nat → Int32 → Int32 → Int32 → Int32 → Int32 → Int32 → Int32 → Int32 → Int32 → ow_MS → Option (Int32 × ow_MS)} {x1 : Int32} {x2 : Int32} {x3 : Int32} {x4 : Int32} {x5 : Int32} {x6 : Int32} {x7 : Int32} {t0 : Int32} {t1 : Int32}  (hgo : ∀ (L : Nat) (x1 : Int32) (x2 : Int32) (x3 : Int32) (x4 : Int32) (x5 : Int32) (x6 : Int32) (x7 : Int32) (t0 : Int32) (t1 : Int32) (z : ow_MS), fr (pf [1, 11, 94, 95, 96] []) z0 z → Fo Prod.snd (pf [1, 11, 94, 95, 96] []) z0 (go L x1 x2 x3 x4 x5 x6 x7 t0 t1 z)) (hz : fr (pf [1, 11, 94, 95, 96] []) z0 z)  : Fo Prod.snd (pf [1, 11, 94, 95, 96] []) z0 (qm_X13_braid_2 K go x1 x2 x3 x4 x5 x6 x7 t0 t1 z) := by
  unfold qm_X13_braid_2
  exact (fo_rdF (fun v8 => (fo_if (hgo 10 _ _ _ _ _ _ _ _ _ z hz) (fo_if (fo_rdI (fun v9 => (fo_rdI (fun v10 => (fo_if (hgo 3 _ _ _ _ _ _ _ _ _ z hz) (fo_if (hgo 4 _ _ _ _ _ _ _ _ _ z hz) (hgo 3 _ _ _ _ _ _ _ _ _ z hz))))))) (hgo 10 _ _ _ _ _ _ _ _ _ z hz)))))
theorem fb_X13_braid_3 {K : Nat} {z0 z : ow_MS}  {go : Nat → Int32 → Int32 → Int32 → Int32 → Int32 → Int32 → Int32 → Int32 → Int32 → ow_MS → Option (Int32 × ow_MS)} {x1 : Int32} {x2 : Int32} {x3 : Int32} {x4 : Int32} {x5 : Int32} {x6 : Int32} {x7 : Int32} {t0 : Int32} {t1 : Int32}  (hgo : ∀ (L : Nat) (x1 : Int32) (x2 : Int32) (x3 : Int32) (x4 : Int32) (x5 : Int32) (x6 : Int32) (x7 : Int32) (t0 : Int32) (t1 : Int32) (z : ow_MS), fr (pf [1, 11, 94, 95, 96] []) z0 z → Fo Prod.snd (pf [1, 11, 94, 95, 96] []) z0 (go L x1 x2 x3 x4 x5 x6 x7 t0 t1 z)) (hz : fr (pf [1, 11, 94, 95, 96] []) z0 z)  : Fo Prod.snd (pf [1, 11, 94, 95, 96] []) z0 (qm_X13_braid_3 K go x1 x2 x3 x4 x5 x6 x7 t0 t1 z) := by
  unfold qm_X13_braid_3
  exact (fo_if (hgo 5 _ _ _ _ _ _ _ _ _ z hz) (fo_if (hgo 5 _ _ _ _ _ _ _ _ _ z hz) (hgo 4 _ _ _ _ _ _ _ _ _ z hz)))
theorem fb_X13_braid_4 {K : Nat} {z0 z : ow_MS}  {go : Nat → Int32 → Int32 → Int32 → Int32 → Int32 → Int32 → Int32 → Int32 → Int32 → ow_MS → Option (Int32 × ow_MS)} {x1 : Int32} {x2 : Int32} {x3 : Int32} {x4 : Int32} {x5 : Int32} {x6 : Int32} {x7 : Int32} {t0 : Int32} {t1 : Int32}  (hgo : ∀ (L : Nat) (x1 : Int32) (x2 : Int32) (x3 : Int32) (x4 : Int32) (x5 : Int32) (x6 : Int32) (x7 : Int32) (t0 : Int32) (t1 : Int32) (z : ow_MS), fr (pf [1, 11, 94, 95, 96] []) z0 z → Fo Prod.snd (pf [1, 11, 94, 95, 96] []) z0 (go L x1 x2 x3 x4 x5 x6 x7 t0 t1 z)) (hz : fr (pf [1, 11, 94, 95, 96] []) z0 z)  : Fo Prod.snd (pf [1, 11, 94, 95, 96] []) z0 (qm_X13_braid_4 K go x1 x2 x3 x4 x5 x6 x7 t0 t1 z) := by
  unfold qm_X13_braid_4
  exact (hgo 6 _ _ _ _ _ _ _ _ _ z hz)
theorem fb_X13_braid_5 {K : Nat} {z0 z : ow_MS}  {go : Nat → Int32 → Int32 → Int32 → Int32 → Int32 → Int32 → Int32 → Int32 → Int32 → ow_MS → Option (Int32 × ow_MS)} {x1 : Int32} {x2 : Int32} {x3 : Int32} {x4 : Int32} {x5 : Int32} {x6 : Int32} {x7 : Int32} {t0 : Int32} {t1 : Int32}  (hgo : ∀ (L : Nat) (x1 : Int32) (x2 : Int32) (x3 : Int32) (x4 : Int32) (x5 : Int32) (x6 : Int32) (x7 : Int32) (t0 : Int32) (t1 : Int32) (z : ow_MS), fr (pf [1, 11, 94, 95, 96] []) z0 z → Fo Prod.snd (pf [1, 11, 94, 95, 96] []) z0 (go L x1 x2 x3 x4 x5 x6 x7 t0 t1 z)) (hz : fr (pf [1, 11, 94, 95, 96] []) z0 z)  : Fo Prod.snd (pf [1, 11, 94, 95, 96] []) z0 (qm_X13_braid_5 K go x1 x2 x3 x4 x5 x6 x7 t0 t1 z) := by
  unfold qm_X13_braid_5
  exact (hgo 6 _ _ _ _ _ _ _ _ _ z hz)
theorem fb_X13_braid_6 {K : Nat} {z0 z : ow_MS}  {go : Nat → Int32 → Int32 → Int32 → Int32 → Int32 → Int32 → Int32 → Int32 → Int32 → ow_MS → Option (Int32 × ow_MS)} {x1 : Int32} {x2 : Int32} {x3 : Int32} {x4 : Int32} {x5 : Int32} {x6 : Int32} {x7 : Int32} {t0 : Int32} {t1 : Int32}  (hgo : ∀ (L : Nat) (x1 : Int32) (x2 : Int32) (x3 : Int32) (x4 : Int32) (x5 : Int32) (x6 : Int32) (x7 : Int32) (t0 : Int32) (t1 : Int32) (z : ow_MS), fr (pf [1, 11, 94, 95, 96] []) z0 z → Fo Prod.snd (pf [1, 11, 94, 95, 96] []) z0 (go L x1 x2 x3 x4 x5 x6 x7 t0 t1 z)) (hz : fr (pf [1, 11, 94, 95, 96] []) z0 z)  : Fo Prod.snd (pf [1, 11, 94, 95, 96] []) z0 (qm_X13_braid_6 K go x1 x2 x3 x4 x5 x6 x7 t0 t1 z) := by
  unfold qm_X13_braid_6
  exact (fo_if (hgo 7 _ _ _ _ _ _ _ _ _ z hz) (fo_if (hgo 7 _ _ _ _ _ _ _ _ _ z hz) (fo_if (hgo 8 _ _ _ _ _ _ _ _ _ z hz) (hgo 8 _ _ _ _ _ _ _ _ _ z hz))))
theorem fb_X13_braid_7 {K : Nat} {z0 z : ow_MS}  {go : Nat → Int32 → Int32 → Int32 → Int32 → Int32 → Int32 → Int32 → Int32 → Int32 → ow_MS → Option (Int32 × ow_MS)} {x1 : Int32} {x2 : Int32} {x3 : Int32} {x4 : Int32} {x5 : Int32} {x6 : Int32} {x7 : Int32} {t0 : Int32} {t1 : Int32}  (hgo : ∀ (L : Nat) (x1 : Int32) (x2 : Int32) (x3 : Int32) (x4 : Int32) (x5 : Int32) (x6 : Int32) (x7 : Int32) (t0 : Int32) (t1 : Int32) (z : ow_MS), fr (pf [1, 11, 94, 95, 96] []) z0 z → Fo Prod.snd (pf [1, 11, 94, 95, 96] []) z0 (go L x1 x2 x3 x4 x5 x6 x7 t0 t1 z)) (hz : fr (pf [1, 11, 94, 95, 96] []) z0 z)  : Fo Prod.snd (pf [1, 11, 94, 95, 96] []) z0 (qm_X13_braid_7 K go x1 x2 x3 x4 x5 x6 x7 t0 t1 z) := by
  unfold qm_X13_braid_7
  exact (hgo 9 _ _ _ _ _ _ _ _ _ z hz)
theorem fb_X13_braid_8 {K : Nat} {z0 z : ow_MS}  {go : Nat → Int32 → Int32 → Int32 → Int32 → Int32 → Int32 → Int32 → Int32 → Int32 → ow_MS → Option (Int32 × ow_MS)} {x1 : Int32} {x2 : Int32} {x3 : Int32} {x4 : Int32} {x5 : Int32} {x6 : Int32} {x7 : Int32} {t0 : Int32} {t1 : Int32}  (hgo : ∀ (L : Nat) (x1 : Int32) (x2 : Int32) (x3 : Int32) (x4 : Int32) (x5 : Int32) (x6 : Int32) (x7 : Int32) (t0 : Int32) (t1 : Int32) (z : ow_MS), fr (pf [1, 11, 94, 95, 96] []) z0 z → Fo Prod.snd (pf [1, 11, 94, 95, 96] []) z0 (go L x1 x2 x3 x4 x5 x6 x7 t0 t1 z)) (hz : fr (pf [1, 11, 94, 95, 96] []) z0 z)  : Fo Prod.snd (pf [1, 11, 94, 95, 96] []) z0 (qm_X13_braid_8 K go x1 x2 x3 x4 x5 x6 x7 t0 t1 z) := by
  unfold qm_X13_braid_8
  exact (fo_wrI (Or.inl (by decide)) hz (fun z11 h_z11 => (hgo 9 _ _ _ _ _ _ _ _ _ z11 h_z11)))
theorem fb_X13_braid_9 {K : Nat} {z0 z : ow_MS}  {go : Nat → Int32 → Int32 → Int32 → Int32 → Int32 → Int32 → Int32 → Int32 → Int32 → ow_MS → Option (Int32 × ow_MS)} {x1 : Int32} {x2 : Int32} {x3 : Int32} {x4 : Int32} {x5 : Int32} {x6 : Int32} {x7 : Int32} {t0 : Int32} {t1 : Int32}  (hgo : ∀ (L : Nat) (x1 : Int32) (x2 : Int32) (x3 : Int32) (x4 : Int32) (x5 : Int32) (x6 : Int32) (x7 : Int32) (t0 : Int32) (t1 : Int32) (z : ow_MS), fr (pf [1, 11, 94, 95, 96] []) z0 z → Fo Prod.snd (pf [1, 11, 94, 95, 96] []) z0 (go L x1 x2 x3 x4 x5 x6 x7 t0 t1 z)) (hz : fr (pf [1, 11, 94, 95, 96] []) z0 z)  : Fo Prod.snd (pf [1, 11, 94, 95, 96] []) z0 (qm_X13_braid_9 K go x1 x2 x3 x4 x5 x6 x7 t0 t1 z) := by
  unfold qm_X13_braid_9
  exact (hgo 2 _ _ _ _ _ _ _ _ _ z hz)
theorem fb_X13_braid_10 {K : Nat} {z0 z : ow_MS}  {go : Nat → Int32 → Int32 → Int32 → Int32 → Int32 → Int32 → Int32 → Int32 → Int32 → ow_MS → Option (Int32 × ow_MS)} {x1 : Int32} {x2 : Int32} {x3 : Int32} {x4 : Int32} {x5 : Int32} {x6 : Int32} {x7 : Int32} {t0 : Int32} {t1 : Int32}  (hgo : ∀ (L : Nat) (x1 : Int32) (x2 : Int32) (x3 : Int32) (x4 : Int32) (x5 : Int32) (x6 : Int32) (x7 : Int32) (t0 : Int32) (t1 : Int32) (z : ow_MS), fr (pf [1, 11, 94, 95, 96] []) z0 z → Fo Prod.snd (pf [1, 11, 94, 95, 96] []) z0 (go L x1 x2 x3 x4 x5 x6 x7 t0 t1 z)) (hz : fr (pf [1, 11, 94, 95, 96] []) z0 z)  : Fo Prod.snd (pf [1, 11, 94, 95, 96] []) z0 (qm_X13_braid_10 K go x1 x2 x3 x4 x5 x6 x7 t0 t1 z) := by
  unfold qm_X13_braid_10
  exact (fo_rdF (fun v12 => (fo_wrF (Or.inl (by decide)) hz (fun z13 h_z13 => (fo_if (fo_wrI (Or.inl (by decide)) h_z13 (fun z14 h_z14 => (fo_wrI (Or.inl (by decide)) h_z14 (fun z15 h_z15 => (fo_some h_z15))))) (fo_some h_z13))))))
theorem fq_X13_braid {K : Nat} {z0 : ow_MS}   : ∀ (k L : Nat) (x1 : Int32) (x2 : Int32) (x3 : Int32) (x4 : Int32) (x5 : Int32) (x6 : Int32) (x7 : Int32) (t0 : Int32) (t1 : Int32) (z : ow_MS), fr (pf [1, 11, 94, 95, 96] []) z0 z → Fo Prod.snd (pf [1, 11, 94, 95, 96] []) z0 (q_X13_braid K k L x1 x2 x3 x4 x5 x6 x7 t0 t1 z)
  | 0 => by
    intros
    exact fo_none
  | k + 1 => by
    intro L x1 x2 x3 x4 x5 x6 x7 t0 t1 z hz 
    show Fo Prod.snd (pf [1, 11, 94, 95, 96] []) z0 (qb_X13_braid K (q_X13_braid K k) L x1 x2 x3 x4 x5 x6 x7 t0 t1 z)
    unfold qb_X13_braid
    split
    · exact fb_X13_braid_0 (fq_X13_braid k) hz 
    · exact fb_X13_braid_1 (fq_X13_braid k) hz 
    · exact fb_X13_braid_2 (fq_X13_braid k) hz 
    · exact fb_X13_braid_3 (fq_X13_braid k) hz 
    · exact fb_X13_braid_4 (fq_X13_braid k) hz 
    · exact fb_X13_braid_5 (fq_X13_braid k) hz 
    · exact fb_X13_braid_6 (fq_X13_braid k) hz 
    · exact fb_X13_braid_7 (fq_X13_braid k) hz 
    · exact fb_X13_braid_8 (fq_X13_braid k) hz 
    · exact fb_X13_braid_9 (fq_X13_braid k) hz 
    · exact fb_X13_braid_10 (fq_X13_braid k) hz 
    · exact fo_none
theorem ff_X13_braid {K : Nat} {x1 : Int32} {z : ow_MS}  : Fo Prod.snd (pf [1, 11, 94, 95, 96] []) z (qe_X13_braid K x1 z) := fq_X13_braid K 0 _ _ _ _ _ _ _ _ _ z fr_rf 
theorem ff_X13_has {K : Nat} {x1 : Int32} {z : ow_MS}  : Fo Prod.snd (pf [] []) z (qe_X13_has K x1 z) := by
  unfold qe_X13_has qm_X13_has_0
  exact (fo_if (fo_okZ (fo_some fr_rf)) (fo_if (fo_okZ (fo_some fr_rf)) (fo_rdI (fun v1 => (fo_if (fo_okZ (fo_some fr_rf)) (fo_okZ (fo_some fr_rf)))))))
theorem ff_X13_drop {K : Nat} {x1 : Int32} {z : ow_MS}  : Fo Prod.snd (pf [1, 12] []) z (qe_X13_drop K x1 z) := by
  unfold qe_X13_drop qm_X13_drop_0
  exact (fo_wrF (Or.inl (by decide)) fr_rf (fun z1 h_z1 => (fo_cs1 (ff_X13_has) (pf_sub (by decide) pf_0) h_z1 (fun v3 z2 h_z2 => (fo_if (fo_okZ (fo_some h_z2)) (fo_wrI (Or.inl (by decide)) h_z2 (fun z4 h_z4 => (fo_okZ (fo_some h_z4)))))))))
theorem ff_X13_hasBraid {K : Nat} {x1 : Int32} {z : ow_MS}  : Fo Prod.snd (pf [] []) z (qe_X13_hasBraid K x1 z) := by
  unfold qe_X13_hasBraid qm_X13_hasBraid_0
  exact (fo_if (fo_okZ (fo_some fr_rf)) (fo_if (fo_okZ (fo_some fr_rf)) (fo_rdI (fun v1 => (fo_if (fo_okZ (fo_some fr_rf)) (fo_okZ (fo_some fr_rf)))))))
theorem ff_X13_dropBraid {K : Nat} {x1 : Int32} {z : ow_MS}  : Fo Prod.snd (pf [1, 96] []) z (qe_X13_dropBraid K x1 z) := by
  unfold qe_X13_dropBraid qm_X13_dropBraid_0
  exact (fo_wrF (Or.inl (by decide)) fr_rf (fun z1 h_z1 => (fo_cs1 (ff_X13_hasBraid) (pf_sub (by decide) pf_0) h_z1 (fun v3 z2 h_z2 => (fo_if (fo_okZ (fo_some h_z2)) (fo_wrI (Or.inl (by decide)) h_z2 (fun z4 h_z4 => (fo_okZ (fo_some h_z4)))))))))
theorem fb_X13_unpack_0 {K : Nat} {z0 z : ow_MS}  {go : Nat → Int32 → Int32 → Int32 → Nat → Nat → Int32 → Int32 → ow_MS → Option ow_MS} {x1 : Int32} {x3 : Int32} {x4 : Int32} {r0 : Nat} {r2 : Nat} {t0 : Int32} {t1 : Int32}  (hgo : ∀ (L : Nat) (x1 : Int32) (x3 : Int32) (x4 : Int32) (r0 : Nat) (r2 : Nat) (t0 : Int32) (t1 : Int32) (z : ow_MS), fr (pf [] []) z0 z → (L = 0 ∨ L = 1 ∨ L = 2 ∨ L = 3 → 1000 ≤ r2) → Fo id (pf [] []) z0 (go L x1 x3 x4 r0 r2 t0 t1 z)) (hz : fr (pf [] []) z0 z) (hr2 : 1000 ≤ r2) : Fo id (pf [] []) z0 (qm_X13_unpack_0 K go x1 x3 x4 r0 r2 t0 t1 z) := by
  unfold qm_X13_unpack_0
  exact (fo_cs0 (ff_X12_clear (by first | omega | decide)) (pf_sub (by decide) pf_0) hz (fun z1 h_z1 => (hgo 1 _ _ _ _ _ _ _ z1 h_z1 (fun _ => (by first | omega | decide)))))
theorem fb_X13_unpack_1 {K : Nat} {z0 z : ow_MS}  {go : Nat → Int32 → Int32 → Int32 → Nat → Nat → Int32 → Int32 → ow_MS → Option ow_MS} {x1 : Int32} {x3 : Int32} {x4 : Int32} {r0 : Nat} {r2 : Nat} {t0 : Int32} {t1 : Int32}  (hgo : ∀ (L : Nat) (x1 : Int32) (x3 : Int32) (x4 : Int32) (r0 : Nat) (r2 : Nat) (t0 : Int32) (t1 : Int32) (z : ow_MS), fr (pf [] []) z0 z → (L = 0 ∨ L = 1 ∨ L = 2 ∨ L = 3 → 1000 ≤ r2) → Fo id (pf [] []) z0 (go L x1 x3 x4 r0 r2 t0 t1 z)) (hz : fr (pf [] []) z0 z) (hr2 : 1000 ≤ r2) : Fo id (pf [] []) z0 (qm_X13_unpack_1 K go x1 x3 x4 r0 r2 t0 t1 z) := by
  unfold qm_X13_unpack_1
  exact (fo_rdI (fun v2 => (fo_if (fo_some hz) (fo_rdI (fun v3 => (fo_if (fo_cs0 (ff_X12_end (by first | omega | decide)) (pf_sub (by decide) pf_0) hz (fun z4 h_z4 => (hgo 3 _ _ _ _ _ _ _ z4 h_z4 (fun _ => (by first | omega | decide))))) (fo_if (hgo 2 _ _ _ _ _ _ _ z hz (fun _ => (by first | omega | decide))) (hgo 2 _ _ _ _ _ _ _ z hz (fun _ => (by first | omega | decide))))))))))
theorem fb_X13_unpack_2 {K : Nat} {z0 z : ow_MS}  {go : Nat → Int32 → Int32 → Int32 → Nat → Nat → Int32 → Int32 → ow_MS → Option ow_MS} {x1 : Int32} {x3 : Int32} {x4 : Int32} {r0 : Nat} {r2 : Nat} {t0 : Int32} {t1 : Int32}  (hgo : ∀ (L : Nat) (x1 : Int32) (x3 : Int32) (x4 : Int32) (r0 : Nat) (r2 : Nat) (t0 : Int32) (t1 : Int32) (z : ow_MS), fr (pf [] []) z0 z → (L = 0 ∨ L = 1 ∨ L = 2 ∨ L = 3 → 1000 ≤ r2) → Fo id (pf [] []) z0 (go L x1 x3 x4 r0 r2 t0 t1 z)) (hz : fr (pf [] []) z0 z) (hr2 : 1000 ≤ r2) : Fo id (pf [] []) z0 (qm_X13_unpack_2 K go x1 x3 x4 r0 r2 t0 t1 z) := by
  unfold qm_X13_unpack_2
  exact (fo_wrI (Or.inr (Or.inr (by omega))) hz (fun z5 h_z5 => (fo_cs0 (ff_X12_add (by first | omega | decide)) (pf_sub (by decide) pf_0) h_z5 (fun z6 h_z6 => (hgo 3 _ _ _ _ _ _ _ z6 h_z6 (fun _ => (by first | omega | decide)))))))
theorem fb_X13_unpack_3 {K : Nat} {z0 z : ow_MS}  {go : Nat → Int32 → Int32 → Int32 → Nat → Nat → Int32 → Int32 → ow_MS → Option ow_MS} {x1 : Int32} {x3 : Int32} {x4 : Int32} {r0 : Nat} {r2 : Nat} {t0 : Int32} {t1 : Int32}  (hgo : ∀ (L : Nat) (x1 : Int32) (x3 : Int32) (x4 : Int32) (r0 : Nat) (r2 : Nat) (t0 : Int32) (t1 : Int32) (z : ow_MS), fr (pf [] []) z0 z → (L = 0 ∨ L = 1 ∨ L = 2 ∨ L = 3 → 1000 ≤ r2) → Fo id (pf [] []) z0 (go L x1 x3 x4 r0 r2 t0 t1 z)) (hz : fr (pf [] []) z0 z) (hr2 : 1000 ≤ r2) : Fo id (pf [] []) z0 (qm_X13_unpack_3 K go x1 x3 x4 r0 r2 t0 t1 z) := by
  unfold qm_X13_unpack_3
  exact (hgo 1 _ _ _ _ _ _ _ z hz (fun _ => (by first | omega | decide)))
theorem fq_X13_unpack {K : Nat} {z0 : ow_MS}   : ∀ (k L : Nat) (x1 : Int32) (x3 : Int32) (x4 : Int32) (r0 : Nat) (r2 : Nat) (t0 : Int32) (t1 : Int32) (z : ow_MS), fr (pf [] []) z0 z → (L = 0 ∨ L = 1 ∨ L = 2 ∨ L = 3 → 1000 ≤ r2) → Fo id (pf [] []) z0 (q_X13_unpack K k L x1 x3 x4 r0 r2 t0 t1 z)
  | 0 => by
    intros
    exact fo_none
  | k + 1 => by
    intro L x1 x3 x4 r0 r2 t0 t1 z hz h9_r2
    show Fo id (pf [] []) z0 (qb_X13_unpack K (q_X13_unpack K k) L x1 x3 x4 r0 r2 t0 t1 z)
    unfold qb_X13_unpack
    split
    · exact fb_X13_unpack_0 (fq_X13_unpack k) hz (h9_r2 (by decide))
    · exact fb_X13_unpack_1 (fq_X13_unpack k) hz (h9_r2 (by decide))
    · exact fb_X13_unpack_2 (fq_X13_unpack k) hz (h9_r2 (by decide))
    · exact fb_X13_unpack_3 (fq_X13_unpack k) hz (h9_r2 (by decide))
    · exact fo_none
theorem ff_X13_unpack {K : Nat} {r0 : Nat} {x1 : Int32} {r2 : Nat} {z : ow_MS} (hr2 : 1000 ≤ r2) : Fo id (pf [] []) z (qe_X13_unpack K r0 x1 r2 z) := fq_X13_unpack K 0 _ _ _ _ _ _ _ z fr_rf (fun _ => (by first | omega | decide))
theorem ff_X13_open {K : Nat} {x1 : Int32} {r2 : Nat} {z : ow_MS} (hr2 : 1000 ≤ r2) : Fo id (pf [] []) z (qe_X13_open K x1 r2 z) := by
  unfold qe_X13_open qm_X13_open_0
  exact (fo_cs0 (ff_X13_unpack (by first | omega | decide)) (pf_sub (by decide) pf_0) fr_rf (fun z1 h_z1 => (fo_cs0 (ff_X12_link (by first | omega | decide)) (pf_sub (by decide) pf_0) h_z1 (fun z2 h_z2 => (fo_some h_z2)))))
theorem fb_X13_circlesOf_0 {K : Nat} {z0 z : ow_MS}  {go : Nat → Int32 → Int32 → Nat → Int32 → Int32 → ow_MS → Option (Int32 × ow_MS)} {x2 : Int32} {x3 : Int32} {r1 : Nat} {t0 : Int32} {t1 : Int32}  (hgo : ∀ (L : Nat) (x2 : Int32) (x3 : Int32) (r1 : Nat) (t0 : Int32) (t1 : Int32) (z : ow_MS), fr (pf [] []) z0 z → (L = 0 ∨ L = 1 ∨ L = 2 → 1000 ≤ r1) → Fo Prod.snd (pf [] []) z0 (go L x2 x3 r1 t0 t1 z)) (hz : fr (pf [] []) z0 z) (hr1 : 1000 ≤ r1) : Fo Prod.snd (pf [] []) z0 (qm_X13_circlesOf_0 K go x2 x3 r1 t0 t1 z) := by
  unfold qm_X13_circlesOf_0
  exact (hgo 1 _ _ _ _ _ z hz (fun _ => (by first | omega | decide)))
theorem fb_X13_circlesOf_1 {K : Nat} {z0 z : ow_MS}  {go : Nat → Int32 → Int32 → Nat → Int32 → Int32 → ow_MS → Option (Int32 × ow_MS)} {x2 : Int32} {x3 : Int32} {r1 : Nat} {t0 : Int32} {t1 : Int32}  (hgo : ∀ (L : Nat) (x2 : Int32) (x3 : Int32) (r1 : Nat) (t0 : Int32) (t1 : Int32) (z : ow_MS), fr (pf [] []) z0 z → (L = 0 ∨ L = 1 ∨ L = 2 → 1000 ≤ r1) → Fo Prod.snd (pf [] []) z0 (go L x2 x3 r1 t0 t1 z)) (hz : fr (pf [] []) z0 z) (hr1 : 1000 ≤ r1) : Fo Prod.snd (pf [] []) z0 (qm_X13_circlesOf_1 K go x2 x3 r1 t0 t1 z) := by
  unfold qm_X13_circlesOf_1
  exact (fo_rdF (fun v1 => (fo_if (fo_some hz) (fo_cs1 (ff_X12_isCircle (by first | omega | decide)) (pf_sub (by decide) pf_0) hz (fun v3 z2 h_z2 => (fo_if (hgo 2 _ _ _ _ _ z2 h_z2 (fun _ => (by first | omega | decide))) (hgo 2 _ _ _ _ _ z2 h_z2 (fun _ => (by first | omega | decide)))))))))
theorem fb_X13_circlesOf_2 {K : Nat} {z0 z : ow_MS}  {go : Nat → Int32 → Int32 → Nat → Int32 → Int32 → ow_MS → Option (Int32 × ow_MS)} {x2 : Int32} {x3 : Int32} {r1 : Nat} {t0 : Int32} {t1 : Int32}  (hgo : ∀ (L : Nat) (x2 : Int32) (x3 : Int32) (r1 : Nat) (t0 : Int32) (t1 : Int32) (z : ow_MS), fr (pf [] []) z0 z → (L = 0 ∨ L = 1 ∨ L = 2 → 1000 ≤ r1) → Fo Prod.snd (pf [] []) z0 (go L x2 x3 r1 t0 t1 z)) (hz : fr (pf [] []) z0 z) (hr1 : 1000 ≤ r1) : Fo Prod.snd (pf [] []) z0 (qm_X13_circlesOf_2 K go x2 x3 r1 t0 t1 z) := by
  unfold qm_X13_circlesOf_2
  exact (hgo 1 _ _ _ _ _ z hz (fun _ => (by first | omega | decide)))
theorem fq_X13_circlesOf {K : Nat} {z0 : ow_MS}   : ∀ (k L : Nat) (x2 : Int32) (x3 : Int32) (r1 : Nat) (t0 : Int32) (t1 : Int32) (z : ow_MS), fr (pf [] []) z0 z → (L = 0 ∨ L = 1 ∨ L = 2 → 1000 ≤ r1) → Fo Prod.snd (pf [] []) z0 (q_X13_circlesOf K k L x2 x3 r1 t0 t1 z)
  | 0 => by
    intros
    exact fo_none
  | k + 1 => by
    intro L x2 x3 r1 t0 t1 z hz h9_r1
    show Fo Prod.snd (pf [] []) z0 (qb_X13_circlesOf K (q_X13_circlesOf K k) L x2 x3 r1 t0 t1 z)
    unfold qb_X13_circlesOf
    split
    · exact fb_X13_circlesOf_0 (fq_X13_circlesOf k) hz (h9_r1 (by decide))
    · exact fb_X13_circlesOf_1 (fq_X13_circlesOf k) hz (h9_r1 (by decide))
    · exact fb_X13_circlesOf_2 (fq_X13_circlesOf k) hz (h9_r1 (by decide))
    · exact fo_none
theorem ff_X13_circlesOf {K : Nat} {r1 : Nat} {z : ow_MS} (hr1 : 1000 ≤ r1) : Fo Prod.snd (pf [] []) z (qe_X13_circlesOf K r1 z) := fq_X13_circlesOf K 0 _ _ _ _ _ z fr_rf (fun _ => (by first | omega | decide))
theorem fb_X13_writheOf_0 {K : Nat} {z0 z : ow_MS}  {go : Nat → Int32 → Int32 → Nat → Int32 → Int32 → ow_MS → Option (Int32 × ow_MS)} {x1 : Int32} {x2 : Int32} {r0 : Nat} {t0 : Int32} {t1 : Int32}  (hgo : ∀ (L : Nat) (x1 : Int32) (x2 : Int32) (r0 : Nat) (t0 : Int32) (t1 : Int32) (z : ow_MS), fr (pf [] []) z0 z → (L = 0 ∨ L = 1 ∨ L = 2 → 1000 ≤ r0) → Fo Prod.snd (pf [] []) z0 (go L x1 x2 r0 t0 t1 z)) (hz : fr (pf [] []) z0 z) (hr0 : 1000 ≤ r0) : Fo Prod.snd (pf [] []) z0 (qm_X13_writheOf_0 K go x1 x2 r0 t0 t1 z) := by
  unfold qm_X13_writheOf_0
  exact (hgo 1 _ _ _ _ _ z hz (fun _ => (by first | omega | decide)))
theorem fb_X13_writheOf_1 {K : Nat} {z0 z : ow_MS}  {go : Nat → Int32 → Int32 → Nat → Int32 → Int32 → ow_MS → Option (Int32 × ow_MS)} {x1 : Int32} {x2 : Int32} {r0 : Nat} {t0 : Int32} {t1 : Int32}  (hgo : ∀ (L : Nat) (x1 : Int32) (x2 : Int32) (r0 : Nat) (t0 : Int32) (t1 : Int32) (z : ow_MS), fr (pf [] []) z0 z → (L = 0 ∨ L = 1 ∨ L = 2 → 1000 ≤ r0) → Fo Prod.snd (pf [] []) z0 (go L x1 x2 r0 t0 t1 z)) (hz : fr (pf [] []) z0 z) (hr0 : 1000 ≤ r0) : Fo Prod.snd (pf [] []) z0 (qm_X13_writheOf_1 K go x1 x2 r0 t0 t1 z) := by
  unfold qm_X13_writheOf_1
  exact (fo_rdF (fun v1 => (fo_if (fo_some hz) (fo_rdI (fun v2 => (fo_if (fo_rdI (fun v3 => (fo_rdI (fun v4 => (hgo 2 _ _ _ _ _ z hz (fun _ => (by first | omega | decide))))))) (hgo 2 _ _ _ _ _ z hz (fun _ => (by first | omega | decide)))))))))
theorem fb_X13_writheOf_2 {K : Nat} {z0 z : ow_MS}  {go : Nat → Int32 → Int32 → Nat → Int32 → Int32 → ow_MS → Option (Int32 × ow_MS)} {x1 : Int32} {x2 : Int32} {r0 : Nat} {t0 : Int32} {t1 : Int32}  (hgo : ∀ (L : Nat) (x1 : Int32) (x2 : Int32) (r0 : Nat) (t0 : Int32) (t1 : Int32) (z : ow_MS), fr (pf [] []) z0 z → (L = 0 ∨ L = 1 ∨ L = 2 → 1000 ≤ r0) → Fo Prod.snd (pf [] []) z0 (go L x1 x2 r0 t0 t1 z)) (hz : fr (pf [] []) z0 z) (hr0 : 1000 ≤ r0) : Fo Prod.snd (pf [] []) z0 (qm_X13_writheOf_2 K go x1 x2 r0 t0 t1 z) := by
  unfold qm_X13_writheOf_2
  exact (hgo 1 _ _ _ _ _ z hz (fun _ => (by first | omega | decide)))
theorem fq_X13_writheOf {K : Nat} {z0 : ow_MS}   : ∀ (k L : Nat) (x1 : Int32) (x2 : Int32) (r0 : Nat) (t0 : Int32) (t1 : Int32) (z : ow_MS), fr (pf [] []) z0 z → (L = 0 ∨ L = 1 ∨ L = 2 → 1000 ≤ r0) → Fo Prod.snd (pf [] []) z0 (q_X13_writheOf K k L x1 x2 r0 t0 t1 z)
  | 0 => by
    intros
    exact fo_none
  | k + 1 => by
    intro L x1 x2 r0 t0 t1 z hz h9_r0
    show Fo Prod.snd (pf [] []) z0 (qb_X13_writheOf K (q_X13_writheOf K k) L x1 x2 r0 t0 t1 z)
    unfold qb_X13_writheOf
    split
    · exact fb_X13_writheOf_0 (fq_X13_writheOf k) hz (h9_r0 (by decide))
    · exact fb_X13_writheOf_1 (fq_X13_writheOf k) hz (h9_r0 (by decide))
    · exact fb_X13_writheOf_2 (fq_X13_writheOf k) hz (h9_r0 (by decide))
    · exact fo_none
theorem ff_X13_writheOf {K : Nat} {r0 : Nat} {z : ow_MS} (hr0 : 1000 ≤ r0) : Fo Prod.snd (pf [] []) z (qe_X13_writheOf K r0 z) := fq_X13_writheOf K 0 _ _ _ _ _ z fr_rf (fun _ => (by first | omega | decide))
theorem fb_X13_figure_0 {K : Nat} {z0 z : ow_MS}  {go : Nat → Int32 → Int32 → Int32 → ow_MS → Option (Int32 × ow_MS)} {x1 : Int32} {x2 : Int32} {x3 : Int32}  (hgo : ∀ (L : Nat) (x1 : Int32) (x2 : Int32) (x3 : Int32) (z : ow_MS), fr (pf [1] []) z0 z → Fo Prod.snd (pf [1] []) z0 (go L x1 x2 x3 z)) (hz : fr (pf [1] []) z0 z)  : Fo Prod.snd (pf [1] []) z0 (qm_X13_figure_0 K go x1 x2 x3 z) := by
  unfold qm_X13_figure_0
  exact (fo_wrF (Or.inl (by decide)) hz (fun z1 h_z1 => (fo_cs1 (ff_X13_has) (pf_sub (by decide) pf_0) h_z1 (fun v3 z2 h_z2 => (fo_if (fo_cs1 (ff_X13_fails) (pf_sub (by decide) pf_0) h_z2 (fun v14 z13 h_z13 => (fo_some h_z13))) (fo_if (hgo 1 _ _ _ z2 h_z2) (fo_if (fo_cs0 (ff_X13_open (by first | omega | decide)) (pf_sub (by decide) pf_0) h_z2 (fun z4 h_z4 => (fo_if (fo_rdF (fun v12 => (fo_nzI (fo_some h_z4)))) (fo_if (fo_rdF (fun v11 => (fo_some h_z4))) (fo_if (fo_cs1 (ff_X13_circlesOf (by first | omega | decide)) (pf_sub (by decide) pf_0) h_z4 (fun v10 z9 h_z9 => (fo_some h_z9))) (fo_if (fo_cs0 (ff_X12_split (by first | omega | decide)) (pf_sub (by decide) pf_0) h_z4 (fun z7 h_z7 => (fo_rdF (fun v8 => (fo_some h_z7))))) (fo_if (fo_cs1 (ff_X13_writheOf (by first | omega | decide)) (pf_sub (by decide) pf_0) h_z4 (fun v6 z5 h_z5 => (fo_some h_z5))) (hgo 2 _ _ _ z4 h_z4)))))))) (hgo 1 _ _ _ z2 h_z2))))))))
theorem fb_X13_figure_1 {K : Nat} {z0 z : ow_MS}  {go : Nat → Int32 → Int32 → Int32 → ow_MS → Option (Int32 × ow_MS)} {x1 : Int32} {x2 : Int32} {x3 : Int32}  (hgo : ∀ (L : Nat) (x1 : Int32) (x2 : Int32) (x3 : Int32) (z : ow_MS), fr (pf [1] []) z0 z → Fo Prod.snd (pf [1] []) z0 (go L x1 x2 x3 z)) (hz : fr (pf [1] []) z0 z)  : Fo Prod.snd (pf [1] []) z0 (qm_X13_figure_1 K go x1 x2 x3 z) := by
  unfold qm_X13_figure_1
  exact (fo_cs1 (ff_X13_fails) (pf_sub (by decide) pf_0) hz (fun v16 z15 h_z15 => (fo_some h_z15)))
theorem fb_X13_figure_2 {K : Nat} {z0 z : ow_MS}  {go : Nat → Int32 → Int32 → Int32 → ow_MS → Option (Int32 × ow_MS)} {x1 : Int32} {x2 : Int32} {x3 : Int32}  (hgo : ∀ (L : Nat) (x1 : Int32) (x2 : Int32) (x3 : Int32) (z : ow_MS), fr (pf [1] []) z0 z → Fo Prod.snd (pf [1] []) z0 (go L x1 x2 x3 z)) (hz : fr (pf [1] []) z0 z)  : Fo Prod.snd (pf [1] []) z0 (qm_X13_figure_2 K go x1 x2 x3 z) := by
  unfold qm_X13_figure_2
  exact (fo_rdF (fun v17 => (fo_if (fo_some hz) (fo_rdI (fun v18 => (fo_rdI (fun v19 => (fo_rdI (fun v20 => (fo_if (fo_some hz) (hgo 2 _ _ _ z hz)))))))))))
theorem fq_X13_figure {K : Nat} {z0 : ow_MS}   : ∀ (k L : Nat) (x1 : Int32) (x2 : Int32) (x3 : Int32) (z : ow_MS), fr (pf [1] []) z0 z → Fo Prod.snd (pf [1] []) z0 (q_X13_figure K k L x1 x2 x3 z)
  | 0 => by
    intros
    exact fo_none
  | k + 1 => by
    intro L x1 x2 x3 z hz 
    show Fo Prod.snd (pf [1] []) z0 (qb_X13_figure K (q_X13_figure K k) L x1 x2 x3 z)
    unfold qb_X13_figure
    split
    · exact fb_X13_figure_0 (fq_X13_figure k) hz 
    · exact fb_X13_figure_1 (fq_X13_figure k) hz 
    · exact fb_X13_figure_2 (fq_X13_figure k) hz 
    · exact fo_none
theorem ff_X13_figure {K : Nat} {x1 : Int32} {x2 : Int32} {z : ow_MS}  : Fo Prod.snd (pf [1] []) z (qe_X13_figure K x1 x2 z) := fq_X13_figure K 0 _ _ _ z fr_rf 
theorem fb_X13_visit_0 {K : Nat} {z0 z : ow_MS}  {go : Nat → Int32 → Int32 → Int32 → ow_MS → Option (Int32 × ow_MS)} {x1 : Int32} {x2 : Int32} {x3 : Int32}  (hgo : ∀ (L : Nat) (x1 : Int32) (x2 : Int32) (x3 : Int32) (z : ow_MS), fr (pf [1] []) z0 z → Fo Prod.snd (pf [1] []) z0 (go L x1 x2 x3 z)) (hz : fr (pf [1] []) z0 z)  : Fo Prod.snd (pf [1] []) z0 (qm_X13_visit_0 K go x1 x2 x3 z) := by
  unfold qm_X13_visit_0
  exact (fo_wrF (Or.inl (by decide)) hz (fun z1 h_z1 => (fo_cs1 (ff_X13_has) (pf_sub (by decide) pf_0) h_z1 (fun v3 z2 h_z2 => (fo_if (fo_cs1 (ff_X13_fails) (pf_sub (by decide) pf_0) h_z2 (fun v14 z13 h_z13 => (fo_some h_z13))) (fo_cs0 (ff_X13_open (by first | omega | decide)) (pf_sub (by decide) pf_0) h_z2 (fun z4 h_z4 => (fo_if (hgo 1 _ _ _ z4 h_z4) (fo_rdF (fun v5 => (fo_if (fo_if (fo_cs1 (ff_X13_fails) (pf_sub (by decide) pf_0) h_z4 (fun v7 z6 h_z6 => (fo_some h_z6))) (fo_if (fo_rdI (fun v8 => (fo_some h_z4))) (fo_if (fo_rdI (fun v9 => (fo_some h_z4))) (fo_if (fo_rdI (fun v10 => (fo_some h_z4))) (fo_if (fo_rdI (fun v11 => (fo_rdI (fun v12 => (fo_some h_z4))))) fo_none))))) (hgo 1 _ _ _ z4 h_z4))))))))))))
theorem fb_X13_visit_1 {K : Nat} {z0 z : ow_MS}  {go : Nat → Int32 → Int32 → Int32 → ow_MS → Option (Int32 × ow_MS)} {x1 : Int32} {x2 : Int32} {x3 : Int32}  (hgo : ∀ (L : Nat) (x1 : Int32) (x2 : Int32) (x3 : Int32) (z : ow_MS), fr (pf [1] []) z0 z → Fo Prod.snd (pf [1] []) z0 (go L x1 x2 x3 z)) (hz : fr (pf [1] []) z0 z)  : Fo Prod.snd (pf [1] []) z0 (qm_X13_visit_1 K go x1 x2 x3 z) := by
  unfold qm_X13_visit_1
  exact (fo_cs1 (ff_X13_fails) (pf_sub (by decide) pf_0) hz (fun v16 z15 h_z15 => (fo_some h_z15)))
theorem fq_X13_visit {K : Nat} {z0 : ow_MS}   : ∀ (k L : Nat) (x1 : Int32) (x2 : Int32) (x3 : Int32) (z : ow_MS), fr (pf [1] []) z0 z → Fo Prod.snd (pf [1] []) z0 (q_X13_visit K k L x1 x2 x3 z)
  | 0 => by
    intros
    exact fo_none
  | k + 1 => by
    intro L x1 x2 x3 z hz 
    show Fo Prod.snd (pf [1] []) z0 (qb_X13_visit K (q_X13_visit K k) L x1 x2 x3 z)
    unfold qb_X13_visit
    split
    · exact fb_X13_visit_0 (fq_X13_visit k) hz 
    · exact fb_X13_visit_1 (fq_X13_visit k) hz 
    · exact fo_none
theorem ff_X13_visit {K : Nat} {x1 : Int32} {x2 : Int32} {x3 : Int32} {z : ow_MS}  : Fo Prod.snd (pf [1] []) z (qe_X13_visit K x1 x2 x3 z) := fq_X13_visit K 0 _ _ _ z fr_rf 
theorem fb_X13_linking_0 {K : Nat} {z0 z : ow_MS}  {go : Nat → Int32 → Int32 → Int32 → Int32 → Int32 → ow_MS → Option (Int32 × ow_MS)} {x1 : Int32} {x2 : Int32} {x3 : Int32} {x4 : Int32} {x5 : Int32}  (hgo : ∀ (L : Nat) (x1 : Int32) (x2 : Int32) (x3 : Int32) (x4 : Int32) (x5 : Int32) (z : ow_MS), fr (pf [1] []) z0 z → Fo Prod.snd (pf [1] []) z0 (go L x1 x2 x3 x4 x5 z)) (hz : fr (pf [1] []) z0 z)  : Fo Prod.snd (pf [1] []) z0 (qm_X13_linking_0 K go x1 x2 x3 x4 x5 z) := by
  unfold qm_X13_linking_0
  exact (fo_wrF (Or.inl (by decide)) hz (fun z1 h_z1 => (fo_cs1 (ff_X13_has) (pf_sub (by decide) pf_0) h_z1 (fun v3 z2 h_z2 => (fo_if (fo_cs1 (ff_X13_fails) (pf_sub (by decide) pf_0) h_z2 (fun v10 z9 h_z9 => (fo_some h_z9))) (fo_cs0 (ff_X13_open (by first | omega | decide)) (pf_sub (by decide) pf_0) h_z2 (fun z4 h_z4 => (fo_if (hgo 1 _ _ _ _ _ z4 h_z4) (fo_rdF (fun v5 => (fo_if (hgo 1 _ _ _ _ _ z4 h_z4) (fo_if (hgo 1 _ _ _ _ _ z4 h_z4) (fo_rdF (fun v6 => (fo_if (fo_if (fo_cs1 (ff_X13_fails) (pf_sub (by decide) pf_0) h_z4 (fun v8 z7 h_z7 => (fo_some h_z7))) (hgo 2 _ _ _ _ _ z4 h_z4)) (hgo 1 _ _ _ _ _ z4 h_z4))))))))))))))))
theorem fb_X13_linking_1 {K : Nat} {z0 z : ow_MS}  {go : Nat → Int32 → Int32 → Int32 → Int32 → Int32 → ow_MS → Option (Int32 × ow_MS)} {x1 : Int32} {x2 : Int32} {x3 : Int32} {x4 : Int32} {x5 : Int32}  (hgo : ∀ (L : Nat) (x1 : Int32) (x2 : Int32) (x3 : Int32) (x4 : Int32) (x5 : Int32) (z : ow_MS), fr (pf [1] []) z0 z → Fo Prod.snd (pf [1] []) z0 (go L x1 x2 x3 x4 x5 z)) (hz : fr (pf [1] []) z0 z)  : Fo Prod.snd (pf [1] []) z0 (qm_X13_linking_1 K go x1 x2 x3 x4 x5 z) := by
  unfold qm_X13_linking_1
  exact (fo_cs1 (ff_X13_fails) (pf_sub (by decide) pf_0) hz (fun v12 z11 h_z11 => (fo_some h_z11)))
theorem fb_X13_linking_2 {K : Nat} {z0 z : ow_MS}  {go : Nat → Int32 → Int32 → Int32 → Int32 → Int32 → ow_MS → Option (Int32 × ow_MS)} {x1 : Int32} {x2 : Int32} {x3 : Int32} {x4 : Int32} {x5 : Int32}  (hgo : ∀ (L : Nat) (x1 : Int32) (x2 : Int32) (x3 : Int32) (x4 : Int32) (x5 : Int32) (z : ow_MS), fr (pf [1] []) z0 z → Fo Prod.snd (pf [1] []) z0 (go L x1 x2 x3 x4 x5 z)) (hz : fr (pf [1] []) z0 z)  : Fo Prod.snd (pf [1] []) z0 (qm_X13_linking_2 K go x1 x2 x3 x4 x5 z) := by
  unfold qm_X13_linking_2
  exact (fo_rdF (fun v13 => (fo_if (fo_nzI (fo_some hz)) (fo_rdI (fun v14 => (fo_if (fo_rdI (fun v15 => (fo_rdI (fun v16 => (fo_if (fo_rdI (fun v17 => (fo_rdI (fun v18 => (hgo 3 _ _ _ _ _ z hz))))) (hgo 3 _ _ _ _ _ z hz)))))) (hgo 3 _ _ _ _ _ z hz)))))))
theorem fb_X13_linking_3 {K : Nat} {z0 z : ow_MS}  {go : Nat → Int32 → Int32 → Int32 → Int32 → Int32 → ow_MS → Option (Int32 × ow_MS)} {x1 : Int32} {x2 : Int32} {x3 : Int32} {x4 : Int32} {x5 : Int32}  (hgo : ∀ (L : Nat) (x1 : Int32) (x2 : Int32) (x3 : Int32) (x4 : Int32) (x5 : Int32) (z : ow_MS), fr (pf [1] []) z0 z → Fo Prod.snd (pf [1] []) z0 (go L x1 x2 x3 x4 x5 z)) (hz : fr (pf [1] []) z0 z)  : Fo Prod.snd (pf [1] []) z0 (qm_X13_linking_3 K go x1 x2 x3 x4 x5 z) := by
  unfold qm_X13_linking_3
  exact (hgo 2 _ _ _ _ _ z hz)
theorem fq_X13_linking {K : Nat} {z0 : ow_MS}   : ∀ (k L : Nat) (x1 : Int32) (x2 : Int32) (x3 : Int32) (x4 : Int32) (x5 : Int32) (z : ow_MS), fr (pf [1] []) z0 z → Fo Prod.snd (pf [1] []) z0 (q_X13_linking K k L x1 x2 x3 x4 x5 z)
  | 0 => by
    intros
    exact fo_none
  | k + 1 => by
    intro L x1 x2 x3 x4 x5 z hz 
    show Fo Prod.snd (pf [1] []) z0 (qb_X13_linking K (q_X13_linking K k) L x1 x2 x3 x4 x5 z)
    unfold qb_X13_linking
    split
    · exact fb_X13_linking_0 (fq_X13_linking k) hz 
    · exact fb_X13_linking_1 (fq_X13_linking k) hz 
    · exact fb_X13_linking_2 (fq_X13_linking k) hz 
    · exact fb_X13_linking_3 (fq_X13_linking k) hz 
    · exact fo_none
theorem ff_X13_linking {K : Nat} {x1 : Int32} {x2 : Int32} {x3 : Int32} {z : ow_MS}  : Fo Prod.snd (pf [1] []) z (qe_X13_linking K x1 x2 x3 z) := fq_X13_linking K 0 _ _ _ _ _ z fr_rf 
theorem fb_X13_isSame_0 {K : Nat} {z0 z : ow_MS}  {go : Nat → Int32 → Int32 → Int32 → Nat → Nat → ow_MS → Option (Int32 × ow_MS)} {x1 : Int32} {x3 : Int32} {x4 : Int32} {r0 : Nat} {r2 : Nat}  (hgo : ∀ (L : Nat) (x1 : Int32) (x3 : Int32) (x4 : Int32) (r0 : Nat) (r2 : Nat) (z : ow_MS), fr (pf [] []) z0 z → Fo Prod.snd (pf [] []) z0 (go L x1 x3 x4 r0 r2 z)) (hz : fr (pf [] []) z0 z)  : Fo Prod.snd (pf [] []) z0 (qm_X13_isSame_0 K go x1 x3 x4 r0 r2 z) := by
  unfold qm_X13_isSame_0
  exact (hgo 1 _ _ _ _ _ z hz)
theorem fb_X13_isSame_1 {K : Nat} {z0 z : ow_MS}  {go : Nat → Int32 → Int32 → Int32 → Nat → Nat → ow_MS → Option (Int32 × ow_MS)} {x1 : Int32} {x3 : Int32} {x4 : Int32} {r0 : Nat} {r2 : Nat}  (hgo : ∀ (L : Nat) (x1 : Int32) (x3 : Int32) (x4 : Int32) (r0 : Nat) (r2 : Nat) (z : ow_MS), fr (pf [] []) z0 z → Fo Prod.snd (pf [] []) z0 (go L x1 x3 x4 r0 r2 z)) (hz : fr (pf [] []) z0 z)  : Fo Prod.snd (pf [] []) z0 (qm_X13_isSame_1 K go x1 x3 x4 r0 r2 z) := by
  unfold qm_X13_isSame_1
  exact (fo_rdI (fun v1 => (fo_if (fo_okZ (fo_some hz)) (fo_rdI (fun v2 => (fo_rdI (fun v3 => (fo_if (hgo 1 _ _ _ _ _ z hz) (fo_okZ (fo_some hz))))))))))
theorem fq_X13_isSame {K : Nat} {z0 : ow_MS}   : ∀ (k L : Nat) (x1 : Int32) (x3 : Int32) (x4 : Int32) (r0 : Nat) (r2 : Nat) (z : ow_MS), fr (pf [] []) z0 z → Fo Prod.snd (pf [] []) z0 (q_X13_isSame K k L x1 x3 x4 r0 r2 z)
  | 0 => by
    intros
    exact fo_none
  | k + 1 => by
    intro L x1 x3 x4 r0 r2 z hz 
    show Fo Prod.snd (pf [] []) z0 (qb_X13_isSame K (q_X13_isSame K k) L x1 x3 x4 r0 r2 z)
    unfold qb_X13_isSame
    split
    · exact fb_X13_isSame_0 (fq_X13_isSame k) hz 
    · exact fb_X13_isSame_1 (fq_X13_isSame k) hz 
    · exact fo_none
theorem ff_X13_isSame {K : Nat} {r0 : Nat} {x1 : Int32} {r2 : Nat} {x3 : Int32} {z : ow_MS}  : Fo Prod.snd (pf [] []) z (qe_X13_isSame K r0 x1 r2 x3 z) := fq_X13_isSame K 0 _ _ _ _ _ z fr_rf 
