section
/-! 99zzzzzzzzk.pnet -/
/-! nets as maps of darts: 2 v goes out of visit v, 2 v + 1 comes into it -/
def pn_al (S : ow_NP) (d : Nat) : Nat := if d % 2 = 0 then 2 * S.1 (d / 2) + 1 else 2 * S.2 (d / 2)
def pn_rt (b : Nat → Bool) (d : Nat) : Nat := if (decide (d % 2 = 1) == b (d / 2)) = true then 2 * mt (d / 2) else 2 * mt (d / 2) + 1
def pn_ph (S : ow_NP) (b : Nat → Bool) (d : Nat) : Nat := pn_rt b (pn_al S d)
def pn_E (S : ow_NP) (L : List Nat) : List (Nat × Nat) := L.map (fun v => (2 * v, 2 * S.1 v + 1))
def pn_fl (b : Nat → Bool) : Prop := ∀ v, b (mt v) = !b v
/-- at least k faces -/
def pn_F (c : Nat) (S : ow_NP) (b : Nat → Bool) (k : Nat) : Prop := ∃ (f : Nat → Nat) (X : List Nat), (∀ d, d < 4 * c → f (pn_ph S b d) = f d) ∧ (∀ x, x ∈ X → x < 4 * c) ∧ pm_dv f X ∧ k ≤ X.length
/-- every visit is reached from one of R -/
def pn_P (c : Nat) (S : ow_NP) (R : List Nat) : Prop := ∀ v, v < 2 * c → ∃ r, r ∈ R ∧ r < 2 * c ∧ rch c S r v
def pn_pl (c : Nat) (S : ow_NP) (b : Nat → Bool) : Prop := ∃ R, pn_P c S R ∧ pn_F c S b (c + 2 * R.length)
section PN
variable {c : Nat} {S : ow_NP} {b : Nat → Bool}
theorem pn_al_lt (hv : vn c S) {d : Nat} (h : d < 4 * c) : pn_al S d < 4 * c := by
  have := hv (d / 2) (by omega)
  unfold pn_al
  split <;> omega
theorem pn_al_inv (hv : vn c S) {d : Nat} (h : d < 4 * c) : pn_al S (pn_al S d) = d := by
  obtain ⟨h1, h2, h3, h4⟩ := hv (d / 2) (by omega)
  unfold pn_al
  by_cases e : d % 2 = 0
  · rw [if_pos e, if_neg (by omega), show (2 * S.1 (d / 2) + 1) / 2 = S.1 (d / 2) by omega, h3]
    omega
  · rw [if_neg e, if_pos (by omega), show 2 * S.2 (d / 2) / 2 = S.2 (d / 2) by omega, h4]
    omega
theorem pn_rt_h (d : Nat) : pn_rt b d / 2 = mt (d / 2) := by
  unfold pn_rt
  split <;> omega
theorem mt_h2 (v : Nat) : mt v / 2 = v / 2 := by
  unfold mt
  split <;> omega
theorem pn_rt_lt {d : Nat} (h : d < 4 * c) : pn_rt b d < 4 * c := by
  have h1 := pn_rt_h (b := b) d
  have h2 := mt_lt (q := d / 2) (c := c) (by omega)
  omega
theorem pn_ok (hv : vn c S) : ∀ {L : List Nat}, L.Nodup → (∀ v, v ∈ L → v < 2 * c) → pm_ok (4 * c) (pn_E S L)
  | [], _, _ => trivial
  | v :: L, hn, hl => by
    obtain ⟨n1, n2⟩ := List.nodup_cons.mp hn
    have hvl := hl v List.mem_cons_self
    have h1 := (hv v hvl).1
    refine ⟨by omega, by omega, by omega, fun p hp => ?_, pn_ok hv n2 (fun w hw => hl w (List.mem_cons_of_mem _ hw))⟩
    obtain ⟨w, hw, e⟩ := List.mem_map.mp hp
    have hwl := hl w (List.mem_cons_of_mem _ hw)
    have hne : w ≠ v := fun e9 => n1 (e9 ▸ hw)
    have hne2 : S.1 w ≠ S.1 v := fun e9 => hne (vn_inj hv hwl hvl e9)
    rw [← e]
    show 2 * w ≠ 2 * v ∧ 2 * S.1 w + 1 ≠ 2 * v ∧ 2 * w ≠ 2 * S.1 v + 1 ∧ 2 * S.1 w + 1 ≠ 2 * S.1 v + 1
    omega
theorem pn_al_E (hv : vn c S) {d : Nat} (hd : d < 4 * c) : ∀ {L : List Nat}, L.Nodup → (∀ v, v ∈ L → v < 2 * c) → (if d % 2 = 0 then d / 2 else S.2 (d / 2)) ∈ L → pm_al (pn_E S L) d = pn_al S d
  | [], _, _, h => by cases h
  | v :: L, hn, hl, h => by
    obtain ⟨n1, n2⟩ := List.nodup_cons.mp hn
    have hvl := hl v List.mem_cons_self
    obtain ⟨h1, h2, h3, h4⟩ := hv (d / 2) (by omega)
    obtain ⟨v1, v2, v3, v4⟩ := hv v hvl
    show (if d = 2 * v then 2 * S.1 v + 1 else if d = 2 * S.1 v + 1 then 2 * v else pm_al (pn_E S L) d) = _
    by_cases e1 : d = 2 * v
    · rw [if_pos e1]
      unfold pn_al
      rw [if_pos (by omega), show d / 2 = v by omega]
    · rw [if_neg e1]
      by_cases e2 : d = 2 * S.1 v + 1
      · rw [if_pos e2]
        unfold pn_al
        rw [if_neg (by omega), show d / 2 = S.1 v by omega, v3]
      · rw [if_neg e2]
        refine pn_al_E hv hd n2 (fun w hw => hl w (List.mem_cons_of_mem _ hw)) ?_
        rcases List.mem_cons.mp h with h9 | h9
        · exfalso
          by_cases e0 : d % 2 = 0
          · rw [if_pos e0] at h9
            omega
          · rw [if_neg e0] at h9
            rw [h9] at h4
            omega
        · exact h9
theorem pn_al_R (hv : vn c S) {d : Nat} (hd : d < 4 * c) : pm_al (pn_E S (List.range (2 * c))) d = pn_al S d := by
  refine pn_al_E hv hd List.nodup_range (fun v h => List.mem_range.mp h) (List.mem_range.mpr ?_)
  obtain ⟨h1, h2, h3, h4⟩ := hv (d / 2) (by omega)
  split <;> omega
theorem pn_four (hb : pn_fl b) {f : Nat → Nat} (hf : ∀ d, d < 4 * c → f (pn_rt b d) = f d) {d : Nat} (hd : d < 4 * c) : f d = f (4 * (d / 4)) := by
  have key : ∀ x, x < c → f (4 * x + 1) = f (4 * x) ∧ f (4 * x + 2) = f (4 * x) ∧ f (4 * x + 3) = f (4 * x) := by
    intro x hx
    have b2 := hb (2 * x)
    have m1 : mt (2 * x) = 2 * x + 1 := by unfold mt; rw [if_pos (by omega)]
    have m2 : mt (2 * x + 1) = 2 * x := by unfold mt; rw [if_neg (by omega)]; omega
    rw [m1] at b2
    have r0 := hf (4 * x) (by omega)
    have r1 := hf (4 * x + 1) (by omega)
    have r2 := hf (4 * x + 2) (by omega)
    have r3 := hf (4 * x + 3) (by omega)
    unfold pn_rt at r0 r1 r2 r3
    rw [show 4 * x / 2 = 2 * x by omega, show 4 * x % 2 = 0 by omega, m1] at r0
    rw [show (4 * x + 1) / 2 = 2 * x by omega, show (4 * x + 1) % 2 = 1 by omega, m1] at r1
    rw [show (4 * x + 2) / 2 = 2 * x + 1 by omega, show (4 * x + 2) % 2 = 0 by omega, m2, b2] at r2
    rw [show (4 * x + 3) / 2 = 2 * x + 1 by omega, show (4 * x + 3) % 2 = 1 by omega, m2, b2] at r3
    cases hbx : b (2 * x) with
    | true =>
      rw [hbx] at r0 r1 r2 r3
      rw [if_neg (by decide), show 2 * (2 * x + 1) + 1 = 4 * x + 3 by omega] at r0
      rw [if_pos (by decide), show 2 * (2 * x + 1) = 4 * x + 2 by omega] at r1
      rw [if_pos (by decide), show 2 * (2 * x) = 4 * x by omega] at r2
      exact ⟨r1.symm.trans r2.symm, r2.symm, r0⟩
    | false =>
      rw [hbx] at r0 r1 r2 r3
      rw [if_pos (by decide), show 2 * (2 * x + 1) = 4 * x + 2 by omega] at r0
      rw [if_neg (by decide), show 2 * (2 * x + 1) + 1 = 4 * x + 3 by omega] at r1
      rw [if_neg (by decide), show 2 * (2 * x) + 1 = 4 * x + 1 by omega] at r2
      rw [if_pos (by decide), show 2 * (2 * x) = 4 * x by omega] at r3
      exact ⟨r2.trans r0, r0, r3.symm⟩
  obtain ⟨k1, k2, k3⟩ := key (d / 4) (by omega)
  rcases (show d = 4 * (d / 4) ∨ d = 4 * (d / 4) + 1 ∨ d = 4 * (d / 4) + 2 ∨ d = 4 * (d / 4) + 3 by omega) with e | e | e | e
  · exact congrArg f e
  · exact (congrArg f e).trans k1
  · exact (congrArg f e).trans k2
  · exact (congrArg f e).trans k3
theorem pn_rs (hb : pn_fl b) : pm_rs (4 * c) c (pn_rt b) (fun d => d / 4) := by
  refine ⟨fun d h => pn_rt_lt h, fun d e hd he q => ?_, fun d _ => ?_, fun f hf X hX hv => ?_, (List.range c).map (fun x => 4 * x), fun x hx => ?_, pm_mk (nodup_map List.nodup_range (fun x y _ _ e => by omega)) (fun x y hx hy e => ?_), by rw [List.length_map, List.length_range]; exact Nat.le_refl _⟩
  · have e1 : pn_rt b d / 2 = pn_rt b e / 2 := by rw [q]
    rw [pn_rt_h, pn_rt_h] at e1
    have e2 : d / 2 = e / 2 := by rw [← mt_mt (d / 2), e1, mt_mt]
    unfold pn_rt at q
    rw [e2] at q
    have : decide (d % 2 = 1) = decide (e % 2 = 1) := by
      cases h1 : decide (d % 2 = 1) <;> cases h2 : decide (e % 2 = 1) <;> cases h3 : b (e / 2) <;> rw [h1, h2, h3] at q
      all_goals first
        | rfl
        | (exfalso; revert q; simp; done)
        | (exfalso; simp at q; omega)
    have := decide_eq_decide.mp this
    omega
  · show pn_rt b d / 4 = d / 4
    have h1 := pn_rt_h (b := b) d
    have h2 := mt_h2 (d / 2)
    omega
  · have := nodup_le (X.map f) ((List.range c).map (fun x => f (4 * x))) hv (fun a ha => by
      obtain ⟨x, hx, e⟩ := List.mem_map.mp ha
      have hx4 := hX x hx
      rw [← e, pn_four hb hf hx4]
      exact List.mem_map.mpr ⟨x / 4, List.mem_range.mpr (by omega), rfl⟩)
    rw [List.length_map, List.length_map, List.length_range] at this
    exact this
  · obtain ⟨y, hy, e⟩ := List.mem_map.mp hx
    have := List.mem_range.mp hy
    omega
  · obtain ⟨x', -, e1⟩ := List.mem_map.mp hx
    obtain ⟨y', -, e2⟩ := List.mem_map.mp hy
    omega
theorem pn_k0 (d : Nat) : d / 2 % 2 < 2 ∧ pn_rt b d / 2 % 2 = 1 - d / 2 % 2 := by
  refine ⟨by omega, ?_⟩
  rw [pn_rt_h]
  unfold mt
  split <;> omega
theorem pn_at0 (u : Nat) : pn_rt b (2 * u) = if b u = true then 2 * mt u + 1 else 2 * mt u := by
  unfold pn_rt
  rw [show 2 * u / 2 = u by omega, show 2 * u % 2 = 0 by omega]
  cases b u <;> rfl
theorem pn_at1 (u : Nat) : pn_rt b (2 * u + 1) = if b u = true then 2 * mt u else 2 * mt u + 1 := by
  unfold pn_rt
  rw [show (2 * u + 1) / 2 = u by omega, show (2 * u + 1) % 2 = 1 by omega]
  cases b u <;> rfl
theorem pn_sq (hb : pn_fl b) (u : Nat) : pn_rt b (pn_rt b (2 * u)) = 2 * u + 1 ∧ pn_rt b (pn_rt b (2 * u + 1)) = 2 * u := by
  have hm := hb u
  rw [pn_at0, pn_at1]
  cases e : b u with
  | true =>
    rw [e] at hm
    rw [if_pos rfl, if_pos rfl, pn_at1, pn_at0, hm, mt_mt]
    exact ⟨rfl, rfl⟩
  | false =>
    rw [e] at hm
    rw [if_neg (by decide), if_neg (by decide), pn_at1, pn_at0, hm, mt_mt]
    exact ⟨rfl, rfl⟩
theorem pn_al0 (u : Nat) : pn_al S (2 * u) = 2 * S.1 u + 1 := by
  unfold pn_al
  rw [if_pos (by omega), show 2 * u / 2 = u by omega]
theorem pn_al1 (u : Nat) : pn_al S (2 * u + 1) = 2 * S.2 u := by
  unfold pn_al
  rw [if_neg (by omega), show (2 * u + 1) / 2 = u by omega]
/-- what is reached by darts: both darts of each visit that is reached -/
theorem pn_cn (hv : vn c S) (hb : pn_fl b) {al : Nat → Nat} (ha : ∀ d, d < 4 * c → al d = pn_al S d) {r v : Nat} (h0 : r < 2 * c) (h : rch c S r v) : pm_cn (4 * c) (pn_rt b) al (2 * r) (2 * v) ∧ pm_cn (4 * c) (pn_rt b) al (2 * r) (2 * v + 1) := by
  refine (h (fun u => u < 2 * c ∧ pm_cn (4 * c) (pn_rt b) al (2 * r) (2 * u) ∧ pm_cn (4 * c) (pn_rt b) al (2 * r) (2 * u + 1)) ⟨h0, cn_rf _, ?_⟩ (fun u hu hp => ?_) (fun u hu hp => ?_)).2
  · have := cn_r (n := 4 * c) (al := al) (pn_rt_lt (b := b) (show 2 * r < 4 * c by omega)) (cn_r (show 2 * r < 4 * c by omega) (cn_rf (2 * r)))
    rw [(pn_sq hb r).1] at this
    exact this
  · obtain ⟨-, p1, p2⟩ := hp
    have hn := (hv u hu).1
    have q1 := cn_a (show 2 * u < 4 * c by omega) p1
    rw [ha _ (by omega), pn_al0] at q1
    refine ⟨hn, ?_, q1⟩
    have := cn_r (pn_rt_lt (b := b) (show 2 * S.1 u + 1 < 4 * c by omega)) (cn_r (show 2 * S.1 u + 1 < 4 * c by omega) q1)
    rw [(pn_sq hb _).2] at this
    exact this
  · obtain ⟨-, p1, p2⟩ := hp
    have q1 := cn_r (show 2 * u < 4 * c by omega) p1
    have q2 := cn_r (show 2 * u + 1 < 4 * c by omega) p2
    rw [pn_at0] at q1
    rw [pn_at1] at q2
    refine ⟨mt_lt hu, ?_⟩
    cases e : b u with
    | true =>
      rw [e, if_pos rfl] at q1 q2
      exact ⟨q2, q1⟩
    | false =>
      rw [e, if_neg (by decide)] at q1 q2
      exact ⟨q1, q2⟩
theorem pn_cv (hv : vn c S) (hb : pn_fl b) {al : Nat → Nat} (ha : ∀ d, d < 4 * c → al d = pn_al S d) {R : List Nat} (hR : pn_P c S R) : pm_cv (4 * c) (pn_rt b) al (R.map (fun r => 2 * r)) := by
  intro d hd
  obtain ⟨r, r1, r2, r3⟩ := hR (d / 2) (by omega)
  obtain ⟨k1, k2⟩ := pn_cn hv hb ha r2 r3
  refine ⟨2 * r, List.mem_map.mpr ⟨r, r1, rfl⟩, by omega, ?_⟩
  by_cases e : d % 2 = 0
  · rw [show 2 * (d / 2) = d by omega] at k1
    exact k1
  · rw [show 2 * (d / 2) + 1 = d by omega] at k2
    exact k2
theorem pn_eul (hv : vn c S) (hb : pn_fl b) {R : List Nat} {k : Nat} (hR : pn_P c S R) (hF : pn_F c S b k) : k ≤ c + 2 * R.length := by
  obtain ⟨f, X, f1, f2, f3, f4⟩ := hF
  have hal : ∀ d, d < 4 * c → pm_al (pn_E S (List.range (2 * c))) d = pn_al S d := fun d hd => pn_al_R hv hd
  have := pm_euler (pn_rs (c := c) hb) (pn_ok hv List.nodup_range (fun v h => List.mem_range.mp h)) (pn_cv hv hb hal hR) (f := f) (fun d hd => by rw [hal d hd]; exact f1 d hd) f2 f3
  unfold pn_E at this
  rw [List.length_map, List.length_map, List.length_range] at this
  omega
/-- a plane net has two kinds of visits -/
theorem pn_kap (hv : vn c S) (hb : pn_fl b) (hp : pn_pl c S b) : ∃ κ : Nat → Bool, ∀ d, d < 4 * c → κ (pn_rt b d) = !κ d ∧ κ (pn_al S d) = !κ d := by
  obtain ⟨R, hR, f, X, f1, f2, f3, f4⟩ := hp
  have hal : ∀ d, d < 4 * c → pm_al (pn_E S (List.range (2 * c))) d = pn_al S d := fun d hd => pn_al_R hv hd
  obtain ⟨κ, hκ⟩ := pm_two (k0 := fun d => d / 2 % 2) (pn_rs (c := c) hb) (fun d _ => pn_k0 d) (pn_ok hv List.nodup_range (fun v h => List.mem_range.mp h)) (fun d hd e => by
    rw [hal d hd] at e
    unfold pn_al at e
    split at e <;> omega) (pn_cv hv hb hal hR) (f := f) (fun d hd => by rw [hal d hd]; exact f1 d hd) f2 f3 (by
    unfold pn_E
    rw [List.length_map, List.length_map, List.length_range]
    omega)
  exact ⟨κ, fun d hd => ⟨(hκ d hd).1, by rw [← hal d hd]; exact (hκ d hd).2⟩⟩
theorem pn_ga (hv : vn c S) (hb : pn_fl b) (hp : pn_pl c S b) : ∃ w, gaO c S w := by
  obtain ⟨κ, hκ⟩ := pn_kap hv hb hp
  have io : ∀ u, u < 2 * c → κ (2 * u + 1) = κ (2 * u) := fun u hu => by
    have h1 := (hκ (2 * u) (by omega)).1
    have h2 := (hκ _ (pn_rt_lt (b := b) (show 2 * u < 4 * c by omega))).1
    rw [(pn_sq hb u).1, h1, Bool.not_not] at h2
    exact h2
  refine ⟨fun v => κ (2 * v), fun v hvl => ⟨?_, ?_⟩⟩
  · have h1 := (hκ (2 * v) (by omega)).2
    rw [pn_al0, io _ (hv v hvl).1] at h1
    exact h1
  · have h1 := (hκ (2 * v) (by omega)).1
    rw [pn_at0] at h1
    have h2 := io _ (mt_lt hvl)
    split at h1
    · rw [h2] at h1
      exact h1
    · exact h1
end PN
end
section
/-! 99zzzzzzzzl.plnk -/
/-! marks of rounds are kept along rounds; planeness as the class counts it -/
section MRC
variable {N : Nat → Nat} {vs : Nat}
theorem itf_per (hN : ∀ a, a < vs → N a < vs) (hi : ∀ a b, a < vs → b < vs → N a = N b → a = b) {v : Nat} (hv : v < vs) : ∃ m, 1 ≤ m ∧ m ≤ vs ∧ itf N m v = v ∧ ∀ i j, i < m → j < m → itf N i v = itf N j v → i = j := by
  have hlt : ∀ k, itf N k v < vs := fun k => itf_in (D := fun s => s < vs) hN hv k
  -- the least way back
  have ex : ∃ k, itf N (k + 1) v = v := itf_back (f := N) (D := fun s => s < vs) (N := vs) (fun s hs => hs) hN (fun s t hs ht => hi s t hs ht) hv
  obtain ⟨k0, hk0⟩ := ex
  have least : ∀ n, (∃ k, k < n ∧ itf N (k + 1) v = v) → ∃ k, itf N (k + 1) v = v ∧ ∀ j, j < k → itf N (j + 1) v ≠ v := by
    intro n
    induction n with
    | zero => rintro ⟨k, h, -⟩; omega
    | succ n ih =>
      rintro ⟨k, h1, h2⟩
      by_cases h : ∃ j, j < n ∧ itf N (j + 1) v = v
      · exact ih h
      · exact ⟨k, h2, fun j hj e => h ⟨j, by omega, e⟩⟩
  obtain ⟨k, k1, k2⟩ := least (k0 + 1) ⟨k0, by omega, hk0⟩
  have dist : ∀ i j, i < k + 1 → j < k + 1 → itf N i v = itf N j v → i = j := by
    have one : ∀ i j, i < j → j < k + 1 → itf N i v ≠ itf N j v := fun i j hij hj e => by
      have := itf_sub (f := N) (D := fun s => s < vs) hN (fun s t hs ht => hi s t hs ht) hv i (j - i) (by rw [show i + (j - i) = j by omega]; exact e)
      exact k2 (j - i - 1) (by omega) (by rw [show j - i - 1 + 1 = j - i by omega]; exact this)
    intro i j hi9 hj9 e
    rcases Nat.lt_trichotomy i j with h | h | h
    · exact absurd e (one i j h hj9)
    · exact h
    · exact absurd e.symm (one j i h hi9)
  refine ⟨k + 1, by omega, ?_, k1, dist⟩
  have := nodup_le ((List.range (k + 1)).map (fun i => itf N i v)) (List.range vs) (nodup_map List.nodup_range (fun i j hi9 hj9 e => dist i j (List.mem_range.mp hi9) (List.mem_range.mp hj9) e)) (fun a ha => by
    obtain ⟨i, -, e⟩ := List.mem_map.mp ha
    rw [← e]
    exact List.mem_range.mpr (hlt i))
  rw [List.length_map, List.length_range, List.length_range] at this
  exact this
def mrC (N : Nat → Nat) (vs : Nat) (F : Nat → Int32) : Prop := ∀ k, k < vs → F (N k) = F k
theorem mr_in_orb {x : Int32} (hx : x ≠ -1) (hN : ∀ a, a < vs → N a < vs) {F0 : Nat → Int32} (hF0 : mrC N vs F0) {v m : Nat} (hv : v < vs) (h0 : F0 v = -1) (hm1 : 1 ≤ m) (hm : itf N m v = v) (hd : ∀ i j, i < m → j < m → itf N i v = itf N j v → i = j) : ∀ (d j : Nat) (F : Nat → Int32), j ≤ m → m ≤ d + j → (∀ k, (∃ i, i < j ∧ k = itf N i v) → F k = x) → (∀ k, ¬ (∃ i, i < j ∧ k = itf N i v) → F k = F0 k) → (∀ k, (∃ i, i < m ∧ k = itf N i v) → mr_in N x d F (itf N j v) k = x) ∧ (∀ k, ¬ (∃ i, i < m ∧ k = itf N i v) → mr_in N x d F (itf N j v) k = F0 k) := by
  have hlt : ∀ k, itf N k v < vs := fun k => itf_in (D := fun s => s < vs) hN hv k
  have hall : ∀ i, F0 (itf N i v) = -1 := by
    intro i
    induction i with
    | zero => exact h0
    | succ i ih => exact (hF0 _ (hlt i)).trans ih
  intro d
  induction d with
  | zero =>
    intro j F hj hd1 h1 h2
    have : j = m := by omega
    subst this
    exact ⟨h1, h2⟩
  | succ d ih =>
    intro j F hj hd1 h1 h2
    show (∀ k, _ → (if F (itf N j v) = -1 then mr_in N x d (su F (itf N j v) x) (N (itf N j v)) else F) k = x) ∧ (∀ k, _ → (if F (itf N j v) = -1 then mr_in N x d (su F (itf N j v) x) (N (itf N j v)) else F) k = F0 k)
    by_cases e : j = m
    · subst e
      have e1 : F (itf N j v) = x := h1 _ ⟨0, by omega, hm⟩
      rw [if_neg (by rw [e1]; exact hx)]
      exact ⟨h1, h2⟩
    · have e1 : F (itf N j v) = -1 := by
        rw [h2 _ (fun ⟨i, i1, i2⟩ => by have := hd j i (by omega) (by omega) i2; omega)]
        exact hall j
      rw [if_pos e1]
      refine ih (j + 1) _ (by omega) (by omega) (fun k hk => ?_) (fun k hk => ?_)
      · by_cases ek : k = itf N j v
        · rw [ek]
          exact if_pos rfl
        · obtain ⟨i, i1, i2⟩ := hk
          have : i ≠ j := fun h9 => ek (by rw [← h9]; exact i2)
          exact (if_neg ek).trans (h1 k ⟨i, by omega, i2⟩)
      · have ek : k ≠ itf N j v := fun h9 => hk ⟨j, by omega, h9⟩
        exact (if_neg ek).trans (h2 k (fun ⟨i, i1, i2⟩ => hk ⟨i, by omega, i2⟩))
theorem mr_out_C (hN : ∀ a, a < vs → N a < vs) (hi : ∀ a b, a < vs → b < vs → N a = N b → a = b) (hvs : vs ≤ 48) {F : Nat → Int32} (hF : mrC N vs F) : ∀ n, n ≤ vs → mrC N vs (mr_out N vs F n).1
  | 0, _ => hF
  | n + 1, hn => by
    have ih := mr_out_C hN hi hvs hF n (by omega)
    have hle := mr_out_le N vs F n
    show mrC N vs (if (mr_out N vs F n).1 n = -1 then (mr_in N (nI (mr_out N vs F n).2) vs (mr_out N vs F n).1 n, (mr_out N vs F n).2 + 1) else mr_out N vs F n).1
    by_cases h : (mr_out N vs F n).1 n = -1
    · rw [if_pos h]
      obtain ⟨m, m1, m2, m3, m4⟩ := itf_per hN hi (show n < vs by omega)
      obtain ⟨r1, r2⟩ := mr_in_orb (x := nI (mr_out N vs F n).2) (rn_neg1 (by omega)) hN ih (show n < vs by omega) h m1 m3 m4 vs 0 _ (by omega) (by omega) (fun k hk => by obtain ⟨i, i1, -⟩ := hk; omega) (fun k _ => rfl)
      have r1 : ∀ k, (∃ i, i < m ∧ k = itf N i n) → mr_in N (nI (mr_out N vs F n).2) vs (mr_out N vs F n).1 n k = nI (mr_out N vs F n).2 := r1
      have r2 : ∀ k, ¬ (∃ i, i < m ∧ k = itf N i n) → mr_in N (nI (mr_out N vs F n).2) vs (mr_out N vs F n).1 n k = (mr_out N vs F n).1 k := r2
      intro k hk
      show mr_in N (nI (mr_out N vs F n).2) vs (mr_out N vs F n).1 n (N k) = mr_in N (nI (mr_out N vs F n).2) vs (mr_out N vs F n).1 n k
      by_cases ek : ∃ i, i < m ∧ k = itf N i n
      · rw [r1 k ek]
        obtain ⟨i, i1, i2⟩ := ek
        refine r1 _ ?_
        by_cases e9 : i + 1 = m
        · refine ⟨0, by omega, ?_⟩
          rw [i2]
          show itf N (i + 1) n = n
          rw [e9]
          exact m3
        · exact ⟨i + 1, by omega, by rw [i2]; rfl⟩
      · rw [r2 k ek, r2 (N k) (fun ⟨i, i1, i2⟩ => ek ?_)]
        · exact ih k hk
        · rcases Nat.eq_zero_or_pos i with h0 | h0
          · refine ⟨m - 1, by omega, hi _ _ hk (itf_in (D := fun s => s < vs) hN (by omega) _) ?_⟩
            rw [i2, h0]
            show n = itf N (m - 1 + 1) n
            rw [show m - 1 + 1 = m by omega]
            exact m3.symm
          · refine ⟨i - 1, by omega, hi _ _ hk (itf_in (D := fun s => s < vs) hN (by omega) _) ?_⟩
            rw [i2]
            show itf N i n = itf N (i - 1 + 1) n
            rw [show i - 1 + 1 = i by omega]
    · rw [if_neg h]
      exact ih
end MRC
/-! sides of the class and darts -/
def stG (G : Nat → Int32) (v : Nat) : Bool := decide (v % 2 = 0) == decide (0 < G (v / 2))
def sdD (S : ow_NP) (s : Nat) : Nat := if s % 2 = 0 then s else 2 * S.1 (s / 2) + 1
def dSd (S : ow_NP) (d : Nat) : Nat := if d % 2 = 0 then d else 2 * S.2 (d / 2) + 1
section PLK
variable {c : Nat} {S : ow_NP} {G : Nat → Int32}
theorem stG_fl : pn_fl (stG G) := by
  intro v
  unfold stG
  rw [mt_h2]
  have : decide (mt v % 2 = 0) = !decide (v % 2 = 0) := by
    unfold mt
    by_cases e : v % 2 = 0
    · rw [if_pos e, decide_eq_true e, decide_eq_false (by omega)]
      rfl
    · rw [if_neg e, decide_eq_false e, decide_eq_true (by omega)]
      rfl
  rw [this]
  cases decide (v % 2 = 0) <;> cases decide (0 < G (v / 2)) <;> rfl
theorem sd_on (hv : vn c S) {s : Nat} (hs : s < 4 * c) : sdD S (fc_on S G s) = pn_ph S (stG G) (sdD S s) := by
  have e0 : fc_on S G s = if (stG G (fc_end S.1 s) == decide (s % 2 = 0)) = true then 2 * mt (fc_end S.1 s) else 2 * S.2 (mt (fc_end S.1 s)) + 1 := rfl
  have he : fc_end S.1 s < 2 * c := by
    have := (hv (s / 2) (by omega)).1
    unfold fc_end
    split <;> omega
  have ea : pn_al S (sdD S s) = if s % 2 = 0 then 2 * fc_end S.1 s + 1 else 2 * fc_end S.1 s := by
    unfold sdD fc_end
    by_cases e : s % 2 = 0
    · rw [if_pos e, if_pos e, if_pos e]
      unfold pn_al
      rw [if_pos e]
    · rw [if_neg e, if_neg e, if_neg e, pn_al1, (hv (s / 2) (by omega)).2.2.1]
  have em := (hv _ (mt_lt he)).2.2.2
  rw [e0]
  unfold pn_ph
  rw [ea]
  generalize fc_end S.1 s = e at *
  by_cases es : s % 2 = 0
  · rw [if_pos es, pn_at1, decide_eq_true es]
    cases hq : stG G e with
    | true =>
      rw [if_pos (by rfl), if_pos rfl]
      exact if_pos (by omega)
    | false =>
      rw [if_neg (by decide), if_neg (by decide)]
      unfold sdD
      rw [if_neg (by omega), show (2 * S.2 (mt e) + 1) / 2 = S.2 (mt e) by omega, em]
  · rw [if_neg es, pn_at0, decide_eq_false es]
    cases hq : stG G e with
    | true =>
      rw [if_neg (by decide), if_pos rfl]
      unfold sdD
      rw [if_neg (by omega), show (2 * S.2 (mt e) + 1) / 2 = S.2 (mt e) by omega, em]
    | false =>
      rw [if_pos (by rfl), if_neg (by decide)]
      exact if_pos (by omega)
theorem sdD_lt (hv : vn c S) {s : Nat} (hs : s < 4 * c) : sdD S s < 4 * c := by
  have := (hv (s / 2) (by omega)).1
  unfold sdD
  split <;> omega
theorem dSd_lt (hv : vn c S) {s : Nat} (hs : s < 4 * c) : dSd S s < 4 * c := by
  have := (hv (s / 2) (by omega)).2.1
  unfold dSd
  split <;> omega
theorem sd_ds (hv : vn c S) {s : Nat} (hs : s < 4 * c) : sdD S (dSd S s) = s := by
  have := (hv (s / 2) (by omega)).2.2.2
  unfold dSd sdD
  by_cases e : s % 2 = 0
  · rw [if_pos e, if_pos e]
  · rw [if_neg e, if_neg (by omega), show (2 * S.2 (s / 2) + 1) / 2 = S.2 (s / 2) by omega, this]
    omega
theorem ds_sd (hv : vn c S) {s : Nat} (hs : s < 4 * c) : dSd S (sdD S s) = s := by
  have := (hv (s / 2) (by omega)).2.2.1
  unfold dSd sdD
  by_cases e : s % 2 = 0
  · rw [if_pos e, if_pos e]
  · rw [if_neg e, if_neg (by omega), show (2 * S.1 (s / 2) + 1) / 2 = S.1 (s / 2) by omega, this]
    omega
theorem pn_ph_lt {b : Nat → Bool} (hv : vn c S) {d : Nat} (h : d < 4 * c) : pn_ph S b d < 4 * c := pn_rt_lt (pn_al_lt hv h)
theorem pn_ph_inj {b : Nat → Bool} (hv : vn c S) (hb : pn_fl b) {d e : Nat} (h : d < 4 * c) (h2 : e < 4 * c) (q : pn_ph S b d = pn_ph S b e) : d = e := by
  have := (pn_rs (c := c) hb).2.1 _ _ (pn_al_lt hv h) (pn_al_lt hv h2) q
  rw [← pn_al_inv hv h, this, pn_al_inv hv h2]
theorem fc_on_inj (hv : vn c S) {s t : Nat} (hs : s < 4 * c) (ht : t < 4 * c) (q : fc_on S G s = fc_on S G t) : s = t := by
  have h1 := congrArg (sdD S) q
  rw [sd_on hv hs, sd_on hv ht] at h1
  have := pn_ph_inj hv stG_fl (sdD_lt hv hs) (sdD_lt hv ht) h1
  rw [← ds_sd hv hs, this, ds_sd hv ht]
/-- faces as the class counts them -/
theorem faces_ge (hv : vn c S) (hc : c ≤ 12) : pn_F c S (stG G) (np_faces c S G).2 := by
  have h1 := mr_out_k (κ := fun _ => ()) (N := fc_on S G) (vs := 4 * c) (fun a ha => ⟨fc_on_vn hv G ha, rfl⟩) (F := fun _ => -1) (fun _ _ => rfl) (by omega) (4 * c) (Nat.le_refl _)
  have h2 := mr_out_C (N := fc_on S G) (vs := 4 * c) (fun a ha => fc_on_vn hv G ha) (fun a b ha hb e => fc_on_inj hv ha hb e) (by omega) (F := fun _ => -1) (fun _ _ => rfl) (4 * c) (Nat.le_refl _)
  have e0 : mr_out (fc_on S G) (4 * c) (fun _ => -1) (4 * c) = np_faces c S G := rfl
  rw [e0] at h1 h2
  obtain ⟨i1, i2, i3, i4, -⟩ := h1
  generalize np_faces c S G = R at *
  obtain ⟨L, m⟩ := R
  dsimp only at i1 i2 i3 i4 h2 ⊢
  have lab : ∀ s, s < 4 * c → ∃ r, r < m ∧ L s = nI r := fun s hs => (i2 s hs).resolve_left (i3 s hs)
  -- a side for each mark
  have reps : ∀ n, n ≤ m → ∃ X : List Nat, X.length = n ∧ (∀ x, x ∈ X → x < 4 * c ∧ ∃ r, r < n ∧ L x = nI r) ∧ pm_dv (fun s => (L s).toInt.toNat) X := by
    intro n
    induction n with
    | zero => exact fun _ => ⟨[], rfl, fun x hx => absurd hx List.not_mem_nil, List.nodup_nil⟩
    | succ n ih =>
      intro hn
      obtain ⟨X, x1, x2, x3⟩ := ih (by omega)
      obtain ⟨k, k1, k2⟩ := i4 n (by omega)
      refine ⟨k :: X, by rw [List.length_cons, x1], fun x hx => ?_, ?_⟩
      · rcases List.mem_cons.mp hx with h9 | h9
        · rw [h9]
          exact ⟨k1, n, by omega, k2⟩
        · obtain ⟨q1, r, q2, q3⟩ := x2 x h9
          exact ⟨q1, r, by omega, q3⟩
      · refine List.nodup_cons.mpr ⟨fun h9 => ?_, x3⟩
        obtain ⟨x, hx, e⟩ := List.mem_map.mp h9
        obtain ⟨-, r, q2, q3⟩ := x2 x hx
        have e : (L x).toInt.toNat = (L k).toInt.toNat := e
        rw [k2, q3, nI_toInt (by omega), nI_toInt (by omega)] at e
        omega
  obtain ⟨X, x1, x2, x3⟩ := reps m (Nat.le_refl _)
  refine ⟨fun d => (L (dSd S d)).toInt.toNat, X.map (sdD S), fun d hd => ?_, fun x hx => ?_, ?_, ?_⟩
  · show (L (dSd S (pn_ph S (stG G) d))).toInt.toNat = (L (dSd S d)).toInt.toNat
    have e1 := h2 (dSd S d) (dSd_lt hv hd)
    rw [← e1]
    congr 3
    have e2 := sd_on (G := G) hv (dSd_lt hv hd)
    rw [sd_ds hv hd] at e2
    rw [← e2, ds_sd hv (fc_on_vn hv G (dSd_lt hv hd))]
  · obtain ⟨s, hs, e⟩ := List.mem_map.mp hx
    rw [← e]
    exact sdD_lt hv (x2 s hs).1
  · unfold pm_dv
    rw [List.map_map]
    have : X.map ((fun d => (L (dSd S d)).toInt.toNat) ∘ sdD S) = X.map (fun s => (L s).toInt.toNat) := List.map_congr_left (fun s hs => by
      show (L (dSd S (sdD S s))).toInt.toNat = _
      rw [ds_sd hv (x2 s hs).1])
    rw [this]
    exact x3
  · rw [List.length_map, x1]
    exact Nat.le_refl _
theorem faces_le (hv : vn c S) (hc : c ≤ 12) {k : Nat} (h : pn_F c S (stG G) k) : k ≤ (np_faces c S G).2 := by
  obtain ⟨f, X, f1, f2, f3, f4⟩ := h
  have h1 := mr_out_k (κ := fun s => f (sdD S s)) (N := fc_on S G) (vs := 4 * c) (fun a ha => ⟨fc_on_vn hv G ha, by
    show f (sdD S (fc_on S G a)) = f (sdD S a)
    rw [sd_on hv ha]
    exact f1 _ (sdD_lt hv ha)⟩) (F := fun _ => -1) (fun _ _ => rfl) (by omega) (4 * c) (Nat.le_refl _)
  have e0 : mr_out (fc_on S G) (4 * c) (fun _ => -1) (4 * c) = np_faces c S G := rfl
  rw [e0] at h1
  obtain ⟨i1, i2, i3, i4, i5⟩ := h1
  generalize np_faces c S G = R at *
  obtain ⟨L, m⟩ := R
  dsimp only at i1 i2 i3 i4 i5 ⊢
  have lab : ∀ s, s < 4 * c → ∃ r, r < m ∧ L s = nI r := fun s hs => (i2 s hs).resolve_left (i3 s hs)
  have := nodup_le (X.map (fun d => (L (dSd S d)).toInt.toNat)) (List.range m) (nodup_map (pm_nd f3) (fun x y hx hy e => by
    obtain ⟨r, r1, r2⟩ := lab _ (dSd_lt hv (f2 x hx))
    obtain ⟨q, q1, q2⟩ := lab _ (dSd_lt hv (f2 y hy))
    rw [r2, q2, nI_toInt (by omega), nI_toInt (by omega)] at e
    have e9 : r = q := by omega
    have := i5 _ _ (dSd_lt hv (f2 x hx)) (dSd_lt hv (f2 y hy)) (i3 _ (dSd_lt hv (f2 x hx))) (by rw [r2, q2, e9])
    rw [sd_ds hv (f2 x hx), sd_ds hv (f2 y hy)] at this
    exact pm_inj f3 x y hx hy this)) (fun a ha => by
    obtain ⟨x, hx, e⟩ := List.mem_map.mp ha
    obtain ⟨r, r1, r2⟩ := lab _ (dSd_lt hv (f2 x hx))
    rw [← e, r2, nI_toInt (by omega)]
    exact List.mem_range.mpr (by omega))
  rw [List.length_map, List.length_range] at this
  omega
theorem parts_P (hv : vn c S) (hc : c ≤ 12) : ∃ R : List Nat, R.length = (np_parts c S.1).2 ∧ pn_P c S R := by
  obtain ⟨-, i2, i3, -⟩ := parts_I hv hc
  have reps : ∀ n, n ≤ (np_parts c S.1).2 → ∃ R : List Nat, R.length = n ∧ ∀ r, r < n → ∃ v, v ∈ R ∧ v < 2 * c ∧ (np_parts c S.1).1 v = nI r := by
    intro n
    induction n with
    | zero => exact fun _ => ⟨[], rfl, fun r hr => absurd hr (Nat.not_lt_zero _)⟩
    | succ n ih =>
      intro hn
      obtain ⟨R, r1, r2⟩ := ih (by omega)
      obtain ⟨v, v1, v2⟩ := i3 n (by omega)
      refine ⟨v :: R, by rw [List.length_cons, r1], fun r hr => ?_⟩
      by_cases e : r = n
      · rw [e]
        exact ⟨v, List.mem_cons_self, v1, v2⟩
      · obtain ⟨u, u1, u2⟩ := r2 r (by omega)
        exact ⟨u, List.mem_cons_of_mem _ u1, u2⟩
  obtain ⟨R, r1, r2⟩ := reps _ (Nat.le_refl _)
  refine ⟨R, r1, fun v hvl => ?_⟩
  obtain ⟨r, q1, q2⟩ := i2 v hvl
  obtain ⟨u, u1, u2, u3⟩ := r2 r q1
  exact ⟨u, u1, u2, (parts_iff hv hc u2 hvl).mp (by rw [u3, q2])⟩
theorem parts_ub (hv : vn c S) (hc : c ≤ 12) {R : List Nat} (hR : pn_P c S R) : (np_parts c S.1).2 ≤ R.length := by
  obtain ⟨-, i2, i3, i4⟩ := parts_I hv hc
  have := nodup_le ((List.range (np_parts c S.1).2).map nI) (R.map (np_parts c S.1).1) (nodup_map List.nodup_range (fun a b ha hb e => ow_nI_inj (by have := List.mem_range.mp ha; omega) (by have := List.mem_range.mp hb; omega) e)) (fun a ha => by
    obtain ⟨r, hr, e⟩ := List.mem_map.mp ha
    obtain ⟨v, v1, v2⟩ := i3 r (List.mem_range.mp hr)
    obtain ⟨u, u1, u2, u3⟩ := hR v v1
    exact List.mem_map.mpr ⟨u, u1, by rw [(parts_iff hv hc u2 v1).mpr u3, v2, e]⟩)
  rw [List.length_map, List.length_map, List.length_range] at this
  exact this
/-- plane as the class counts it is plane -/
theorem plane_iff {T : ow_NT} (hv : vn T.1 T.2.2.1) (hc : T.1 ≤ 12) : nt_plane T = true ↔ pn_pl T.1 T.2.2.1 (stG T.2.2.2) := by
  obtain ⟨R, r1, r2⟩ := parts_P hv hc
  unfold nt_plane
  rw [decide_eq_true_iff]
  constructor
  · intro h
    refine ⟨R, r2, ?_⟩
    have := faces_ge (G := T.2.2.2) hv hc
    rw [h, ← r1] at this
    exact this
  · rintro ⟨R', p1, p2⟩
    have h1 := parts_ub hv hc p1
    have h2 := faces_le hv hc p2
    have h3 := pn_eul hv stG_fl r2 (faces_ge (G := T.2.2.2) hv hc)
    omega
theorem plane_ga {T : ow_NT} (hv : vn T.1 T.2.2.1) (hc : T.1 ≤ 12) (h : nt_plane T = true) : gaT T.1 T.2.2.1 := pn_ga hv stG_fl ((plane_iff hv hc).mp h)
end PLK
end
section
/-! 99zzzzzzzzm.pexc -/
/-! two gaps exchanged in a plane net -/
def pm_or (p : Nat → Nat) (a d : Nat) : Prop := ∃ i, itf p i a = d
theorem pm_sp_e {f : Nat → Nat} {P : Nat → Bool} {p x y : Nat} (hP : P x = P y) (hf : f x = f y) : pm_sp f P p x = pm_sp f P p y := by
  unfold pm_sp
  simp only [hP, hf]
section OR
variable {n a b : Nat} {p q : Nat → Nat}
theorem itf_add (p : Nat → Nat) (a : Nat) : ∀ i j, itf p (i + j) a = itf p i (itf p j a)
  | 0, j => by rw [Nat.zero_add]; rfl
  | i + 1, j => by
    rw [show i + 1 + j = (i + j) + 1 by omega]
    show p (itf p (i + j) a) = p (itf p i (itf p j a))
    rw [itf_add p a i j]
theorem or_rf (a : Nat) : pm_or p a a := ⟨0, rfl⟩
theorem or_tr {a b d : Nat} (h : pm_or p a b) (h2 : pm_or p b d) : pm_or p a d := by
  obtain ⟨i, rfl⟩ := h
  obtain ⟨j, rfl⟩ := h2
  exact ⟨j + i, itf_add p a j i⟩
theorem or_st (a : Nat) : pm_or p a (p a) := ⟨1, rfl⟩
theorem or_sy (hl : ∀ d, d < n → p d < n) (hi : ∀ d e, d < n → e < n → p d = p e → d = e) {a d : Nat} (ha : a < n) (h : pm_or p a d) : pm_or p d a := by
  obtain ⟨i, rfl⟩ := h
  obtain ⟨m, m1, -, m3, -⟩ := itf_per hl hi ha
  have per : ∀ k, itf p (k * m) a = a := by
    intro k
    induction k with
    | zero => rw [Nat.zero_mul]; rfl
    | succ k ih => rw [Nat.succ_mul, itf_add, m3, ih]
  refine ⟨(i + 1) * m - i, ?_⟩
  have hle : i ≤ (i + 1) * m := Nat.le_trans (Nat.le_succ i) (Nat.le_mul_of_pos_right _ (by omega))
  rw [← itf_add, Nat.sub_add_cancel hle]
  exact per _
theorem or_lab {β : Type} {f : Nat → β} (hl : ∀ d, d < n → p d < n) (hf : ∀ d, d < n → f (p d) = f d) {a d : Nat} (ha : a < n) (h : pm_or p a d) : f d = f a := by
  obtain ⟨i, rfl⟩ := h
  induction i with
  | zero => rfl
  | succ i ih => exact (hf _ (itf_in (D := fun s => s < n) hl ha i)).trans ih
/-- a map changed at two places -/
def pm_tp (p q : Nat → Nat) (a b : Nat) : Prop := q a = p b ∧ q b = p a ∧ ∀ d, d ≠ a → d ≠ b → q d = p d
theorem tp_lt (h : pm_tp p q a b) (hl : ∀ d, d < n → p d < n) (ha : a < n) (hb : b < n) : ∀ d, d < n → q d < n := by
  intro d hd
  by_cases e1 : d = a
  · rw [e1, h.1]; exact hl b hb
  · by_cases e2 : d = b
    · rw [e2, h.2.1]; exact hl a ha
    · rw [h.2.2 d e1 e2]; exact hl d hd
theorem tp_inj (h : pm_tp p q a b) (hi : ∀ d e, d < n → e < n → p d = p e → d = e) (ha : a < n) (hb : b < n) : ∀ d e, d < n → e < n → q d = q e → d = e := by
  have key : ∀ d, d < n → ∃ d', d' < n ∧ q d = p d' ∧ d' = (if d = a then b else if d = b then a else d) := by
    intro d hd
    by_cases e1 : d = a
    · exact ⟨b, hb, by rw [e1, h.1], by rw [if_pos e1]⟩
    · by_cases e2 : d = b
      · exact ⟨a, ha, by rw [e2, h.2.1], by rw [if_neg e1, if_pos e2]⟩
      · exact ⟨d, hd, h.2.2 d e1 e2, by rw [if_neg e1, if_neg e2]⟩
  intro d e hd he q1
  obtain ⟨d', d1, d2, d3⟩ := key d hd
  obtain ⟨e', e1, e2, e3⟩ := key e he
  have := hi _ _ d1 e1 (by rw [← d2, ← e2, q1])
  rw [d3, e3] at this
  split at this <;> split at this <;> (try split at this) <;> (try split at this) <;> omega
theorem tp_mg (h : pm_tp p q a b) {f : Nat → Nat} (hf : ∀ d, d < n → f (p d) = f d) (ha : a < n) (hb : b < n) : ∀ d, d < n → pm_mg f (f a) (f b) (q d) = pm_mg f (f a) (f b) d := by
  intro d hd
  by_cases e1 : d = a
  · rw [e1, h.1, pm_mg_e (hf b hb)]
    exact pm_mg_m.symm
  · by_cases e2 : d = b
    · rw [e2, h.2.1, pm_mg_e (hf a ha)]
      exact pm_mg_m
    · rw [h.2.2 d e1 e2]
      exact pm_mg_e (hf d hd)
/-- a round parted -/
theorem tp_no (h : pm_tp p q a b) (hl : ∀ d, d < n → p d < n) (hi : ∀ d e, d < n → e < n → p d = p e → d = e) (ha : a < n) (hne : a ≠ b) (ho : pm_or p a b) : ¬ pm_or q a b := by
  obtain ⟨M, m1, -, m3, m4⟩ := itf_per hl hi ha
  have red : ∃ m, m < M ∧ itf p m a = b := by
    obtain ⟨i, hi2⟩ := ho
    have : ∀ i, ∃ m, m < M ∧ itf p m a = itf p i a := by
      intro i
      induction i with
      | zero => exact ⟨0, by omega, rfl⟩
      | succ i ih =>
        obtain ⟨m, e1, e2⟩ := ih
        have e3 : itf p (m + 1) a = itf p (i + 1) a := congrArg p e2
        by_cases e : m + 1 = M
        · exact ⟨0, by omega, by rw [← e3, e, m3]; rfl⟩
        · exact ⟨m + 1, by omega, e3⟩
    obtain ⟨m, e1, e2⟩ := this i
    exact ⟨m, e1, e2.trans hi2⟩
  obtain ⟨m, hm, eb⟩ := red
  have hm0 : m ≠ 0 := fun e => hne (by rw [← eb, e]; rfl)
  have key : ∀ j, ∃ i, m < i ∧ i ≤ M ∧ itf q j a = itf p i a := by
    intro j
    induction j with
    | zero => exact ⟨M, by omega, by omega, m3.symm⟩
    | succ j ih =>
      obtain ⟨i, i1, i2, i3⟩ := ih
      show ∃ i', m < i' ∧ i' ≤ M ∧ q (itf q j a) = itf p i' a
      rw [i3]
      by_cases e : i = M
      · refine ⟨m + 1, by omega, by omega, ?_⟩
        rw [e, m3, h.1, ← eb]
        rfl
      · have h1 : itf p i a ≠ a := fun e9 => by have := m4 i 0 (by omega) (by omega) e9; omega
        have h2 : itf p i a ≠ b := fun e9 => by have := m4 i m (by omega) hm (e9.trans eb.symm); omega
        exact ⟨i + 1, by omega, by omega, by rw [h.2.2 _ h1 h2]; rfl⟩
  rintro ⟨j, hj⟩
  obtain ⟨i, i1, i2, i3⟩ := key j
  rw [hj, ← eb] at i3
  by_cases e : i = M
  · rw [e, m3] at i3
    have := m4 m 0 hm (by omega) i3
    omega
  · have := m4 m i hm (by omega) i3
    omega
theorem tp_sp (h : pm_tp p q a b) (hl : ∀ d, d < n → p d < n) (hi : ∀ d e, d < n → e < n → p d = p e → d = e) (ha : a < n) (hb : b < n) (hne : a ≠ b) (ho : pm_or p a b) {f : Nat → Nat} (hf : ∀ d, d < n → f (p d) = f d) {X : List Nat} (hX : ∀ x, x ∈ X → x < n) (hv : pm_dv f X) : ∃ (g : Nat → Nat) (Y : List Nat), (∀ d, d < n → g (q d) = g d) ∧ (∀ y, y ∈ Y → y < n) ∧ pm_dv g Y ∧ X.length + 1 ≤ Y.length := by
  have hno := tp_no h hl hi ha hne ho
  have hl2 := tp_lt h hl ha hb
  have hi2 := tp_inj h hi ha hb
  have eab : f a = f b := (or_lab hl hf ha ho).symm
  obtain ⟨Y, y1, y2, y3⟩ := pm_sp_dv (P := fun d => @decide (pm_or q a d) (Classical.propDecidable _)) (a := a) (b := b) hv (@decide_eq_true _ (Classical.propDecidable _) (or_rf a)) (@decide_eq_false _ (Classical.propDecidable _) hno) eab
  refine ⟨_, Y, fun d hd => ?_, fun y hy => ?_, y3, y2⟩
  · have fq : f (q d) = f d := by
      by_cases e1 : d = a
      · rw [e1, h.1, hf b hb, eab]
      · by_cases e2 : d = b
        · rw [e2, h.2.1, hf a ha, eab]
        · rw [h.2.2 d e1 e2, hf d hd]
    have pq : @decide (pm_or q a (q d)) (Classical.propDecidable _) = @decide (pm_or q a d) (Classical.propDecidable _) := by
      by_cases h1 : pm_or q a d
      · rw [@decide_eq_true _ (Classical.propDecidable _) h1, @decide_eq_true _ (Classical.propDecidable _) (or_tr h1 (or_st d))]
      · rw [@decide_eq_false _ (Classical.propDecidable _) h1, @decide_eq_false _ (Classical.propDecidable _) (fun h9 => h1 (or_tr h9 (or_sy hl2 hi2 hd (or_st d))))]
    exact pm_sp_e pq fq
  · rcases y1 y hy with h9 | h9 | h9
    · rw [h9]; exact ha
    · rw [h9]; exact hb
    · exact hX y h9
end OR
section EX
variable {c : Nat} {S : ow_NP} {b : Nat → Bool} {v w : Nat}
/-- the map of darts between the two exchanges -/
def pn_md (S : ow_NP) (b : Nat → Bool) (v w d : Nat) : Nat := if d = 2 * v then pn_ph S b (2 * w) else if d = 2 * w then pn_ph S b (2 * v) else pn_ph S b d
def pn_mo (S : ow_NP) (b : Nat → Bool) (v w d : Nat) : Nat := if d = 2 * S.1 v + 1 then pn_ph S b (2 * S.1 w + 1) else if d = 2 * S.1 w + 1 then pn_ph S b (2 * S.1 v + 1) else pn_ph S b d
theorem md_tp (hne : v ≠ w) : pm_tp (pn_ph S b) (pn_md S b v w) (2 * v) (2 * w) := by
  refine ⟨if_pos rfl, ?_, fun d h1 h2 => ?_⟩
  · unfold pn_md
    rw [if_neg (by omega), if_pos rfl]
  · unfold pn_md
    rw [if_neg h1, if_neg h2]
theorem mo_tp (hne : S.1 v ≠ S.1 w) : pm_tp (pn_ph S b) (pn_mo S b v w) (2 * S.1 v + 1) (2 * S.1 w + 1) := by
  refine ⟨if_pos rfl, ?_, fun d h1 h2 => ?_⟩
  · unfold pn_mo
    rw [if_neg (by omega), if_pos rfl]
  · unfold pn_mo
    rw [if_neg h1, if_neg h2]
theorem ex_al (hv : vn c S) (h1 : v < 2 * c) (h2 : w < 2 * c) (hne : v ≠ w) : pn_al (np_exchange S v w) (2 * v) = pn_al S (2 * w) ∧ pn_al (np_exchange S v w) (2 * w) = pn_al S (2 * v) ∧ pn_al (np_exchange S v w) (2 * S.1 v + 1) = pn_al S (2 * S.1 w + 1) ∧ pn_al (np_exchange S v w) (2 * S.1 w + 1) = pn_al S (2 * S.1 v + 1) ∧ ∀ d, d < 4 * c → d ≠ 2 * v → d ≠ 2 * w → d ≠ 2 * S.1 v + 1 → d ≠ 2 * S.1 w + 1 → pn_al (np_exchange S v w) d = pn_al S d := by
  have hi : S.1 v ≠ S.1 w := fun e => hne (vn_inj hv h1 h2 e)
  have e1 := (hv v h1).2.2.1
  have e2 := (hv w h2).2.2.1
  refine ⟨?_, ?_, ?_, ?_, fun d hd g1 g2 g3 g4 => ?_⟩
  · rw [pn_al0, pn_al0, np_exchange_1, if_neg hne, if_pos rfl]
  · rw [pn_al0, pn_al0, np_exchange_1, if_pos rfl]
  · rw [pn_al1, pn_al1, np_exchange_2, if_pos rfl, e2]
  · rw [pn_al1, pn_al1, np_exchange_2, if_neg (fun e => hi e.symm), if_pos rfl, e1]
  · unfold pn_al
    by_cases e : d % 2 = 0
    · rw [if_pos e, if_pos e, np_exchange_1, if_neg (by omega), if_neg (by omega)]
    · rw [if_neg e, if_neg e, np_exchange_2, if_neg (by omega), if_neg (by omega)]
theorem md_tp2 (hv : vn c S) (h1 : v < 2 * c) (h2 : w < 2 * c) (hne : v ≠ w) : ∃ q, (∀ d, d < 4 * c → q d = pn_ph (np_exchange S v w) b d) ∧ pm_tp (pn_md S b v w) q (2 * S.1 v + 1) (2 * S.1 w + 1) := by
  have hi : S.1 v ≠ S.1 w := fun e => hne (vn_inj hv h1 h2 e)
  obtain ⟨a1, a2, a3, a4, a5⟩ := ex_al hv h1 h2 hne
  have k1 : pn_md S b v w (2 * S.1 v + 1) = pn_ph S b (2 * S.1 v + 1) := (md_tp hne).2.2 _ (by omega) (by omega)
  have k2 : pn_md S b v w (2 * S.1 w + 1) = pn_ph S b (2 * S.1 w + 1) := (md_tp hne).2.2 _ (by omega) (by omega)
  refine ⟨fun d => if d = 2 * S.1 v + 1 then pn_md S b v w (2 * S.1 w + 1) else if d = 2 * S.1 w + 1 then pn_md S b v w (2 * S.1 v + 1) else pn_md S b v w d, fun d hd => ?_, if_pos rfl, ?_, fun d g1 g2 => ?_⟩
  · dsimp only
    unfold pn_ph
    by_cases e3 : d = 2 * S.1 v + 1
    · rw [if_pos e3, k2, e3, a3]
      rfl
    · rw [if_neg e3]
      by_cases e4 : d = 2 * S.1 w + 1
      · rw [if_pos e4, k1, e4, a4]
        rfl
      · rw [if_neg e4]
        by_cases e1 : d = 2 * v
        · rw [e1, a1]
          exact (md_tp hne).1
        · by_cases e2 : d = 2 * w
          · rw [e2, a2]
            exact (md_tp hne).2.1
          · rw [a5 d hd e1 e2 e3 e4]
            exact (md_tp hne).2.2 d e1 e2
  · dsimp only
    rw [if_neg (by omega), if_pos rfl]
  · dsimp only
    rw [if_neg g1, if_neg g2]
theorem mo_tp2 (hv : vn c S) (h1 : v < 2 * c) (h2 : w < 2 * c) (hne : v ≠ w) : ∃ q, (∀ d, d < 4 * c → q d = pn_ph (np_exchange S v w) b d) ∧ pm_tp (pn_mo S b v w) q (2 * v) (2 * w) := by
  have hi : S.1 v ≠ S.1 w := fun e => hne (vn_inj hv h1 h2 e)
  obtain ⟨a1, a2, a3, a4, a5⟩ := ex_al hv h1 h2 hne
  have k1 : pn_mo S b v w (2 * v) = pn_ph S b (2 * v) := (mo_tp hi).2.2 _ (by omega) (by omega)
  have k2 : pn_mo S b v w (2 * w) = pn_ph S b (2 * w) := (mo_tp hi).2.2 _ (by omega) (by omega)
  refine ⟨fun d => if d = 2 * v then pn_mo S b v w (2 * w) else if d = 2 * w then pn_mo S b v w (2 * v) else pn_mo S b v w d, fun d hd => ?_, if_pos rfl, ?_, fun d g1 g2 => ?_⟩
  · dsimp only
    unfold pn_ph
    by_cases e3 : d = 2 * v
    · rw [if_pos e3, k2, e3, a1]
      rfl
    · rw [if_neg e3]
      by_cases e4 : d = 2 * w
      · rw [if_pos e4, k1, e4, a2]
        rfl
      · rw [if_neg e4]
        by_cases e1 : d = 2 * S.1 v + 1
        · rw [e1, a3]
          exact (mo_tp hi).1
        · by_cases e2 : d = 2 * S.1 w + 1
          · rw [e2, a4]
            exact (mo_tp hi).2.1
          · rw [a5 d hd e3 e4 e1 e2]
            exact (mo_tp hi).2.2 d e1 e2
  · dsimp only
    rw [if_neg (by omega), if_pos rfl]
  · dsimp only
    rw [if_neg g1, if_neg g2]
/-! parts of an exchanged net -/
theorem ex_rch_keep (hv : vn c S) (h1 : v < 2 * c) (h2 : w < 2 * c) (hj : rch c (np_exchange S v w) v w) {x u : Nat} (h : rch c S x u) : rch c (np_exchange S v w) x u := by
  have hv' := vn_exchange hv h1 h2
  have hj' := rch_sy hv' h1 hj
  refine h (fun u => rch c (np_exchange S v w) x u) (rch_rf _ _ _) (fun j hjl hp => ?_) (fun j hjl hp => rch_m hp hjl)
  by_cases e1 : j = v
  · have := rch_n (rch_tr hp (by rw [e1]; exact hj)) h2
    rw [np_exchange_1, if_pos rfl] at this
    rw [e1]
    exact this
  · by_cases e2 : j = w
    · have := rch_n (rch_tr hp (by rw [e2]; exact hj')) h1
      rw [np_exchange_1, if_neg (fun e => e1 (e2.trans e.symm)), if_pos rfl] at this
      rw [e2]
      exact this
    · have := rch_n hp hjl
      rw [np_exchange_1, if_neg e2, if_neg e1] at this
      exact this
/-- what is not joined to the places of the exchange stays joined -/
theorem ex_rch_far (hv : vn c S) (h1 : v < 2 * c) (h2 : w < 2 * c) {x u : Nat} (hx : x < 2 * c) (n1 : ¬ rch c S x v) (n2 : ¬ rch c S x w) (h : rch c S x u) : rch c (np_exchange S v w) x u := by
  refine (h (fun u => rch c S x u ∧ rch c (np_exchange S v w) x u) ⟨rch_rf _ _ _, rch_rf _ _ _⟩ (fun j hjl hp => ⟨rch_n hp.1 hjl, ?_⟩) (fun j hjl hp => ⟨rch_m hp.1 hjl, rch_m hp.2 hjl⟩)).2
  have := rch_n hp.2 hjl
  rw [np_exchange_1, if_neg (fun e => n2 (by rw [← e]; exact hp.1)), if_neg (fun e => n1 (by rw [← e]; exact hp.1))] at this
  exact this
/-- two parts become one -/
theorem ex_join (hv : vn c S) (h1 : v < 2 * c) (h2 : w < 2 * c) (hn : ¬ rch c S v w) : rch c (np_exchange S v w) v w := by
  have hv' := vn_exchange hv h1 h2
  have hne : v ≠ w := fun e => hn (by rw [e]; exact rch_rf _ _ _)
  refine Classical.byContradiction (fun hw => ?_)
  have z0 : rch c (np_exchange S v w) v (S.1 w) := by
    have := rch_n (rch_rf c (np_exchange S v w) v) h1
    rw [np_exchange_1, if_neg hne, if_pos rfl] at this
    exact this
  have hl := (hv w h2).1
  have key : ∀ i, itf S.1 i (S.1 w) < 2 * c ∧ rch c S w (itf S.1 i (S.1 w)) ∧ rch c (np_exchange S v w) v (itf S.1 i (S.1 w)) := by
    intro i
    induction i with
    | zero => exact ⟨hl, rch_n (rch_rf _ _ _) h2, z0⟩
    | succ i ih =>
      obtain ⟨i1, i2, i3⟩ := ih
      refine ⟨(hv _ i1).1, rch_n i2 i1, ?_⟩
      have := rch_n i3 i1
      have h8 : itf S.1 i (S.1 w) ≠ w := fun e => by have h7 := i3; rw [e] at h7; exact hw h7
      have h9 : itf S.1 i (S.1 w) ≠ v := fun e => by have h7 := i2; rw [e] at h7; exact hn (rch_sy hv h2 h7)
      rw [np_exchange_1, if_neg h8, if_neg h9] at this
      exact this
  obtain ⟨k, hk⟩ := itf_back (f := S.1) (D := fun s => s < 2 * c) (N := 2 * c) (fun s hs => hs) (fun s hs => (hv s hs).1) (fun s t hs ht e => vn_inj hv hs ht e) h2
  have := (key k).2.2
  have e9 : itf S.1 k (S.1 w) = w := by
    have := itf_add S.1 w k 1
    rw [hk] at this
    exact this.symm
  rw [e9] at this
  exact hw this
/-- where an exchange parts a part both sides of the two gaps are in one face each -/
theorem ex_bridge (hv : vn c S) (hb : pn_fl b) (hp : pn_pl c S b) (h1 : v < 2 * c) (h2 : w < 2 * c) (hn : ¬ rch c (np_exchange S v w) v w) : pm_or (pn_ph S b) (2 * v) (2 * w) ∧ pm_or (pn_ph S b) (2 * S.1 v + 1) (2 * S.1 w + 1) ∧ ∃ κ : Nat → Bool, (∀ d, d < 4 * c → κ (pn_ph S b d) = κ d) ∧ κ (2 * S.1 v + 1) = !κ (2 * v) := by
  have hv' := vn_exchange hv h1 h2
  have hne : v ≠ w := fun e => hn (by rw [e]; exact rch_rf _ _ _)
  obtain ⟨κ, hκ⟩ := pn_kap hv hb hp
  have kph : ∀ d, d < 4 * c → κ (pn_ph S b d) = κ d := fun d hd => by
    unfold pn_ph
    rw [(hκ _ (pn_al_lt hv hd)).1, (hκ d hd).2, Bool.not_not]
  have kal : κ (2 * S.1 v + 1) = !κ (2 * v) := by
    have := (hκ (2 * v) (by omega)).2
    rw [pn_al0] at this
    exact this
  have hlt : ∀ d, d < 4 * c → pn_ph S b d < 4 * c := fun d hd => pn_ph_lt hv hd
  have hinj : ∀ d e, d < 4 * c → e < 4 * c → pn_ph S b d = pn_ph S b e → d = e := fun d e hd he q => pn_ph_inj hv hb hd he q
  let B : Nat → Prop := fun d => rch c (np_exchange S v w) v (d / 2)
  have hl1 := (hv v h1).1
  have hl2 := (hv w h2).1
  -- around crossings
  have Brt : ∀ d, d < 4 * c → (B (pn_rt b d) ↔ B d) := fun d hd => by
    show rch c (np_exchange S v w) v (pn_rt b d / 2) ↔ rch c (np_exchange S v w) v (d / 2)
    rw [pn_rt_h]
    exact ⟨fun h => by have := rch_m h (mt_lt (show d / 2 < 2 * c by omega)); rw [mt_mt] at this; exact this, fun h => rch_m h (by omega)⟩
  have nx' : ∀ u, u < 2 * c → (rch c (np_exchange S v w) v ((np_exchange S v w).1 u) ↔ rch c (np_exchange S v w) v u) := fun u hu => ⟨fun h => rch_tr h (rch_back hv' hu), fun h => rch_n h hu⟩
  have Bv : B (2 * v) := by
    show rch c (np_exchange S v w) v (2 * v / 2)
    rw [show 2 * v / 2 = v by omega]
    exact rch_rf _ _ _
  have Bw : ¬ B (2 * w) := by
    show ¬ rch c (np_exchange S v w) v (2 * w / 2)
    rw [show 2 * w / 2 = w by omega]
    exact hn
  have Bv' : ¬ B (2 * S.1 v + 1) := by
    show ¬ rch c (np_exchange S v w) v ((2 * S.1 v + 1) / 2)
    rw [show (2 * S.1 v + 1) / 2 = S.1 v by omega]
    intro h
    have := nx' w h2
    rw [np_exchange_1, if_pos rfl] at this
    exact hn (this.mp h)
  have Bw' : B (2 * S.1 w + 1) := by
    show rch c (np_exchange S v w) v ((2 * S.1 w + 1) / 2)
    rw [show (2 * S.1 w + 1) / 2 = S.1 w by omega]
    have := nx' v h1
    rw [np_exchange_1, if_neg hne, if_pos rfl] at this
    exact this.mpr (rch_rf _ _ _)
  have Bal : ∀ d, d < 4 * c → d ≠ 2 * v → d ≠ 2 * w → d ≠ 2 * S.1 v + 1 → d ≠ 2 * S.1 w + 1 → (B (pn_al S d) ↔ B d) := fun d hd g1 g2 g3 g4 => by
    rw [← (ex_al hv h1 h2 hne).2.2.2.2 d hd g1 g2 g3 g4]
    show rch c (np_exchange S v w) v (pn_al (np_exchange S v w) d / 2) ↔ rch c (np_exchange S v w) v (d / 2)
    unfold pn_al
    by_cases e : d % 2 = 0
    · rw [if_pos e, show (2 * (np_exchange S v w).1 (d / 2) + 1) / 2 = (np_exchange S v w).1 (d / 2) by omega]
      exact nx' _ (by omega)
    · rw [if_neg e, show 2 * (np_exchange S v w).2 (d / 2) / 2 = (np_exchange S v w).2 (d / 2) by omega]
      obtain ⟨q1, q2, q3, q4⟩ := hv' (d / 2) (by omega)
      have := nx' _ q2
      rw [q4] at this
      exact this.symm
  have Bph : ∀ d, d < 4 * c → d ≠ 2 * v → d ≠ 2 * w → d ≠ 2 * S.1 v + 1 → d ≠ 2 * S.1 w + 1 → (B (pn_ph S b d) ↔ B d) := fun d hd g1 g2 g3 g4 => (Brt _ (pn_al_lt hv hd)).trans (Bal d hd g1 g2 g3 g4)
  refine ⟨?_, ?_, κ, kph, kal⟩
  · -- from 2 v on
    have hs : 2 * v < 4 * c := by omega
    have lt : ∀ i, itf (pn_ph S b) i (2 * v) < 4 * c := fun i => itf_in (D := fun s => s < 4 * c) hlt hs i
    have key : ∀ i, ¬ B (itf (pn_ph S b) (i + 1) (2 * v)) ∨ pm_or (pn_ph S b) (2 * v) (2 * w) ∨ pm_or (pn_ph S b) (2 * v) (2 * S.1 v + 1) := by
      intro i
      induction i with
      | zero =>
        left
        show ¬ B (pn_rt b (pn_al S (2 * v)))
        rw [Brt _ (pn_al_lt hv hs), pn_al0]
        exact Bv'
      | succ i ih =>
        rcases ih with h | h
        · show ¬ B (pn_ph S b (itf (pn_ph S b) (i + 1) (2 * v))) ∨ _
          by_cases e2 : itf (pn_ph S b) (i + 1) (2 * v) = 2 * w
          · exact Or.inr (Or.inl ⟨_, e2⟩)
          · by_cases e3 : itf (pn_ph S b) (i + 1) (2 * v) = 2 * S.1 v + 1
            · exact Or.inr (Or.inr ⟨_, e3⟩)
            · left
              rw [Bph _ (lt _) (fun e => h (by rw [e]; exact Bv)) e2 e3 (fun e => h (by rw [e]; exact Bw'))]
              exact h
        · exact Or.inr h
    obtain ⟨k, hk⟩ := itf_back (f := pn_ph S b) (D := fun s => s < 4 * c) (N := 4 * c) (fun s hs => hs) hlt (fun s t hs ht e => hinj s t hs ht e) hs
    rcases key k with h | h | h
    · rw [hk] at h
      exact absurd Bv h
    · exact h
    · have := or_lab hlt kph hs h
      rw [kal] at this
      exact absurd this (by cases κ (2 * v) <;> decide)
  · have hs : 2 * S.1 v + 1 < 4 * c := by omega
    have lt : ∀ i, itf (pn_ph S b) i (2 * S.1 v + 1) < 4 * c := fun i => itf_in (D := fun s => s < 4 * c) hlt hs i
    have key : ∀ i, B (itf (pn_ph S b) (i + 1) (2 * S.1 v + 1)) ∨ pm_or (pn_ph S b) (2 * S.1 v + 1) (2 * S.1 w + 1) ∨ pm_or (pn_ph S b) (2 * S.1 v + 1) (2 * v) := by
      intro i
      induction i with
      | zero =>
        left
        show B (pn_rt b (pn_al S (2 * S.1 v + 1)))
        rw [Brt _ (pn_al_lt hv hs), pn_al1, (hv v h1).2.2.1]
        exact Bv
      | succ i ih =>
        rcases ih with h | h
        · show B (pn_ph S b (itf (pn_ph S b) (i + 1) (2 * S.1 v + 1))) ∨ _
          by_cases e2 : itf (pn_ph S b) (i + 1) (2 * S.1 v + 1) = 2 * S.1 w + 1
          · exact Or.inr (Or.inl ⟨_, e2⟩)
          · by_cases e3 : itf (pn_ph S b) (i + 1) (2 * S.1 v + 1) = 2 * v
            · exact Or.inr (Or.inr ⟨_, e3⟩)
            · left
              rw [Bph _ (lt _) e3 (fun e => Bw (by rw [← e]; exact h)) (fun e => Bv' (by rw [← e]; exact h)) e2]
              exact h
        · exact Or.inr h
    obtain ⟨k, hk⟩ := itf_back (f := pn_ph S b) (D := fun s => s < 4 * c) (N := 4 * c) (fun s hs => hs) hlt (fun s t hs ht e => hinj s t hs ht e) hs
    rcases key k with h | h | h
    · rw [hk] at h
      exact absurd h Bv'
    · exact h
    · have := or_lab hlt kph hs h
      rw [kal] at this
      exact absurd this (by cases κ (2 * v) <;> decide)
/-- the exchange of two gaps keeps a net plane: of two parts, or with a face in common on one side -/
theorem pn_exch (hv : vn c S) (hb : pn_fl b) (hp : pn_pl c S b) (h1 : v < 2 * c) (h2 : w < 2 * c) (hne : v ≠ w) (h : ¬ rch c S v w ∨ pm_or (pn_ph S b) (2 * v) (2 * w) ∨ pm_or (pn_ph S b) (2 * S.1 v + 1) (2 * S.1 w + 1)) : pn_pl c (np_exchange S v w) b := by
  have hv' := vn_exchange hv h1 h2
  have hi : S.1 v ≠ S.1 w := fun e => hne (vn_inj hv h1 h2 e)
  have hl1 := (hv v h1).1
  have hl2 := (hv w h2).1
  have hlt : ∀ d, d < 4 * c → pn_ph S b d < 4 * c := fun d hd => pn_ph_lt hv hd
  have hinj : ∀ d e, d < 4 * c → e < 4 * c → pn_ph S b d = pn_ph S b e → d = e := fun d e hd he q => pn_ph_inj hv hb hd he q
  have a1 : 2 * v < 4 * c := by omega
  have a2 : 2 * w < 4 * c := by omega
  have a3 : 2 * S.1 v + 1 < 4 * c := by omega
  have a4 : 2 * S.1 w + 1 < 4 * c := by omega
  have tm := md_tp (S := S) (b := b) hne
  have to := mo_tp (S := S) (b := b) hi
  have mlt := tp_lt tm hlt a1 a2
  have mij := tp_inj tm hinj a1 a2
  obtain ⟨qm, qm1, qm2⟩ := md_tp2 (b := b) hv h1 h2 hne
  obtain ⟨qo, qo1, qo2⟩ := mo_tp2 (b := b) hv h1 h2 hne
  have bridge := fun hn => ex_bridge hv hb hp h1 h2 hn
  obtain ⟨R, hR, f, X, f1, f2, f3, f4⟩ := hp
  by_cases hj : rch c S v w
  · have h := h.resolve_left (fun h9 => h9 hj)
    by_cases hj' : rch c (np_exchange S v w) v w
    · refine ⟨R, fun u hu => ?_, ?_⟩
      · obtain ⟨r, r1, r2, r3⟩ := hR u hu
        exact ⟨r, r1, r2, ex_rch_keep hv h1 h2 hj' r3⟩
      · rcases h with h | h
        · obtain ⟨g, Y, g1, g2, g3, g4⟩ := tp_sp tm hlt hinj a1 a2 (by omega) h f1 f2 f3
          have k1 := tp_mg qm2 g1 a3 a4
          obtain ⟨Z, z1, z2, z3⟩ := pm_mg_dv g3 (g (2 * S.1 v + 1)) (g (2 * S.1 w + 1))
          exact ⟨_, Z, fun d hd => by rw [← qm1 d hd]; exact k1 d hd, fun x hx => g2 x (z1 x hx), z3, by omega⟩
        · obtain ⟨g, Y, g1, g2, g3, g4⟩ := tp_sp to hlt hinj a3 a4 (by omega) h f1 f2 f3
          have k1 := tp_mg qo2 g1 a1 a2
          obtain ⟨Z, z1, z2, z3⟩ := pm_mg_dv g3 (g (2 * v)) (g (2 * w))
          exact ⟨_, Z, fun d hd => by rw [← qo1 d hd]; exact k1 d hd, fun x hx => g2 x (z1 x hx), z3, by omega⟩
    · obtain ⟨b1, b2, κ, k1, k2⟩ := bridge hj'
      obtain ⟨r1, q1, q2, q3⟩ := hR v h1
      refine ⟨v :: w :: R.erase r1, fun u hu => ?_, ?_⟩
      · by_cases hu2 : rch c S v u
        · have key : rch c (np_exchange S v w) v u ∨ rch c (np_exchange S v w) w u := by
            refine hu2 (fun u => rch c (np_exchange S v w) v u ∨ rch c (np_exchange S v w) w u) (Or.inl (rch_rf _ _ _)) (fun j hjl hp => ?_) (fun j hjl hp => ?_)
            · by_cases e1 : j = v
              · right
                have := rch_n (rch_rf c (np_exchange S v w) w) h2
                rw [np_exchange_1, if_pos rfl] at this
                rw [e1]
                exact this
              · by_cases e2 : j = w
                · left
                  have := rch_n (rch_rf c (np_exchange S v w) v) h1
                  rw [np_exchange_1, if_neg hne, if_pos rfl] at this
                  rw [e2]
                  exact this
                · rcases hp with hp | hp
                  · left
                    have := rch_n hp hjl
                    rw [np_exchange_1, if_neg e2, if_neg e1] at this
                    exact this
                  · right
                    have := rch_n hp hjl
                    rw [np_exchange_1, if_neg e2, if_neg e1] at this
                    exact this
            · rcases hp with hp | hp
              · exact Or.inl (rch_m hp hjl)
              · exact Or.inr (rch_m hp hjl)
          rcases key with k | k
          · exact ⟨v, List.mem_cons_self, h1, k⟩
          · exact ⟨w, List.mem_cons_of_mem _ List.mem_cons_self, h2, k⟩
        · obtain ⟨r, p1, p2, p3⟩ := hR u hu
          have e1 : r ≠ r1 := fun e => hu2 (rch_tr (rch_sy hv q2 q3) (by rw [← e]; exact p3))
          have nv : ¬ rch c S r v := fun h9 => hu2 (rch_tr (rch_sy hv p2 h9) p3)
          exact ⟨r, List.mem_cons_of_mem _ (List.mem_cons_of_mem _ ((List.mem_erase_of_ne e1).mpr p1)), p2, ex_rch_far hv h1 h2 p2 nv (fun h9 => nv (rch_tr h9 (rch_sy hv h1 hj))) p3⟩
      · obtain ⟨g, Y, g1, g2, g3, g4⟩ := tp_sp tm hlt hinj a1 a2 (by omega) b1 f1 f2 f3
        -- the other round is untouched
        have kv : κ (2 * w) = κ (2 * v) := or_lab hlt k1 a1 b1
        have same : ∀ i, itf (pn_md S b v w) i (2 * S.1 v + 1) = itf (pn_ph S b) i (2 * S.1 v + 1) := by
          intro i
          induction i with
          | zero => rfl
          | succ i ih =>
            show pn_md S b v w (itf (pn_md S b v w) i (2 * S.1 v + 1)) = pn_ph S b (itf (pn_ph S b) i (2 * S.1 v + 1))
            rw [ih]
            have hk := or_lab hlt k1 a3 (⟨i, rfl⟩ : pm_or (pn_ph S b) (2 * S.1 v + 1) (itf (pn_ph S b) i (2 * S.1 v + 1)))
            rw [k2] at hk
            exact tm.2.2 _ (fun e => by rw [e] at hk; revert hk; cases κ (2 * v) <;> decide) (fun e => by rw [e, kv] at hk; revert hk; cases κ (2 * v) <;> decide)
        obtain ⟨i, hi9⟩ := b2
        obtain ⟨g', Y', g1', g2', g3', g4'⟩ := tp_sp qm2 mlt mij a3 a4 (by omega) ⟨i, by rw [same]; exact hi9⟩ g1 g2 g3
        refine ⟨g', Y', fun d hd => by rw [← qm1 d hd]; exact g1' d hd, g2', g3', ?_⟩
        have hl := List.length_erase_of_mem q1
        have hpos : 0 < R.length := List.length_pos_of_mem q1
        rw [List.length_cons, List.length_cons, hl]
        omega
  · have hj' := ex_join hv h1 h2 hj
    obtain ⟨r1, q1, q2, q3⟩ := hR v h1
    obtain ⟨r2, p1, p2, p3⟩ := hR w h2
    have hne2 : r1 ≠ r2 := fun e => hj (rch_tr (rch_sy hv q2 q3) (by rw [e]; exact p3))
    have hl := List.length_erase_of_mem p1
    have hpos : 0 < R.length := List.length_pos_of_mem p1
    refine ⟨R.erase r2, fun u hu => ?_, ?_⟩
    · obtain ⟨r, s1, s2, s3⟩ := hR u hu
      have s4 := ex_rch_keep hv h1 h2 hj' s3
      by_cases e : r = r2
      · refine ⟨r1, (List.mem_erase_of_ne hne2).mpr q1, q2, ?_⟩
        have t1 := ex_rch_keep hv h1 h2 hj' q3
        have t2 := rch_sy hv' p2 (ex_rch_keep hv h1 h2 hj' p3)
        rw [e] at s4
        exact rch_tr t1 (rch_tr hj' (rch_tr t2 s4))
      · exact ⟨r, (List.mem_erase_of_ne e).mpr s1, s2, s4⟩
    · have k0 := tp_mg tm f1 a1 a2
      obtain ⟨Y, y1, y2, y3⟩ := pm_mg_dv f3 (f (2 * v)) (f (2 * w))
      have k1 := tp_mg qm2 k0 a3 a4
      obtain ⟨Z, z1, z2, z3⟩ := pm_mg_dv y3 (pm_mg f (f (2 * v)) (f (2 * w)) (2 * S.1 v + 1)) (pm_mg f (f (2 * v)) (f (2 * w)) (2 * S.1 w + 1))
      refine ⟨_, Z, fun d hd => by rw [← qm1 d hd]; exact k1 d hd, fun x hx => f2 x (y1 x (z1 x hx)), z3, ?_⟩
      rw [hl]
      omega
end EX
end
section
/-! 99zzzzzzzzn.eiso -/
/-! the code of a net shows the net -/
theorem tkv_nz {sg : Nat → Bool} {p : Nat × Nat} : tkv sg p ≠ 0 := by
  unfold tkv
  omega
theorem tk_inj {sg sg' : Nat → Bool} : ∀ (A A' : rn_L), (∀ p, p ∈ A.flatten → p.2 < 2) → (∀ p, p ∈ A'.flatten → p.2 < 2) → tk sg A = tk sg' A' → A = A' ∧ ∀ p, p ∈ A.flatten → sg p.1 = sg' p.1
  | [], [], _, _, _ => ⟨rfl, fun p hp => by cases hp⟩
  | [], L' :: A', _, _, e => by
    have := congrArg List.length e
    rw [tk_len, tk_len] at this
    simp at this
  | L :: A, [], _, _, e => by
    have := congrArg List.length e
    rw [tk_len, tk_len] at this
    simp at this
  | L :: A, L' :: A', h, h', e => by
    have u : ∀ (sg : Nat → Bool) (L : List (Nat × Nat)) (A : rn_L), tk sg (L :: A) = L.map (tkv sg) ++ 0 :: tk sg A := fun sg L A => by
      unfold tk
      rw [List.map_cons, List.flatten_cons]
      unfold tkc
      rw [List.append_assoc]
      rfl
    rw [u, u] at e
    obtain ⟨e1, e2⟩ := spl0 _ _ _ _ (fun a ha => by
      obtain ⟨p, -, q⟩ := List.mem_map.mp ha
      rw [← q]
      exact tkv_nz) (fun a ha => by
      obtain ⟨p, -, q⟩ := List.mem_map.mp ha
      rw [← q]
      exact tkv_nz) e
    rw [List.flatten_cons] at h h'
    have cl : ∀ (sg : Nat → Bool) (L : List (Nat × Nat)), L.map (tkv sg) = L.map (clc sg 0) := fun sg L => List.map_congr_left (fun p _ => by unfold tkv clc; rw [Nat.sub_zero])
    rw [cl, cl] at e1
    obtain ⟨k1, k2⟩ := clc_inj L L' (fun p hp => ⟨Nat.zero_le _, h p (List.mem_append_left _ hp)⟩) (fun p hp => ⟨Nat.zero_le _, h' p (List.mem_append_left _ hp)⟩) e1
    obtain ⟨i1, i2⟩ := tk_inj A A' (fun p hp => h p (List.mem_append_right _ hp)) (fun p hp => h' p (List.mem_append_right _ hp)) e2
    refine ⟨by rw [k1, i1], fun p hp => ?_⟩
    rw [List.flatten_cons] at hp
    rcases List.mem_append.mp hp with hp | hp
    · exact k2 p hp
    · exact i2 p hp
/-- the last of a row has the first behind it -/
theorem sc_last {L : List vT} (hn : L.Nodup) {i : Nat} (hi : i + 1 = L.length) : sc L (L[i]'(by omega)) = L[0]'(by omega) := by
  cases L with
  | nil => simp at hi
  | cons a X =>
    rcases Nat.eq_zero_or_pos X.length with h0 | h0
    · have : X = [] := List.length_eq_zero_iff.mp h0
      subst this
      have : i = 0 := by simp at hi; omega
      subst this
      rfl
    · have hX : X ≠ [] := fun e => by rw [e] at h0; exact Nat.lt_irrefl _ h0
      have es : a :: X = a :: X.dropLast ++ [X.getLast hX] := by rw [List.cons_append, List.dropLast_concat_getLast]
      have eg : (a :: X)[i]'(by omega) = X.getLast hX := by
        rw [List.getLast_eq_getElem]
        have : i = (X.length - 1) + 1 := by rw [List.length_cons] at hi; omega
        subst this
        rfl
      have hni : X.getLast hX ∉ a :: X.dropLast := by
        have h1 : (a :: X.dropLast ++ [X.getLast hX]).Nodup := by rw [← es]; exact hn
        exact fun h9 => (List.nodup_append.mp h1).2.2 _ h9 _ (List.mem_singleton.mpr rfl) rfl
      have := sc_end hni
      rw [← es] at this
      rw [eg, this]
      rfl
section EI
variable {A : rn_L} {sg : Nat → Bool} {f : Nat → Nat} {T : ow_NT}
theorem rgl_at {s j : Nat} (hj : j < rlen A (rn_c A s)) : (rgl A s)[j]? = some (rv A s j) := by
  unfold rgl
  rw [List.getElem?_map, List.getElem?_range hj]
  rfl
theorem rgl_sc {s w : Nat} {g : Nat → vT} (hs : s < A.flatten.length) (hg : ((rgl A s).map g).Nodup) (hw : w ∈ rgl A s) : sc ((rgl A s).map g) (g w) = g (rn_nx A w) := by
  obtain ⟨j, j1, rfl⟩ := rgl_mem hw
  have hl : ((rgl A s).map g).length = rlen A (rn_c A s) := by rw [List.length_map, rgl_len]
  have at9 : ∀ k (hk : k < rlen A (rn_c A s)), ((rgl A s).map g)[k]'(by rw [hl]; exact hk) = g (rv A s k) := fun k hk => by
    have := rgl_at (A := A) hk
    rw [List.getElem_map]
    congr 1
    exact (List.getElem?_eq_some_iff.mp this).2
  have hnx := rv_nx hs j1
  rw [← at9 j j1, hnx]
  by_cases e : j + 1 = rlen A (rn_c A s)
  · rw [if_pos e, sc_last hg (by rw [hl]; exact e), at9 0 (by omega), rv_0 hs]
  · rw [if_neg e, sc_idx hg (by rw [hl]; omega), at9 (j + 1) (by omega)]
def eiN (A : rn_L) (v : Nat) : Nat := (fm A (vsO A (trS A v))).length
def eiL (A : rn_L) : Nat → List Nat → rn_L
  | _, [] => []
  | b, v :: V => shN b (rnN A (vsO A (trS A v)) (trS A v)) ++ eiL A (b + eiN A v) V
def eiF (A : rn_L) (f : Nat → Nat) : Nat → List Nat → Nat → Nat
  | _, [] => fun _ => 0
  | b, v :: V => fun x => if x < b + eiN A v then f (crs A (((fm A (vsO A (trS A v)))[x - b]?).getD 0)) else eiF A f (b + eiN A v) V x
def eiG (A : rn_L) (sg : Nat → Bool) : Nat → List Nat → Nat → Bool
  | _, [] => fun _ => false
  | b, v :: V => fun x => if x < b + eiN A v then rnG A sg (vsO A (trS A v)) (x - b) else eiG A sg (b + eiN A v) V x
theorem cat_ei (hF : wkF A.flatten) : ∀ (Ps : List prt) (V : List Nat) (b : Nat), (∀ P, P ∈ Ps → gp P.1 P.2.2) → (∀ v, v ∈ V → v < A.flatten.length) → Ps.map (fun P => tk P.2.1 P.1) = V.map (cdv A sg) → catL b Ps = eiL A b V ∧ ∀ p, p ∈ (catL b Ps).flatten → catG b Ps p.1 = eiG A sg b V p.1
  | [], [], b, _, _, _ => ⟨rfl, fun p hp => by cases hp⟩
  | [], v :: V, b, _, _, e => by cases e
  | P :: Ps, [], b, _, _, e => by cases e
  | P :: Ps, v :: V, b, hP, hV, e => by
    obtain ⟨e1, e2⟩ := List.cons.inj e
    have hv := hV v List.mem_cons_self
    obtain ⟨t1, t2, -, -⟩ := trS_all (wkF_ok hF) hv
    have hok := rnN_ok hF t1 t2
    have hg := hP P List.mem_cons_self
    have e1 : tk P.2.1 P.1 = tk (rnG A sg (vsO A (trS A v))) (rnN A (vsO A (trS A v)) (trS A v)) := e1.trans (tks_tk _ (fun v hv => hv))
    obtain ⟨k1, k2⟩ := tk_inj _ _ (fun p hp => ((hg.1.2 p).mp hp).2) (fun p hp => ((hok.2 p).mp hp).2) e1
    have k3 : P.2.2 = eiN A v := by
      have h1 := okF_len hg.1
      have h2 := okF_len hok
      rw [k1, h2] at h1
      unfold eiN
      omega
    obtain ⟨i1, i2⟩ := cat_ei hF Ps V (b + P.2.2) (fun Q hQ => hP Q (List.mem_cons_of_mem _ hQ)) (fun u hu => hV u (List.mem_cons_of_mem _ hu)) e2
    refine ⟨?_, fun p hp => ?_⟩
    · show shN b P.1 ++ catL (b + P.2.2) Ps = shN b _ ++ eiL A (b + eiN A v) V
      rw [i1, k1, k3]
    · have hp : p ∈ (shN b P.1 ++ catL (b + P.2.2) Ps).flatten := hp
      rw [List.flatten_append] at hp
      show (if p.1 < b + P.2.2 then P.2.1 (p.1 - b) else catG (b + P.2.2) Ps p.1) = if p.1 < b + eiN A v then rnG A sg (vsO A (trS A v)) (p.1 - b) else eiG A sg (b + eiN A v) V p.1
      rcases List.mem_append.mp hp with h9 | h9
      · rw [shN_fl] at h9
        obtain ⟨q, q1, q2⟩ := List.mem_map.mp h9
        have q3 := ((hg.1.2 q).mp q1).1
        have q4 : p.1 = q.1 + b := by rw [← q2]
        rw [if_pos (by omega), if_pos (by omega), q4, Nat.add_sub_cancel]
        exact k2 q q1
      · have h8 := ((cat_ok Ps (b + P.2.2) (fun Q hQ => hP Q (List.mem_cons_of_mem _ hQ))).2 p).mp h9
        rw [if_neg (by omega), if_neg (by omega), i2 p h9, k3]
theorem ei_row (hF : wkF A.flatten) : ∀ (V : List Nat) (b : Nat), (∀ v, v ∈ V → v < A.flatten.length) → ∀ L, L ∈ eiL A b V → ∃ s g, s < A.flatten.length ∧ L = (rgl A s).map g ∧ ∀ w, w ∈ rgl A s → b ≤ (g w).1 ∧ eiF A f b V (g w).1 = f (crs A w) ∧ (g w).2 = uns A w ∧ eiG A sg b V (g w).1 = sg (crs A w)
  | [], b, _, L, hL => by cases hL
  | v :: V, b, hV, L, hL => by
    have hv := hV v List.mem_cons_self
    obtain ⟨t1, t2, -, -⟩ := trS_all (wkF_ok hF) hv
    rcases List.mem_append.mp hL with h9 | h9
    · obtain ⟨B, hB, e1⟩ := List.mem_map.mp h9
      obtain ⟨s, hs, e2⟩ := List.mem_map.mp hB
      refine ⟨s, fun w => shv b (rnv A (vsO A (trS A v)) w), t1.2 s hs, ?_, fun w hw => ?_⟩
      · rw [← e1, ← e2, List.map_map]
        rfl
      · have hwv := vsO_mem hs hw
        have hm : crs A w ∈ (vsO A (trS A v)).map (crs A) := List.mem_map.mpr ⟨w, hwv, rfl⟩
        have hle := num_le (A := A) hm
        obtain ⟨u, u1, u2⟩ := num_at (A := A) hm
        have hp : 0 < num A (vsO A (trS A v)) (crs A w) := by unfold num; omega
        have hlt : num A (vsO A (trS A v)) (crs A w) - 1 + b < b + eiN A v := by unfold eiN; omega
        refine ⟨Nat.le_add_left _ _, ?_, rfl, ?_⟩
        · show (if num A (vsO A (trS A v)) (crs A w) - 1 + b < b + eiN A v then f (crs A (((fm A (vsO A (trS A v)))[num A (vsO A (trS A v)) (crs A w) - 1 + b - b]?).getD 0)) else _) = _
          rw [if_pos hlt, Nat.add_sub_cancel, u1]
          show f (crs A u) = _
          rw [u2]
        · show (if num A (vsO A (trS A v)) (crs A w) - 1 + b < b + eiN A v then rnG A sg (vsO A (trS A v)) (num A (vsO A (trS A v)) (crs A w) - 1 + b - b) else _) = _
          rw [if_pos hlt, Nat.add_sub_cancel]
          exact rnG_at hwv
    · obtain ⟨s, g, s1, s2, s3⟩ := ei_row hF V (b + eiN A v) (fun u hu => hV u (List.mem_cons_of_mem _ hu)) L h9
      refine ⟨s, g, s1, s2, fun w hw => ?_⟩
      obtain ⟨g1, g2, g3, g4⟩ := s3 w hw
      refine ⟨by omega, ?_, g3, ?_⟩
      · show (if (g w).1 < b + eiN A v then _ else eiF A f (b + eiN A v) V (g w).1) = _
        rw [if_neg (by omega), g2]
      · show (if (g w).1 < b + eiN A v then _ else eiG A sg (b + eiN A v) V (g w).1) = _
        rw [if_neg (by omega), g4]
theorem ei_all : ∀ (V : List Nat) (b v w : Nat), v ∈ V → w ∈ vsO A (trS A v) → ∃ p, p ∈ (eiL A b V).flatten ∧ eiF A f b V p.1 = f (crs A w)
  | [], b, v, w, hv, _ => by cases hv
  | u :: V, b, v, w, hv, hw => by
    rcases List.mem_cons.mp hv with e | hv
    · subst e
      have hm : crs A w ∈ (vsO A (trS A v)).map (crs A) := List.mem_map.mpr ⟨w, hw, rfl⟩
      have hle := num_le (A := A) hm
      obtain ⟨u, u1, u2⟩ := num_at (A := A) hm
      have hp : 0 < num A (vsO A (trS A v)) (crs A w) := by unfold num; omega
      have hlt : num A (vsO A (trS A v)) (crs A w) - 1 + b < b + eiN A v := by unfold eiN; omega
      refine ⟨shv b (rnv A (vsO A (trS A v)) w), ?_, ?_⟩
      · show _ ∈ (shN b (rnN A (vsO A (trS A v)) (trS A v)) ++ eiL A (b + eiN A v) V).flatten
        rw [List.flatten_append, shN_fl, rnN_fl]
        exact List.mem_append_left _ (List.mem_map.mpr ⟨_, List.mem_map.mpr ⟨w, hw, rfl⟩, rfl⟩)
      · show (if num A (vsO A (trS A v)) (crs A w) - 1 + b < b + eiN A v then f (crs A (((fm A (vsO A (trS A v)))[num A (vsO A (trS A v)) (crs A w) - 1 + b - b]?).getD 0)) else _) = _
        rw [if_pos hlt, Nat.add_sub_cancel, u1]
        show f (crs A u) = _
        rw [u2]
    · obtain ⟨p, p1, p2⟩ := ei_all V (b + eiN A u) v w hv hw
      refine ⟨p, ?_, ?_⟩
      · show p ∈ (shN b _ ++ eiL A (b + eiN A u) V).flatten
        rw [List.flatten_append]
        exact List.mem_append_right _ p1
      · have hb : ∀ (V : List Nat) (b : Nat) (p : vT), p ∈ (eiL A b V).flatten → b ≤ p.1 := by
          intro V
          induction V with
          | nil => intro b p hp; cases hp
          | cons x V ih =>
            intro b p hp
            have hp : p ∈ (shN b (rnN A (vsO A (trS A x)) (trS A x)) ++ eiL A (b + eiN A x) V).flatten := hp
            rw [List.flatten_append] at hp
            rcases List.mem_append.mp hp with h9 | h9
            · rw [shN_fl] at h9
              obtain ⟨q, -, q2⟩ := List.mem_map.mp h9
              rw [← q2]
              exact Nat.le_add_left _ _
            · have := ih _ p h9
              omega
        have := hb _ _ p p1
        show (if p.1 < b + eiN A u then _ else eiF A f (b + eiN A u) V p.1) = _
        rw [if_neg (by omega), p2]
/-- onto is one to one -/
theorem onto_inj {n : Nat} {h : Nat → Nat} (hs : ∀ k, k < n → ∃ x, x < n ∧ h x = k) {x y : Nat} (hx : x < n) (hy : y < n) (e : h x = h y) : x = y := by
  refine Classical.byContradiction (fun hne => ?_)
  have := nodup_le (List.range n) (((List.range n).erase x).map h) List.nodup_range (fun k hk => by
    obtain ⟨z, z1, z2⟩ := hs k (List.mem_range.mp hk)
    by_cases ez : z = x
    · exact List.mem_map.mpr ⟨y, (List.mem_erase_of_ne (fun e9 => hne e9.symm)).mpr (List.mem_range.mpr hy), by rw [← e, ← ez]; exact z2⟩
    · exact List.mem_map.mpr ⟨z, (List.mem_erase_of_ne ez).mpr (List.mem_range.mpr z1), z2⟩)
  rw [List.length_map, List.length_erase_of_mem (List.mem_range.mpr hx), List.length_range] at this
  omega
theorem cirs_rep {X : rn_L} {q : Nat} (h : ∀ L, L ∈ X → L ≠ []) : cirs (X ++ List.replicate q []) = q := by
  unfold cirs
  rw [List.countP_append, List.countP_replicate, List.countP_eq_zero.mpr (fun L hL e => h L hL (List.isEmpty_iff.mp e))]
  simp
variable {m : Nat → Nat} {P : Nat} {Cs : List cdT} {os : List Nat}
/-- THE CODES, and what they show -/
theorem enc_iso (hi : isoN A sg f T) (hA : A.length ≤ 6) (hT : nv T) (hk : mk A m P) (hZ : cpZ T (np_parts T.1 T.2.2.1.1).2 Cs os) : ∃ A' sg', pkR A sg m P = tk sg' A' ∧ okL A' T.1 ∧ enC T Cs os = clC sg' A' ∧ A'.length = A.length ∧ ∃ f', isoV A' sg' f' T := by
  have hperm := keys_perm hi (by omega) hT hk hZ
  obtain ⟨z1, z2, z3, z4⟩ := id hZ
  have hv := hT.1
  have hc := hT.2.1
  have hd := wkF_ok hi.1
  have ecs : (List.range Cs.length).map (fun s => Cs.getD s (0, [])) = Cs := by
    apply List.ext_getElem?
    intro i
    rw [List.getElem?_map]
    by_cases h : i < Cs.length
    · rw [List.getElem?_range h, List.getElem?_eq_getElem h]
      show some (Cs.getD i (0, [])) = _
      rw [List.getD_eq_getElem?_getD, List.getElem?_eq_getElem h]
      rfl
    · rw [List.getElem?_eq_none (by rw [List.length_range]; omega), List.getElem?_eq_none (by omega)]
      rfl
  have hos : (os.map (fun s => Cs.getD s (0, []))).Perm Cs := by
    have h1 := z3.map (fun s => Cs.getD s (0, []))
    rw [← z1, ecs] at h1
    exact h1
  have hKs : ∀ C, C ∈ os.map (fun s => Cs.getD s (0, [])) → ∃ B sgB, gp B C.1 ∧ C.2 = tk sgB B := by
    intro C hC
    have hC2 := hos.mem_iff.mp hC
    obtain ⟨r, hr⟩ := List.getElem?_of_mem hC2
    have hr2 := (List.getElem?_eq_some_iff.mp hr).1
    obtain ⟨p1, p2, p3, p4⟩ := parts_I hv hc
    obtain ⟨k, k1, k2⟩ := p3 r (by rw [← z1]; exact hr2)
    obtain ⟨v, v1, v2⟩ := lbv_sur hi k1
    obtain ⟨-, -, q3⟩ := part_key hi (by omega) hv hk v1 (by rw [v2]; exact k2) (z2 r C hr).1
    exact q3
  obtain ⟨Ps, hP1, hP2⟩ := prt_list hKs
  have hdP : (os.map (fun s => Cs.getD s (0, []))).map dbl = Ps.map (fun P => (2 * P.2.2, tk P.2.1 P.1)) := by
    rw [hP1, List.map_map]
    rfl
  have hsel := sel_perm (R := rwL A sg m P)
  have heq : (sel (rwL A sg m P) (rwL A sg m P).length (fun _ => false)).map (rAt (rwL A sg m P)) = Ps.map (fun P => (2 * P.2.2, tk P.2.1 P.1)) := by
    rw [← hdP]
    refine pw_eq hsel.2 ?_ (hsel.1.trans (((hos.map dbl).trans hperm).symm))
    rw [List.pairwise_map]
    exact (srt_pw z4).imp dbl_cmp
  have hpk := pkT_cat _ Ps 0 heq hP2
  obtain ⟨s1, s2⟩ := prt_sums Ps hP2
  obtain ⟨r1, r2⟩ := rwL_tot (sg := sg) hd hk
  have hpr : (Ps.map (fun P => (2 * P.2.2, tk P.2.1 P.1))).Perm (rwL A sg m P) := by
    rw [← heq]
    exact hsel.1
  have t1 := (hpr.map (fun r => r.1)).sum_nat
  have t2 := (hpr.map (fun r => r.2.length)).sum_nat
  rw [s1, r2] at t1
  rw [s2] at t2
  have hcir := cir_eq hk
  have hlen := hi.2.1
  have hcs : cirs A = T.2.1 := hi.2.2.2.2.2.2.2
  have htc : totC Ps = T.1 := by omega
  have htl : totL Ps + T.2.1 = A.length := by omega
  obtain ⟨c1, c2, c3, c4⟩ := catA_ok (q := T.2.1) hP2 (by omega) (by omega)
  have c1' : okL (catA Ps T.2.1) T.1 := by rw [← htc]; exact c1
  refine ⟨catA Ps T.2.1, catG 0 Ps, ?_, c1', ?_, by rw [c4]; exact htl, ?_⟩
  · unfold pkR
    rw [hpk, c3, hcir, hcs]
  · rw [c2, htc]
    unfold enC
    congr 2
    have : cdR Cs os = rowP Ps := by
      have h1 := congrArg (List.map (fun C : cdT => C.2)) hP1
      rw [List.map_map, List.map_map] at h1
      exact h1
    rw [this]
  -- a start for each part
  · have hst : ∀ p, ∃ v, pvl A m p A.flatten.length ≠ [] → v < A.flatten.length ∧ m (rn_c A v) = p ∧ lsC A sg (pvl A m p A.flatten.length) = some (cdv A sg v) := by
      intro p
      by_cases e : pvl A m p A.flatten.length = []
      · exact ⟨0, fun h9 => absurd e h9⟩
      · obtain ⟨U, hU⟩ := lsC_ne (sg := sg) e
        obtain ⟨v, v1, v2⟩ := lsC_mem _ hU
        have := pvl_m.mp v1
        exact ⟨v, fun _ => ⟨this.1, this.2, by rw [hU, v2]⟩⟩
    obtain ⟨st, hst⟩ := Classical.skolem.mp hst
    have hRe := rwL_eq (A := A) (sg := sg) (m := m) P
    generalize hFl : (List.range P).filter (fun p => !(pvl A m p A.flatten.length).isEmpty) = Fl at hRe
    have Fl_in : ∀ p, p ∈ Fl → p < P ∧ pvl A m p A.flatten.length ≠ [] := fun p hp => by
      rw [← hFl] at hp
      obtain ⟨h1, h2⟩ := List.mem_filter.mp hp
      exact ⟨List.mem_range.mp h1, fun e => by rw [e] at h2; cases h2⟩
    have hRl : (rwL A sg m P).length = Fl.length := by rw [hRe, List.length_map]
    have rA : ∀ i (h : i < Fl.length), (rAt (rwL A sg m P) i).2 = cdv A sg (st Fl[i]) := fun i h => by
      unfold rAt
      rw [hRe, List.getElem?_map, List.getElem?_eq_getElem h]
      show (lsC A sg (pvl A m Fl[i] A.flatten.length)).getD [] = _
      rw [(hst _ (Fl_in _ (List.getElem_mem h)).2).2.2]
      rfl
    obtain ⟨sp1, sp2, -⟩ := sel_spec (R := rwL A sg m P) (rwL A sg m P).length (fun _ => false) (rem_1 _)
    generalize hse : sel (rwL A sg m P) (rwL A sg m P).length (fun _ => false) = se at *
    have se_in : ∀ i, i ∈ se ↔ i < Fl.length := fun i => by
      rw [sp2 i, hRl]
      exact ⟨fun h => h.1, fun h => ⟨h, rfl⟩⟩
    let V := se.map (fun i => st (Fl.getD i 0))
    have hV : ∀ v, v ∈ V → v < A.flatten.length := fun v hv9 => by
      obtain ⟨i, i1, i2⟩ := List.mem_map.mp hv9
      have h := (se_in i).mp i1
      rw [← i2, List.getD_eq_getElem?_getD, List.getElem?_eq_getElem h]
      exact (hst _ (Fl_in _ (List.getElem_mem h)).2).1
    have hrow : Ps.map (fun P => tk P.2.1 P.1) = V.map (cdv A sg) := by
      have h1 := congrArg (List.map (fun r : Nat × List Nat => r.2)) heq
      rw [List.map_map, List.map_map] at h1
      have h2 : Ps.map (fun P => tk P.2.1 P.1) = se.map ((fun r : Nat × List Nat => r.2) ∘ rAt (rwL A sg m P)) := h1.symm
      rw [h2]
      show _ = (se.map (fun i => st (Fl.getD i 0))).map (cdv A sg)
      rw [List.map_map]
      refine List.map_congr_left (fun i hi9 => ?_)
      have h := (se_in i).mp hi9
      show (rAt (rwL A sg m P) i).2 = cdv A sg (st (Fl.getD i 0))
      rw [rA i h, List.getD_eq_getElem?_getD, List.getElem?_eq_getElem h]
      rfl
    obtain ⟨ce1, ce2⟩ := cat_ei hi.1 Ps V 0 hP2 hV hrow
    have hrows : ∀ L, L ∈ catL 0 Ps → ∃ s g, s < A.flatten.length ∧ L = (rgl A s).map g ∧ ∀ w, w ∈ rgl A s → 0 ≤ (g w).1 ∧ eiF A f 0 V (g w).1 = f (crs A w) ∧ (g w).2 = uns A w ∧ eiG A sg 0 V (g w).1 = sg (crs A w) := fun L hL => ei_row hi.1 V 0 hV L (by rw [← ce1]; exact hL)
    have hcov : ∀ w, w < A.flatten.length → ∃ p, p ∈ (catL 0 Ps).flatten ∧ eiF A f 0 V p.1 = f (crs A w) := by
      intro w hw
      have hcw := (rn_c_in A w hw).1
      have hpP := hk.1 _ hcw
      have hmem : w ∈ pvl A m (m (rn_c A w)) A.flatten.length := pvl_m.mpr ⟨hw, rfl⟩
      have hFm : m (rn_c A w) ∈ Fl := by
        rw [← hFl]
        refine List.mem_filter.mpr ⟨List.mem_range.mpr hpP, ?_⟩
        cases e : pvl A m (m (rn_c A w)) A.flatten.length with
        | nil => rw [e] at hmem; cases hmem
        | cons a X => rfl
      obtain ⟨i, i1, i2⟩ := List.mem_iff_getElem.mp hFm
      obtain ⟨q1, q2, -⟩ := hst (m (rn_c A w)) (Fl_in _ hFm).2
      have hsv : st (m (rn_c A w)) ∈ V := List.mem_map.mpr ⟨i, (se_in i).mpr i1, by rw [List.getD_eq_getElem?_getD, List.getElem?_eq_getElem i1, i2]; rfl⟩
      obtain ⟨u1, u2, -, -⟩ := trS_all hd q1
      have hin := vsO_of u1 hw ((trS_part hd hk q1 hcw).mpr q2.symm)
      rw [ce1]
      exact ei_all V 0 _ w hsv hin
    have fl9 : (catA Ps T.2.1).flatten = (catL 0 Ps).flatten := by
      unfold catA
      rw [List.flatten_append, fl_nil, List.append_nil]
    have hent : ∀ p, p ∈ (catL 0 Ps).flatten → ∃ w, w < A.flatten.length ∧ eiF A f 0 V p.1 = f (crs A w) ∧ eiG A sg 0 V p.1 = sg (crs A w) := by
      intro p hp
      obtain ⟨L, hL, hpL⟩ := List.mem_flatten.mp hp
      obtain ⟨s, g, s1, s2, s3⟩ := hrows L hL
      rw [s2] at hpL
      obtain ⟨w, w1, w2⟩ := List.mem_map.mp hpL
      obtain ⟨-, g2, -, g4⟩ := s3 w w1
      rw [w2] at g2 g4
      exact ⟨w, (rgl_c s1 w1).2, g2, g4⟩
    have hlt : ∀ p, p ∈ (catL 0 Ps).flatten → eiF A f 0 V p.1 < T.1 := fun p hp => by
      obtain ⟨w, w1, w2, -⟩ := hent p hp
      rw [w2]
      exact hi.2.2.2.1 w w1
    have hokA := c1'.1
    rw [fl9] at hokA
    refine ⟨eiF A f 0 V, isoV_of (isoS_iff.mp ⟨okF_wk (by omega) c1'.1, okF_len c1'.1, hc, ?_, ?_, ?_, ?_, ?_⟩) hv⟩
    · intro p hp
      rw [fl9] at hp
      exact hlt p hp
    · intro p q hp hq e
      rw [fl9] at hp hq
      refine onto_inj (n := T.1) (h := eiF A f 0 V) (fun k hk9 => ?_) ((hokA.2 p).mp hp).1 ((hokA.2 q).mp hq).1 e
      obtain ⟨w, w1, w2⟩ := lbv_sur hi (show 2 * k < 2 * T.1 by omega)
      obtain ⟨p', p1, p2⟩ := hcov w w1
      refine ⟨p'.1, ((hokA.2 p').mp p1).1, ?_⟩
      have := (lbv_hf hi w1).1
      rw [w2] at this
      rw [p2, ← this]
      omega
    · intro L hL p hpL
      rcases List.mem_append.mp hL with h9 | h9
      · have nL : L.Nodup := L_nd hokA.1 h9
        obtain ⟨s, g, s1, s2, s3⟩ := hrows L h9
        rw [s2] at hpL nL ⊢
        obtain ⟨w, w1, rfl⟩ := List.mem_map.mp hpL
        rw [rgl_sc s1 nL w1]
        have hw := rgl_c s1 w1
        have hnx : rn_nx A w ∈ rgl A s := rgl_all s1 (rnx_lt hw.2) (by rw [c_nx hw.2]; exact hw.1)
        obtain ⟨-, g2, g3, -⟩ := s3 w w1
        obtain ⟨-, k2, k3, -⟩ := s3 _ hnx
        unfold gl
        rw [g2, g3, k2, k3]
        exact hi.2.2.2.2.2.1 w hw.2
      · rw [List.eq_of_mem_replicate h9] at hpL
        cases hpL
    · intro p hp
      rw [fl9] at hp
      obtain ⟨w, w1, w2, w3⟩ := hent p hp
      rw [ce2 p hp, w2, w3]
      exact hi.2.2.2.2.2.2.1 w w1
    · refine cirs_rep (fun L hL e => ?_)
      obtain ⟨s, g, s1, s2, -⟩ := hrows L hL
      rw [e] at s2
      have h1 := congrArg List.length s2
      rw [List.length_map, rgl_len] at h1
      have := rlen_pos s1
      simp at h1
      omega
end EI
end
section
/-! 99zzzzzzzzo.piso -/
/-! plane nets: taken over to nets alike, to parts and to nets side by side -/
def dM (ψ : Nat → Nat) (d : Nat) : Nat := 2 * ψ (d / 2) + d % 2
theorem dM_h (ψ : Nat → Nat) (d : Nat) : dM ψ d / 2 = ψ (d / 2) ∧ dM ψ d % 2 = d % 2 := by
  unfold dM
  omega
/-- a net within a net -/
def pn_hm (S : ow_NP) (b : Nat → Bool) (c' : Nat) (S' : ow_NP) (b' : Nat → Bool) (c : Nat) (ψ : Nat → Nat) : Prop := ∀ v, v < 2 * c' → ψ v < 2 * c ∧ S.1 (ψ v) = ψ (S'.1 v) ∧ mt (ψ v) = ψ (mt v) ∧ b (ψ v) = b' v
section HM
variable {c c' : Nat} {S S' : ow_NP} {b b' : Nat → Bool} {ψ : Nat → Nat}
theorem hm_al (hv : vn c S) (hv' : vn c' S') (h : pn_hm S b c' S' b' c ψ) {d : Nat} (hd : d < 4 * c') : pn_al S (dM ψ d) = dM ψ (pn_al S' d) := by
  obtain ⟨m1, m2⟩ := dM_h ψ d
  obtain ⟨h1, h2, h3, h4⟩ := hv' (d / 2) (by omega)
  unfold pn_al
  rw [m1, m2]
  by_cases e : d % 2 = 0
  · rw [if_pos e, if_pos e, (h (d / 2) (by omega)).2.1]
    unfold dM
    rw [show (2 * S'.1 (d / 2) + 1) / 2 = S'.1 (d / 2) by omega]
    omega
  · rw [if_neg e, if_neg e]
    have q := h _ h2
    have q2 := (hv _ q.1).2.2.1
    rw [q.2.1, h4] at q2
    rw [q2]
    unfold dM
    rw [show 2 * S'.2 (d / 2) / 2 = S'.2 (d / 2) by omega]
    omega
theorem hm_rt (h : pn_hm S b c' S' b' c ψ) {d : Nat} (hd : d < 4 * c') : pn_rt b (dM ψ d) = dM ψ (pn_rt b' d) := by
  obtain ⟨m1, m2⟩ := dM_h ψ d
  obtain ⟨-, -, h3, h4⟩ := h (d / 2) (by omega)
  unfold pn_rt
  rw [m1, m2, h3, h4]
  split
  · unfold dM
    rw [show 2 * mt (d / 2) / 2 = mt (d / 2) by omega]
    omega
  · unfold dM
    rw [show (2 * mt (d / 2) + 1) / 2 = mt (d / 2) by omega]
    omega
theorem hm_ph (hv : vn c S) (hv' : vn c' S') (h : pn_hm S b c' S' b' c ψ) {d : Nat} (hd : d < 4 * c') : pn_ph S b (dM ψ d) = dM ψ (pn_ph S' b' d) := by
  unfold pn_ph
  rw [hm_al hv hv' h hd, hm_rt h (pn_al_lt hv' hd)]
theorem hm_rch (hv' : vn c' S') (h : pn_hm S b c' S' b' c ψ) {r v : Nat} (hr : r < 2 * c') (hrv : rch c' S' r v) : rch c S (ψ r) (ψ v) := by
  refine (hrv (fun v => v < 2 * c' ∧ rch c S (ψ r) (ψ v)) ⟨hr, rch_rf _ _ _⟩ (fun j hj hp => ⟨(hv' j hj).1, ?_⟩) (fun j hj hp => ⟨mt_lt hj, ?_⟩)).2
  · rw [← (h j hj).2.1]
    exact rch_n hp.2 (h j hj).1
  · rw [← (h j hj).2.2.1]
    exact rch_m hp.2 (h j hj).1
/-- what is reached from within stays within -/
theorem hm_back (hv' : vn c' S') (h : pn_hm S b c' S' b' c ψ) {v w : Nat} (hvl : v < 2 * c') (hr : rch c S (ψ v) w) : ∃ u, u < 2 * c' ∧ w = ψ u ∧ rch c' S' v u := by
  refine hr (fun w => ∃ u, u < 2 * c' ∧ w = ψ u ∧ rch c' S' v u) ⟨v, hvl, rfl, rch_rf _ _ _⟩ (fun j hj hp => ?_) (fun j hj hp => ?_)
  · obtain ⟨u, u1, u2, u3⟩ := hp
    exact ⟨_, (hv' u u1).1, by rw [u2, (h u u1).2.1], rch_n u3 u1⟩
  · obtain ⟨u, u1, u2, u3⟩ := hp
    exact ⟨_, mt_lt u1, by rw [u2, (h u u1).2.2.1], rch_m u3 u1⟩
end HM
theorem full_mem {n : Nat} {L : List Nat} (hn : L.Nodup) (hl : L.length = n) (hb : ∀ x, x ∈ L → x < n) {k : Nat} (hk : k < n) : k ∈ L := by
  refine Classical.byContradiction (fun h => ?_)
  have := nodup_le (k :: L) (List.range n) (List.nodup_cons.mpr ⟨h, hn⟩) (fun a ha => by
    rcases List.mem_cons.mp ha with e | e
    · rw [e]; exact List.mem_range.mpr hk
    · exact List.mem_range.mpr (hb a e))
  rw [List.length_cons, List.length_range, hl] at this
  omega
section UN
variable {c cA cB : Nat} {S SA SB : ow_NP} {b bA bB : Nat → Bool} {ψA ψB : Nat → Nat}
def pn_un (c cA cB : Nat) (ψA ψB : Nat → Nat) : Prop := c = cA + cB ∧ (∀ u v, u < 2 * cA → v < 2 * cA → ψA u = ψA v → u = v) ∧ (∀ u v, u < 2 * cB → v < 2 * cB → ψB u = ψB v → u = v) ∧ ∀ u v, u < 2 * cA → v < 2 * cB → ψA u ≠ ψB v
theorem un_cov (hu : pn_un c cA cB ψA ψB) (hA : ∀ v, v < 2 * cA → ψA v < 2 * c) (hB : ∀ v, v < 2 * cB → ψB v < 2 * c) {v : Nat} (hv : v < 2 * c) : (∃ u, u < 2 * cA ∧ ψA u = v) ∨ ∃ u, u < 2 * cB ∧ ψB u = v := by
  obtain ⟨u1, u2, u3, u4⟩ := hu
  have := full_mem (n := 2 * c) (L := (List.range (2 * cA)).map ψA ++ (List.range (2 * cB)).map ψB) (List.nodup_append.mpr ⟨nodup_map List.nodup_range (fun x y hx hy e => u2 x y (List.mem_range.mp hx) (List.mem_range.mp hy) e), nodup_map List.nodup_range (fun x y hx hy e => u3 x y (List.mem_range.mp hx) (List.mem_range.mp hy) e), fun x hx y hy e => by
    obtain ⟨p, p1, p2⟩ := List.mem_map.mp hx
    obtain ⟨q, q1, q2⟩ := List.mem_map.mp hy
    exact u4 p q (List.mem_range.mp p1) (List.mem_range.mp q1) (by rw [p2, q2, e])⟩) (by
    rw [List.length_append, List.length_map, List.length_map, List.length_range, List.length_range]
    omega) (fun x hx => by
    rcases List.mem_append.mp hx with h | h
    · obtain ⟨p, p1, p2⟩ := List.mem_map.mp h
      rw [← p2]
      exact hA p (List.mem_range.mp p1)
    · obtain ⟨p, p1, p2⟩ := List.mem_map.mp h
      rw [← p2]
      exact hB p (List.mem_range.mp p1)) hv
  rcases List.mem_append.mp this with h | h
  · obtain ⟨p, p1, p2⟩ := List.mem_map.mp h
    exact Or.inl ⟨p, List.mem_range.mp p1, p2⟩
  · obtain ⟨p, p1, p2⟩ := List.mem_map.mp h
    exact Or.inr ⟨p, List.mem_range.mp p1, p2⟩
/-- of a plane net each part of it is plane -/
theorem un_sub (hv : vn c S) (hvA : vn cA SA) (hvB : vn cB SB) (hbB : pn_fl bB) (hA : pn_hm S b cA SA bA c ψA) (hB : pn_hm S b cB SB bB c ψB) (hu : pn_un c cA cB ψA ψB) (hp : pn_pl c S b) : pn_pl cA SA bA := by
  obtain ⟨R, hR, f, X, f1, f2, f3, f4⟩ := hp
  have cov := fun {v : Nat} (h : v < 2 * c) => un_cov hu (fun v h => (hA v h).1) (fun v h => (hB v h).1) h
  obtain ⟨u1, u2, u3, u4⟩ := hu
  have hxA : ∀ v, ∃ u, (∃ u, u < 2 * cA ∧ ψA u = v) → u < 2 * cA ∧ ψA u = v := fun v => by
    by_cases h : ∃ u, u < 2 * cA ∧ ψA u = v
    · obtain ⟨u, hu⟩ := h
      exact ⟨u, fun _ => hu⟩
    · exact ⟨0, fun h9 => absurd h9 h⟩
  have hxB : ∀ v, ∃ u, (∃ u, u < 2 * cB ∧ ψB u = v) → u < 2 * cB ∧ ψB u = v := fun v => by
    by_cases h : ∃ u, u < 2 * cB ∧ ψB u = v
    · obtain ⟨u, hu⟩ := h
      exact ⟨u, fun _ => hu⟩
    · exact ⟨0, fun h9 => absurd h9 h⟩
  obtain ⟨χA, hxA⟩ := Classical.skolem.mp hxA
  obtain ⟨χB, hxB⟩ := Classical.skolem.mp hxB
  have xA : ∀ u, u < 2 * cA → χA (ψA u) = u := fun u hu => by
    obtain ⟨q1, q2⟩ := hxA (ψA u) ⟨u, hu, rfl⟩
    exact u2 _ _ q1 hu q2
  have xB : ∀ u, u < 2 * cB → χB (ψB u) = u := fun u hu => by
    obtain ⟨q1, q2⟩ := hxB (ψB u) ⟨u, hu, rfl⟩
    exact u3 _ _ q1 hu q2
  let inA : Nat → Bool := fun v => decide (v ∈ (List.range (2 * cA)).map ψA)
  have inA_t : ∀ v, inA v = true ↔ ∃ u, u < 2 * cA ∧ ψA u = v := fun v => by
    show decide _ = true ↔ _
    rw [decide_eq_true_iff, List.mem_map]
    exact ⟨fun ⟨u, h1, h2⟩ => ⟨u, List.mem_range.mp h1, h2⟩, fun ⟨u, h1, h2⟩ => ⟨u, List.mem_range.mpr h1, h2⟩⟩
  have notA : ∀ v, v < 2 * c → (!inA v) = true → ∃ u, u < 2 * cB ∧ ψB u = v := fun v hvl h => by
    rcases cov hvl with h9 | h9
    · rw [(inA_t v).mpr h9] at h
      cases h
    · exact h9
  -- parts
  have RA : pn_P cA SA ((R.filter inA).map χA) := by
    intro v hvl
    obtain ⟨r, r1, r2, r3⟩ := hR (ψA v) (hA v hvl).1
    obtain ⟨u, w1, w2, w3⟩ := hm_back hvA hA hvl (rch_sy hv r2 r3)
    refine ⟨u, List.mem_map.mpr ⟨r, List.mem_filter.mpr ⟨r1, (inA_t r).mpr ⟨u, w1, w2.symm⟩⟩, by rw [w2, xA u w1]⟩, w1, rch_sy hvA hvl w3⟩
  have RB : pn_P cB SB ((R.filter (fun r => !inA r)).map χB) := by
    intro v hvl
    obtain ⟨r, r1, r2, r3⟩ := hR (ψB v) (hB v hvl).1
    obtain ⟨u, w1, w2, w3⟩ := hm_back hvB hB hvl (rch_sy hv r2 r3)
    have hn : inA r = false := by
      cases e : inA r with
      | false => rfl
      | true =>
        obtain ⟨q, q1, q2⟩ := (inA_t r).mp e
        exact absurd (q2.trans w2) (u4 q u q1 w1)
    refine ⟨u, List.mem_map.mpr ⟨r, List.mem_filter.mpr ⟨r1, by rw [hn]; rfl⟩, by rw [w2, xB u w1]⟩, w1, rch_sy hvB hvl w3⟩
  -- faces
  have FA : ∀ d, d < 4 * cA → f (dM ψA (pn_ph SA bA d)) = f (dM ψA d) := fun d hd => by
    rw [← hm_ph hv hvA hA hd]
    have := (hA (d / 2) (by omega)).1
    exact f1 _ (by unfold dM; omega)
  have FB : ∀ d, d < 4 * cB → f (dM ψB (pn_ph SB bB d)) = f (dM ψB d) := fun d hd => by
    rw [← hm_ph hv hvB hB hd]
    have := (hB (d / 2) (by omega)).1
    exact f1 _ (by unfold dM; omega)
  have backA : ∀ x, x < 4 * c → inA (x / 2) = true → dM ψA (dM χA x) = x ∧ dM χA x < 4 * cA := fun x hx h => by
    obtain ⟨q1, q2⟩ := hxA _ ((inA_t _).mp h)
    obtain ⟨m1, m2⟩ := dM_h χA x
    refine ⟨?_, by omega⟩
    unfold dM
    rw [show (2 * χA (x / 2) + x % 2) / 2 = χA (x / 2) by omega, q2]
    omega
  have backB : ∀ x, x < 4 * c → (!inA (x / 2)) = true → dM ψB (dM χB x) = x ∧ dM χB x < 4 * cB := fun x hx h => by
    obtain ⟨q1, q2⟩ := hxB _ (notA _ (by omega) h)
    obtain ⟨m1, m2⟩ := dM_h χB x
    refine ⟨?_, by omega⟩
    unfold dM
    rw [show (2 * χB (x / 2) + x % 2) / 2 = χB (x / 2) by omega, q2]
    omega
  have hsX := filt_sum (fun x => inA (x / 2)) X
  have hsR := filt_sum inA R
  have bnd := pn_eul hvB hbB RB (k := (X.filter (fun x => !inA (x / 2))).length) ⟨fun d => f (dM ψB d), (X.filter (fun x => !inA (x / 2))).map (dM χB), FB, fun x hx => by
    obtain ⟨q, q1, q2⟩ := List.mem_map.mp hx
    rw [← q2]
    exact (backB q (f2 q (List.mem_filter.mp q1).1) (List.mem_filter.mp q1).2).2, by
    have e1 : ((X.filter (fun x => !inA (x / 2))).map (dM χB)).map (fun d => f (dM ψB d)) = (X.filter (fun x => !inA (x / 2))).map f := by
      rw [List.map_map]
      refine List.map_congr_left (fun q hq => ?_)
      show f (dM ψB (dM χB q)) = f q
      rw [(backB q (f2 q (List.mem_filter.mp hq).1) (List.mem_filter.mp hq).2).1]
    unfold pm_dv
    rw [e1]
    exact pm_fil _ f3, by rw [List.length_map]; exact Nat.le_refl _⟩
  refine ⟨_, RA, fun d => f (dM ψA d), (X.filter (fun x => inA (x / 2))).map (dM χA), FA, fun x hx => ?_, ?_, ?_⟩
  · obtain ⟨q, q1, q2⟩ := List.mem_map.mp hx
    rw [← q2]
    exact (backA q (f2 q (List.mem_filter.mp q1).1) (List.mem_filter.mp q1).2).2
  · have e1 : ((X.filter (fun x => inA (x / 2))).map (dM χA)).map (fun d => f (dM ψA d)) = (X.filter (fun x => inA (x / 2))).map f := by
      rw [List.map_map]
      refine List.map_congr_left (fun q hq => ?_)
      show f (dM ψA (dM χA q)) = f q
      rw [(backA q (f2 q (List.mem_filter.mp hq).1) (List.mem_filter.mp hq).2).1]
    unfold pm_dv
    rw [e1]
    exact pm_fil _ f3
  · rw [List.length_map] at bnd
    rw [List.length_map, List.length_map]
    omega
/-- plane nets side by side are plane -/
theorem un_sup (hv : vn c S) (hvA : vn cA SA) (hvB : vn cB SB) (hA : pn_hm S b cA SA bA c ψA) (hB : pn_hm S b cB SB bB c ψB) (hu : pn_un c cA cB ψA ψB) (hpA : pn_pl cA SA bA) (hpB : pn_pl cB SB bB) : pn_pl c S b := by
  obtain ⟨RA, hRA, fA, XA, a1, a2, a3, a4⟩ := hpA
  obtain ⟨RB, hRB, fB, XB, e1, e2, e3, e4⟩ := hpB
  have cov := fun {v : Nat} (h : v < 2 * c) => un_cov hu (fun v h => (hA v h).1) (fun v h => (hB v h).1) h
  obtain ⟨u1, u2, u3, u4⟩ := hu
  have hlab : ∀ d, ∃ y, (∀ x, x < 4 * cA → dM ψA x = d → y = 2 * fA x) ∧ ∀ x, x < 4 * cB → dM ψB x = d → y = 2 * fB x + 1 := fun d => by
    have injA : ∀ x x', x < 4 * cA → x' < 4 * cA → dM ψA x = dM ψA x' → x = x' := fun x x' h h' e => by
      obtain ⟨m1, m2⟩ := dM_h ψA x
      obtain ⟨n1, n2⟩ := dM_h ψA x'
      rw [e] at m1 m2
      have := u2 _ _ (by omega) (by omega) (m1.symm.trans n1)
      omega
    have injB : ∀ x x', x < 4 * cB → x' < 4 * cB → dM ψB x = dM ψB x' → x = x' := fun x x' h h' e => by
      obtain ⟨m1, m2⟩ := dM_h ψB x
      obtain ⟨n1, n2⟩ := dM_h ψB x'
      rw [e] at m1 m2
      have := u3 _ _ (by omega) (by omega) (m1.symm.trans n1)
      omega
    have dis : ∀ x x', x < 4 * cA → x' < 4 * cB → dM ψA x ≠ dM ψB x' := fun x x' h h' e => by
      obtain ⟨m1, m2⟩ := dM_h ψA x
      obtain ⟨n1, n2⟩ := dM_h ψB x'
      rw [e] at m1
      exact u4 _ _ (by omega) (by omega) (m1.symm.trans n1)
    by_cases h : ∃ x, x < 4 * cA ∧ dM ψA x = d
    · obtain ⟨x, x1, x2⟩ := h
      exact ⟨2 * fA x, fun x' h1 h2 => by rw [injA x x' x1 h1 (x2.trans h2.symm)], fun x' h1 h2 => absurd (x2.trans h2.symm) (dis x x' x1 h1)⟩
    · by_cases h2 : ∃ x, x < 4 * cB ∧ dM ψB x = d
      · obtain ⟨x, x1, x2⟩ := h2
        exact ⟨2 * fB x + 1, fun x' h1 h3 => absurd ⟨x', h1, h3⟩ h, fun x' h1 h3 => by rw [injB x x' x1 h1 (x2.trans h3.symm)]⟩
      · exact ⟨0, fun x' h1 h3 => absurd ⟨x', h1, h3⟩ h, fun x' h1 h3 => absurd ⟨x', h1, h3⟩ h2⟩
  obtain ⟨f, hf⟩ := Classical.skolem.mp hlab
  have fa : ∀ x, x < 4 * cA → f (dM ψA x) = 2 * fA x := fun x hx => (hf _).1 x hx rfl
  have fb : ∀ x, x < 4 * cB → f (dM ψB x) = 2 * fB x + 1 := fun x hx => (hf _).2 x hx rfl
  have dcov : ∀ d, d < 4 * c → (∃ x, x < 4 * cA ∧ dM ψA x = d) ∨ ∃ x, x < 4 * cB ∧ dM ψB x = d := fun d hd => by
    rcases cov (show d / 2 < 2 * c by omega) with ⟨u, h1, h2⟩ | ⟨u, h1, h2⟩
    · refine Or.inl ⟨2 * u + d % 2, by omega, ?_⟩
      unfold dM
      rw [show (2 * u + d % 2) / 2 = u by omega, h2]
      omega
    · refine Or.inr ⟨2 * u + d % 2, by omega, ?_⟩
      unfold dM
      rw [show (2 * u + d % 2) / 2 = u by omega, h2]
      omega
  refine ⟨RA.map ψA ++ RB.map ψB, fun v hvl => ?_, f, XA.map (dM ψA) ++ XB.map (dM ψB), fun d hd => ?_, fun x hx => ?_, ?_, ?_⟩
  · rcases cov hvl with ⟨u, h1, h2⟩ | ⟨u, h1, h2⟩
    · obtain ⟨r, r1, r2, r3⟩ := hRA u h1
      refine ⟨ψA r, List.mem_append_left _ (List.mem_map.mpr ⟨r, r1, rfl⟩), (hA r r2).1, ?_⟩
      rw [← h2]
      exact hm_rch hvA hA r2 r3
    · obtain ⟨r, r1, r2, r3⟩ := hRB u h1
      refine ⟨ψB r, List.mem_append_right _ (List.mem_map.mpr ⟨r, r1, rfl⟩), (hB r r2).1, ?_⟩
      rw [← h2]
      exact hm_rch hvB hB r2 r3
  · rcases dcov d hd with ⟨x, x1, x2⟩ | ⟨x, x1, x2⟩
    · rw [← x2, hm_ph hv hvA hA x1, fa _ (pn_ph_lt hvA x1), fa x x1, a1 x x1]
    · rw [← x2, hm_ph hv hvB hB x1, fb _ (pn_ph_lt hvB x1), fb x x1, e1 x x1]
  · rcases List.mem_append.mp hx with h | h
    · obtain ⟨q, q1, q2⟩ := List.mem_map.mp h
      have := (hA (q / 2) (by have := a2 q q1; omega)).1
      obtain ⟨m1, m2⟩ := dM_h ψA q
      omega
    · obtain ⟨q, q1, q2⟩ := List.mem_map.mp h
      have := (hB (q / 2) (by have := e2 q q1; omega)).1
      obtain ⟨m1, m2⟩ := dM_h ψB q
      omega
  · unfold pm_dv
    rw [List.map_append, List.map_map, List.map_map]
    have k1 : XA.map (f ∘ dM ψA) = (XA.map fA).map (fun y => 2 * y) := by
      rw [List.map_map]
      exact List.map_congr_left (fun q hq => fa q (a2 q hq))
    have k2 : XB.map (f ∘ dM ψB) = (XB.map fB).map (fun y => 2 * y + 1) := by
      rw [List.map_map]
      exact List.map_congr_left (fun q hq => fb q (e2 q hq))
    rw [k1, k2]
    refine List.nodup_append.mpr ⟨nodup_map a3 (fun x y _ _ e => by omega), nodup_map e3 (fun x y _ _ e => by omega), fun x hx y hy e => ?_⟩
    obtain ⟨p, -, p2⟩ := List.mem_map.mp hx
    obtain ⟨q, -, q2⟩ := List.mem_map.mp hy
    omega
  · rw [List.length_append, List.length_append, List.length_map, List.length_map, List.length_map, List.length_map]
    omega
/-- nets alike -/
theorem pl_hm (hv : vn c S) (hvA : vn c SA) (hA : pn_hm S b c SA bA c ψA) (hi : ∀ u v, u < 2 * c → v < 2 * c → ψA u = ψA v → u = v) : pn_pl c S b ↔ pn_pl c SA bA := by
  have hvB : vn 0 SA := fun k hk => by omega
  have hu : pn_un c c 0 ψA ψA := ⟨by omega, hi, fun u v h => by omega, fun u v _ h => by omega⟩
  have hB : pn_hm S b 0 SA (stG (fun _ => 1)) c ψA := fun v h => by omega
  exact ⟨fun h => un_sub hv hvA hvB stG_fl hA hB hu h, fun h => un_sup hv hvA hvB hA hB hu h ⟨[], fun v h => by omega, fun _ => 0, [], fun d h => by omega, fun x hx => absurd hx List.not_mem_nil, List.nodup_nil, Nat.le_refl _⟩⟩
end UN
end
section
/-! 99zzzzzzzzp.pla -/
/-! a net within a plane net is plane; planeness of lists of components -/
section SUB
variable {c cA : Nat} {S SA : ow_NP} {b bA : Nat → Bool} {ψ : Nat → Nat}
theorem sub_pl (hv : vn c S) (hb : pn_fl b) (hvA : vn cA SA) (hA : pn_hm S b cA SA bA c ψ) (hi : ∀ u v, u < 2 * cA → v < 2 * cA → ψ u = ψ v → u = v) (hp : pn_pl c S b) : pn_pl cA SA bA := by
  let im := (List.range (2 * cA)).map ψ
  have im_in : ∀ v, v ∈ im ↔ ∃ u, u < 2 * cA ∧ ψ u = v := fun v => by
    rw [List.mem_map]
    exact ⟨fun ⟨u, h1, h2⟩ => ⟨u, List.mem_range.mp h1, h2⟩, fun ⟨u, h1, h2⟩ => ⟨u, List.mem_range.mpr h1, h2⟩⟩
  have im_nd : im.Nodup := nodup_map List.nodup_range (fun x y hx hy e => hi x y (List.mem_range.mp hx) (List.mem_range.mp hy) e)
  have im_mt : ∀ v, v ∈ im → mt v ∈ im := fun v h => by
    obtain ⟨u, u1, u2⟩ := (im_in v).mp h
    exact (im_in _).mpr ⟨mt u, mt_lt u1, by rw [← u2, (hA u u1).2.2.1]⟩
  have im_n : ∀ v, v ∈ im → S.1 v ∈ im := fun v h => by
    obtain ⟨u, u1, u2⟩ := (im_in v).mp h
    exact (im_in _).mpr ⟨SA.1 u, (hvA u u1).1, by rw [← u2, (hA u u1).2.1]⟩
  have im_p : ∀ v, v ∈ im → S.2 v ∈ im := fun v h => by
    obtain ⟨u, u1, u2⟩ := (im_in v).mp h
    obtain ⟨q1, q2, q3, q4⟩ := hvA u u1
    refine (im_in _).mpr ⟨SA.2 u, q2, ?_⟩
    have := (hA _ q2).2.1
    rw [q4, u2] at this
    rw [← this, (hv _ (hA _ q2).1).2.2.1]
  have im_lt : ∀ v, v ∈ im → v < 2 * c := fun v h => by
    obtain ⟨u, u1, u2⟩ := (im_in v).mp h
    rw [← u2]
    exact (hA u u1).1
  let K := (List.range c).filter (fun x => decide (2 * x ∈ im))
  let L := (List.range c).filter (fun x => !decide (2 * x ∈ im))
  have L_in : ∀ x, x ∈ L ↔ x < c ∧ 2 * x ∉ im := fun x => by
    rw [List.mem_filter, List.mem_range, Bool.not_eq_true', decide_eq_false_iff_not]
  have K_in : ∀ x, x ∈ K ↔ x < c ∧ 2 * x ∈ im := fun x => by
    rw [List.mem_filter, List.mem_range, decide_eq_true_iff]
  have hKL : K.length + L.length = c := by
    have := filt_sum (fun x => decide (2 * x ∈ im)) (List.range c)
    rw [List.length_range] at this
    exact this
  have both : ∀ v, v ∈ im ↔ 2 * (v / 2) ∈ im := fun v => by
    by_cases e : v % 2 = 0
    · rw [show 2 * (v / 2) = v by omega]
    · have em : mt v = 2 * (v / 2) := by unfold mt; rw [if_neg e]; omega
      constructor
      · intro h
        rw [← em]
        exact im_mt v h
      · intro h
        have := im_mt _ h
        rw [← em, mt_mt] at this
        exact this
  have hK1 : im.length ≤ 2 * K.length := by
    have := nodup_le im (pm_tw K) im_nd (fun v h => pm_tw_in.mpr ((K_in _).mpr ⟨by have := im_lt v h; omega, (both v).mp h⟩))
    rw [pm_tw_len] at this
    exact this
  have hK2 : 2 * K.length ≤ im.length := by
    have := nodup_le (pm_tw K) im (pm_tw_nd (List.nodup_range.filter _)) (fun v h => (both v).mpr ((K_in _).mp (pm_tw_in.mp h)).2)
    rw [pm_tw_len] at this
    exact this
  have hil : im.length = 2 * cA := by
    show ((List.range (2 * cA)).map ψ).length = _
    rw [List.length_map, List.length_range]
  have Lnd : L.Nodup := List.nodup_range.filter _
  let cB := L.length
  let ψB : Nat → Nat := fun v => 2 * L.getD (v / 2) 0 + v % 2
  let iv : Nat → Nat := fun w => 2 * L.idxOf (w / 2) + w % 2
  have LD : ∀ i, i < cB → L.getD i 0 ∈ L := fun i h => by
    have h : i < L.length := h
    rw [List.getD_eq_getElem?_getD, List.getElem?_eq_getElem h]
    exact List.getElem_mem h
  have bh : ∀ v, ψB v / 2 = L.getD (v / 2) 0 ∧ ψB v % 2 = v % 2 := fun v => by
    show (2 * L.getD (v / 2) 0 + v % 2) / 2 = _ ∧ (2 * L.getD (v / 2) 0 + v % 2) % 2 = _
    omega
  have bin : ∀ v, v < 2 * cB → ψB v < 2 * c ∧ ψB v ∉ im := fun v h => by
    have h1 := (L_in _).mp (LD (v / 2) (by omega))
    obtain ⟨m1, m2⟩ := bh v
    refine ⟨by omega, fun h9 => h1.2 ?_⟩
    have := (both _).mp h9
    rw [m1] at this
    exact this
  have ivb : ∀ w, w < 2 * c → w ∉ im → iv w < 2 * cB ∧ ψB (iv w) = w := fun w h1 h2 => by
    have hL : w / 2 ∈ L := (L_in _).mpr ⟨by omega, fun h9 => h2 ((both w).mpr h9)⟩
    have hx : L.idxOf (w / 2) < L.length := List.idxOf_lt_length_of_mem hL
    refine ⟨by show 2 * L.idxOf (w / 2) + w % 2 < 2 * L.length; omega, ?_⟩
    show 2 * L.getD ((2 * L.idxOf (w / 2) + w % 2) / 2) 0 + (2 * L.idxOf (w / 2) + w % 2) % 2 = w
    rw [show (2 * L.idxOf (w / 2) + w % 2) / 2 = L.idxOf (w / 2) by omega, List.getD_eq_getElem?_getD, List.getElem?_eq_getElem hx, List.getElem_idxOf]
    show 2 * (w / 2) + _ = w
    omega
  have binj : ∀ u v, u < 2 * cB → v < 2 * cB → ψB u = ψB v → u = v := fun u v hu hv9 e => by
    obtain ⟨m1, m2⟩ := bh u
    obtain ⟨n1, n2⟩ := bh v
    rw [e] at m1 m2
    have e2 : L.getD (u / 2) 0 = L.getD (v / 2) 0 := m1.symm.trans n1
    have hu2 : u / 2 < L.length := by show u / 2 < cB; omega
    have hv2 : v / 2 < L.length := by show v / 2 < cB; omega
    rw [List.getD_eq_getElem?_getD, List.getD_eq_getElem?_getD, List.getElem?_eq_getElem hu2, List.getElem?_eq_getElem hv2] at e2
    have e3 : L[u / 2] = L[v / 2] := e2
    have := nodup_at Lnd (List.getElem?_eq_getElem hu2) (by rw [e3]; exact List.getElem?_eq_getElem hv2)
    omega
  have ivp : ∀ v, v < 2 * cB → iv (ψB v) = v := fun v h => by
    obtain ⟨h1, h2⟩ := bin v h
    obtain ⟨q1, q2⟩ := ivb _ h1 h2
    exact binj _ _ q1 h q2
  have out_n : ∀ w, w < 2 * c → w ∉ im → S.1 w ∉ im := fun w h1 h2 h9 => h2 (by
    have := im_p _ h9
    rw [(hv w h1).2.2.1] at this
    exact this)
  have out_p : ∀ w, w < 2 * c → w ∉ im → S.2 w ∉ im := fun w h1 h2 h9 => h2 (by
    have := im_n _ h9
    rw [(hv w h1).2.2.2] at this
    exact this)
  have out_m : ∀ w, w ∉ im → mt w ∉ im := fun w h2 h9 => h2 (by
    have := im_mt _ h9
    rw [mt_mt] at this
    exact this)
  let SB : ow_NP := (fun v => iv (S.1 (ψB v)), fun v => iv (S.2 (ψB v)))
  have s1 : ∀ v, v < 2 * cB → iv (S.1 (ψB v)) < 2 * cB ∧ ψB (iv (S.1 (ψB v))) = S.1 (ψB v) := fun v h => ivb _ (hv _ (bin v h).1).1 (out_n _ (bin v h).1 (bin v h).2)
  have s2 : ∀ v, v < 2 * cB → iv (S.2 (ψB v)) < 2 * cB ∧ ψB (iv (S.2 (ψB v))) = S.2 (ψB v) := fun v h => ivb _ (hv _ (bin v h).1).2.1 (out_p _ (bin v h).1 (bin v h).2)
  have hvB : vn cB SB := fun v h => by
    refine ⟨(s1 v h).1, (s2 v h).1, ?_, ?_⟩
    · show iv (S.2 (ψB (iv (S.1 (ψB v))))) = v
      rw [(s1 v h).2, (hv _ (bin v h).1).2.2.1, ivp v h]
    · show iv (S.1 (ψB (iv (S.2 (ψB v))))) = v
      rw [(s2 v h).2, (hv _ (bin v h).1).2.2.2, ivp v h]
  have mB : ∀ v, v < 2 * cB → mt (ψB v) = ψB (mt v) := fun v h => by
    obtain ⟨m1, m2⟩ := bh v
    obtain ⟨n1, n2⟩ := bh (mt v)
    rw [mt_h2] at n1
    unfold mt at n1 n2 ⊢
    split
    · rename_i e
      rw [m2] at e
      rw [if_pos e] at n1 n2 ⊢
      omega
    · rename_i e
      rw [m2] at e
      rw [if_neg e] at n1 n2 ⊢
      omega
  have hB : pn_hm S b cB SB (fun v => if v < 2 * cB then b (ψB v) else decide (v % 2 = 0)) c ψB := fun v h => by
    refine ⟨(bin v h).1, (s1 v h).2.symm, mB v h, ?_⟩
    show b (ψB v) = if v < 2 * cB then b (ψB v) else _
    rw [if_pos h]
  have hbB : pn_fl (fun v => if v < 2 * cB then b (ψB v) else decide (v % 2 = 0)) := fun v => by
    show (if mt v < 2 * cB then b (ψB (mt v)) else decide (mt v % 2 = 0)) = !(if v < 2 * cB then b (ψB v) else decide (v % 2 = 0))
    by_cases h : v < 2 * cB
    · rw [if_pos h, if_pos (mt_lt h), ← mB v h]
      exact hb _
    · have h2 : ¬ mt v < 2 * cB := fun h9 => h (by have := mt_lt h9; rw [mt_mt] at this; exact this)
      rw [if_neg h, if_neg h2]
      unfold mt
      by_cases e : v % 2 = 0
      · rw [if_pos e, decide_eq_true e, decide_eq_false (by omega)]
        rfl
      · rw [if_neg e, decide_eq_false e, decide_eq_true (by omega)]
        rfl
  have hcB : c = cA + cB := by
    show c = cA + L.length
    omega
  refine un_sub hv hvA hvB hbB hA hB ⟨hcB, hi, binj, fun u v hu hv9 e => (bin v hv9).2 ?_⟩ hp
  rw [← e]
  exact (im_in _).mpr ⟨u, hu, rfl⟩
end SUB
/-! nets that show components -/
def pm1 (T : ow_NT) : Prop := ∀ x, x < T.1 → T.2.2.2 x = 1 ∨ T.2.2.2 x = -1
section LST
variable {A A' : rn_L} {sg sg' : Nat → Bool} {f f' : Nat → Nat} {T T' : ow_NT}
theorem gl_hf {p : vT} (hp : p.2 < 2) : gl f p / 2 = f p.1 ∧ gl f p % 2 = p.2 := by
  unfold gl
  omega
theorem stG_gl (h : isoV A sg f T) (hT : pm1 T) {p : vT} (hp : p ∈ A.flatten) : stG T.2.2.2 (gl f p) = (decide (p.2 = 0) == !sg p.1) := by
  have h2 := (h.1.1.2 p hp).2.1
  obtain ⟨e1, e2⟩ := gl_hf (f := f) h2
  have hx := h.1.2.2.2.1 p hp
  have hs := h.1.2.2.2.2.2.2.1 p hp
  unfold stG
  rw [e1, e2]
  congr 1
  rcases hT _ hx with e | e
  · rw [e] at hs ⊢
    cases hq : sg p.1 with
    | true => exact absurd (hs.mpr hq) (by decide)
    | false => rfl
  · rw [e] at hs ⊢
    cases hq : sg p.1 with
    | true => rfl
    | false =>
      have := hs.mp (by decide)
      rw [hq] at this
      cases this
theorem gl_sur (h : isoV A sg f T) {k : Nat} (hk : k < 2 * T.1) : ∃ p, p ∈ A.flatten ∧ gl f p = k := by
  obtain ⟨v, v1, v2⟩ := lbv_sur (isoS_iff.mp h.1) hk
  exact ⟨vAt A v, vAt_mem v1, v2⟩
theorem gl_mate {p : vT} (hp : p.2 < 2) : mt (gl f p) = gl f (p.1, 1 - p.2) := by
  unfold gl mt
  rcases (show p.2 = 0 ∨ p.2 = 1 by omega) with e | e
  · rw [e, if_pos (by omega)]
    rfl
  · rw [e, if_neg (by omega)]
    show 2 * f p.1 + 1 - 1 = 2 * f p.1 + (1 - 1)
    omega
/-- components of one net among those of another -/
theorem iso_hm (h : isoV A sg f T) (h' : isoV A' sg' f' T') (hT : pm1 T) (hT' : pm1 T') (hL : ∀ L, L ∈ A' → L ≠ [] → L ∈ A) (hs : ∀ p, p ∈ A'.flatten → sg' p.1 = sg p.1) : ∃ ψ, pn_hm T.2.2.1 (stG T.2.2.2) T'.1 T'.2.2.1 (stG T'.2.2.2) T.1 ψ ∧ (∀ u v, u < 2 * T'.1 → v < 2 * T'.1 → ψ u = ψ v → u = v) ∧ ∀ p, p ∈ A'.flatten → ψ (gl f' p) = gl f p := by
  have mem : ∀ p, p ∈ A'.flatten → p ∈ A.flatten := fun p hp => by
    obtain ⟨L, l1, l2⟩ := List.mem_flatten.mp hp
    exact List.mem_flatten.mpr ⟨L, hL L l1 (fun e => by rw [e] at l2; cases l2), l2⟩
  have ex : ∀ v, ∃ u, ∀ p, p ∈ A'.flatten → gl f' p = v → u = gl f p := fun v => by
    by_cases h9 : ∃ p, p ∈ A'.flatten ∧ gl f' p = v
    · obtain ⟨p, p1, p2⟩ := h9
      exact ⟨gl f p, fun q q1 q2 => by rw [gl_gin h'.1 p q p1 q1 (p2.trans q2.symm)]⟩
    · exact ⟨0, fun p p1 p2 => absurd ⟨p, p1, p2⟩ h9⟩
  obtain ⟨ψ, hψ⟩ := Classical.skolem.mp ex
  have at9 : ∀ p, p ∈ A'.flatten → ψ (gl f' p) = gl f p := fun p hp => hψ _ p hp rfl
  refine ⟨ψ, fun v hv => ?_, fun u v hu hv e => ?_, at9⟩
  · obtain ⟨p, p1, rfl⟩ := gl_sur h' hv
    have hp2 := (h'.1.1.2 p p1)
    obtain ⟨L, l1, l2⟩ := List.mem_flatten.mp p1
    have l3 := hL L l1 (fun e => by rw [e] at l2; cases l2)
    have nL := L_nd h'.1.1.1 l1
    rw [at9 p p1]
    refine ⟨gl_lt h (mem p p1), ?_, ?_, ?_⟩
    · rw [(h.2 L l3 p l2).1, (h'.2 L l1 p l2).1]
      exact (at9 _ (List.mem_flatten.mpr ⟨L, l1, sc_in l2 nL⟩)).symm
    · rw [gl_mate hp2.2.1, gl_mate hp2.2.1]
      exact (at9 _ hp2.2.2).symm
    · rw [stG_gl h hT (mem p p1), stG_gl h' hT' p1, hs p p1]
  · obtain ⟨p, p1, rfl⟩ := gl_sur h' hu
    obtain ⟨q, q1, rfl⟩ := gl_sur h' hv
    rw [at9 p p1, at9 q q1] at e
    rw [gl_gin h.1 p q (mem p p1) (mem q q1) e]
theorem pl_sub (h : isoV A sg f T) (h' : isoV A' sg' f' T') (hT : pm1 T) (hT' : pm1 T') (hL : ∀ L, L ∈ A' → L ≠ [] → L ∈ A) (hs : ∀ p, p ∈ A'.flatten → sg' p.1 = sg p.1) (hp : nt_plane T = true) : nt_plane T' = true := by
  obtain ⟨ψ, h1, h2, -⟩ := iso_hm h h' hT hT' hL hs
  have hv := isoV_vn h
  have hv' := isoV_vn h'
  rw [plane_iff hv' h'.1.2.2.1]
  exact sub_pl hv stG_fl hv' h1 h2 ((plane_iff hv h.1.2.2.1).mp hp)
/-- a list of components is plane -/
def plnA (A : rn_L) (sg : Nat → Bool) : Prop := ∀ f T, isoV A sg f T → pm1 T → nt_plane T = true
theorem plnA_of (h : isoV A sg f T) (hT : pm1 T) (hp : nt_plane T = true) : plnA A sg := fun f' T' h' hT' => pl_sub h h' hT hT' (fun L hL _ => hL) (fun p _ => rfl) hp
end LST
end
section
/-! 99zzzzzzzzq.pop1 -/
/-! plane nets: flipped, turned, side by side -/
theorem cirs_map {g : vT → vT} (A : rn_L) : cirs (A.map (List.map g)) = cirs A := by
  unfold cirs
  rw [List.countP_map]
  congr 1
  funext L
  cases L <;> rfl
section FLP
variable {A : rn_L} {sg : Nat → Bool} {f : Nat → Nat} {T : ow_NT} {x : Nat}
def ntF (T : ow_NT) (x : Nat) : ow_NT := (T.1, T.2.1, np_swap T.2.2.1 (2 * x) (2 * x + 1), su T.2.2.2 x (-T.2.2.2 x))
theorem pm1_F (hT : pm1 T) : pm1 (ntF T x) := by
  intro k hk
  show su T.2.2.2 x (-T.2.2.2 x) k = 1 ∨ su T.2.2.2 x (-T.2.2.2 x) k = -1
  have hk : k < T.1 := hk
  by_cases e : k = x
  · rw [show su T.2.2.2 x (-T.2.2.2 x) k = -T.2.2.2 x from if_pos e]
    rw [e] at hk
    rcases hT x hk with h | h <;> rw [h]
    · exact Or.inr rfl
    · exact Or.inl rfl
  · rw [show su T.2.2.2 x (-T.2.2.2 x) k = T.2.2.2 k from if_neg e]
    exact hT k hk
theorem vn_F (hv : vn T.1 T.2.2.1) (hx : x < T.1) : vn T.1 (np_swap T.2.2.1 (2 * x) (2 * x + 1)) := vD_vn.mp (vD_swap (vD_vn.mpr hv) (show 2 * x < 2 * T.1 by omega) (show 2 * x + 1 < 2 * T.1 by omega))
theorem mt_ev (x : Nat) : mt (2 * x) = 2 * x + 1 := by
  unfold mt
  rw [if_pos (by omega)]
theorem mt_od (x : Nat) : mt (2 * x + 1) = 2 * x := by
  unfold mt
  rw [if_neg (by omega)]
  omega
theorem sw_mt (v x : Nat) : mt (np_sw v (2 * x) (2 * x + 1)) = np_sw (mt v) (2 * x) (2 * x + 1) := by
  by_cases e1 : v = 2 * x
  · rw [e1, np_sw_v, mt_od, mt_ev, np_sw_w]
  · by_cases e2 : v = 2 * x + 1
    · rw [e2, np_sw_w, mt_od, mt_ev, np_sw_v]
    · have h := mt_h2 v
      rw [np_sw_o e1 e2, np_sw_o (by omega) (by omega)]
theorem pl_flip (hv : vn T.1 T.2.2.1) (hc : T.1 ≤ 12) (hT : pm1 T) (hx : x < T.1) : nt_plane T = true ↔ nt_plane (ntF T x) = true := by
  rw [plane_iff hv hc, plane_iff (T := ntF T x) (vn_F hv hx) hc]
  have hsl : ∀ v, v < 2 * T.1 → np_sw v (2 * x) (2 * x + 1) < 2 * T.1 := fun v h => np_sw_D (D := fun k => k < 2 * T.1) (by omega) (by omega) h
  have h := pl_hm (c := T.1) (S := T.2.2.1) (SA := np_swap T.2.2.1 (2 * x) (2 * x + 1)) (b := stG T.2.2.2) (bA := stG (su T.2.2.2 x (-T.2.2.2 x))) (ψA := fun v => np_sw v (2 * x) (2 * x + 1)) hv (vn_F hv hx) (fun v hvl => ?_) (fun u v _ _ e => ?_)
  · exact h
  · refine ⟨hsl v hvl, ?_, sw_mt v x, ?_⟩
    · show T.2.2.1.1 (np_sw v (2 * x) (2 * x + 1)) = np_sw ((np_swap T.2.2.1 (2 * x) (2 * x + 1)).1 v) (2 * x) (2 * x + 1)
      rw [np_swap_1 (D := fun k => k < 2 * T.1) (vD_vn.mpr hv) (by omega) (by omega) hvl, np_sw_i]
    · show stG T.2.2.2 (np_sw v (2 * x) (2 * x + 1)) = stG (su T.2.2.2 x (-T.2.2.2 x)) v
      unfold stG
      by_cases e1 : v = 2 * x
      · rw [e1, np_sw_v, show su T.2.2.2 x (-T.2.2.2 x) (2 * x / 2) = -T.2.2.2 x from if_pos (by omega), show (2 * x + 1) / 2 = x by omega, show (2 * x + 1) % 2 = 1 by omega, show 2 * x % 2 = 0 by omega]
        rcases hT x hx with h | h <;> rw [h] <;> rfl
      · by_cases e2 : v = 2 * x + 1
        · rw [e2, np_sw_w, show su T.2.2.2 x (-T.2.2.2 x) ((2 * x + 1) / 2) = -T.2.2.2 x from if_pos (by omega), show 2 * x / 2 = x by omega, show (2 * x + 1) % 2 = 1 by omega, show 2 * x % 2 = 0 by omega]
          rcases hT x hx with h | h <;> rw [h] <;> rfl
        · rw [np_sw_o e1 e2, show su T.2.2.2 x (-T.2.2.2 x) (v / 2) = T.2.2.2 (v / 2) from if_neg (by omega)]
  · have e : np_sw u (2 * x) (2 * x + 1) = np_sw v (2 * x) (2 * x + 1) := e
    rw [← np_sw_i (2 * x) (2 * x + 1) u, e, np_sw_i]
theorem gl_flp {p : vT} (hp : p.2 < 2) : gl f (flp (fun y => decide (f y = x)) p) = np_sw (gl f p) (2 * x) (2 * x + 1) := by
  unfold gl
  rw [flp_1, flp_2]
  by_cases e : f p.1 = x
  · rw [decide_eq_true e, if_pos rfl, e]
    rcases (show p.2 = 0 ∨ p.2 = 1 by omega) with h | h
    · rw [h, show 2 * x + 0 = 2 * x from rfl, np_sw_v]
    · rw [h, np_sw_w]
      rfl
  · rw [decide_eq_false e, if_neg (by decide), np_sw_o (by omega) (by omega)]
theorem iso_flip (h : isoV A sg f T) (hT : pm1 T) (hx : x < T.1) : isoV (A.map (List.map (flp (fun y => decide (f y = x))))) (fun y => if f y = x then !sg y else sg y) f (ntF T x) := by
  have hv := isoV_vn h
  have hF := h.1.1
  have lt2 : ∀ p, p ∈ A.flatten → p.2 < 2 := fun p hp => (hF.2 p hp).2.1
  refine isoV_of (isoS_iff.mp ⟨?_, ?_, h.1.2.2.1, ?_, ?_, ?_, ?_, ?_⟩) (vn_F hv hx)
  · rw [fl_map2]
    exact wkF_flp hF
  · rw [fl_map2, List.length_map]
    exact h.1.2.1
  · intro p hp
    rw [fl_map2] at hp
    obtain ⟨q, q1, rfl⟩ := List.mem_map.mp hp
    rw [flp_1]
    exact h.1.2.2.2.1 q q1
  · intro p q hp hq e
    rw [fl_map2] at hp hq
    obtain ⟨p', p1, rfl⟩ := List.mem_map.mp hp
    obtain ⟨q', q1, rfl⟩ := List.mem_map.mp hq
    rw [flp_1, flp_1] at e ⊢
    exact h.1.2.2.2.2.1 p' q' p1 q1 e
  · intro L hL p hp
    obtain ⟨L0, l1, rfl⟩ := List.mem_map.mp hL
    obtain ⟨q, q1, rfl⟩ := List.mem_map.mp hp
    have nL := L_nd hF.1 l1
    have qF : q ∈ A.flatten := List.mem_flatten.mpr ⟨L0, l1, q1⟩
    have sF : sc L0 q ∈ A.flatten := List.mem_flatten.mpr ⟨L0, l1, sc_in q1 nL⟩
    rw [sc_map nL (fun a b ha hb e => ?_) q1, gl_flp (lt2 q qF), gl_flp (lt2 _ sF), ← (h.2 L0 l1 q q1).1]
    · show (np_swap T.2.2.1 (2 * x) (2 * x + 1)).1 (np_sw (gl f q) (2 * x) (2 * x + 1)) = _
      rw [np_swap_1 (D := fun k => k < 2 * T.1) (vD_vn.mpr hv) (by omega) (by omega) (np_sw_D (D := fun k => k < 2 * T.1) (by omega) (by omega) (gl_lt h qF)), np_sw_i]
    · have aF : a ∈ A.flatten := List.mem_flatten.mpr ⟨L0, l1, ha⟩
      have bF : b ∈ A.flatten := List.mem_flatten.mpr ⟨L0, l1, hb⟩
      have := congrArg (gl f) e
      rw [gl_flp (lt2 a aF), gl_flp (lt2 b bF)] at this
      exact gl_gin h.1 a b aF bF (by rw [← np_sw_i (2 * x) (2 * x + 1) (gl f a), this, np_sw_i])
  · intro p hp
    rw [fl_map2] at hp
    obtain ⟨q, q1, rfl⟩ := List.mem_map.mp hp
    rw [flp_1]
    have hs := h.1.2.2.2.2.2.2.1 q q1
    show su T.2.2.2 x (-T.2.2.2 x) (f q.1) < 0 ↔ (if f q.1 = x then !sg q.1 else sg q.1) = true
    by_cases e : f q.1 = x
    · rw [show su T.2.2.2 x (-T.2.2.2 x) (f q.1) = -T.2.2.2 x from if_pos e, if_pos e]
      rw [e] at hs
      rcases hT x hx with h9 | h9
      · rw [h9] at hs ⊢
        cases hq : sg q.1 with
        | true => exact absurd (hs.mpr hq) (by decide)
        | false => exact ⟨fun _ => rfl, fun _ => by decide⟩
      · rw [h9] at hs ⊢
        rw [hs.mp (by decide)]
        exact ⟨fun h8 => absurd h8 (by decide), fun h8 => absurd h8 (by decide)⟩
    · rw [show su T.2.2.2 x (-T.2.2.2 x) (f q.1) = T.2.2.2 (f q.1) from if_neg e, if_neg e]
      exact hs
  · rw [cirs_map]
    exact h.1.2.2.2.2.2.2.2
end FLP
/-! components turned round -/
section TRN
variable {A : rn_L} {sg : Nat → Bool} {f : Nat → Nat} {T : ow_NT} {t : Nat → Bool}
theorem turn_G {S : ow_NP} {G : Nat → Int32} : ∀ n x, (np_turn t S G n).2 x = if ((decide (2 * x < n) && t (2 * x)) != (decide (2 * x + 1 < n) && t (2 * x + 1))) = true then -G x else G x
  | 0, x => by
    rw [decide_eq_false (Nat.not_lt_zero _), decide_eq_false (Nat.not_lt_zero _)]
    rfl
  | n + 1, x => by
    have ih := turn_G (S := S) (G := G) n x
    rw [np_turn]
    by_cases e : t n = true
    · rw [if_pos e]
      show su (np_turn t S G n).2 (n / 2) (-((np_turn t S G n).2 (n / 2))) x = _
      by_cases ex : x = n / 2
      · rw [show su (np_turn t S G n).2 (n / 2) (-((np_turn t S G n).2 (n / 2))) x = -((np_turn t S G n).2 (n / 2)) from if_pos ex, ← ex, ih]
        by_cases e0 : n = 2 * x
        · rw [decide_eq_false (show ¬ 2 * x < n by omega), decide_eq_false (show ¬ 2 * x + 1 < n by omega), decide_eq_true (show 2 * x < n + 1 by omega), decide_eq_false (show ¬ 2 * x + 1 < n + 1 by omega), ← e0, e]
          rfl
        · have e1 : n = 2 * x + 1 := by omega
          rw [decide_eq_true (show 2 * x < n by omega), decide_eq_false (show ¬ 2 * x + 1 < n by omega), decide_eq_true (show 2 * x < n + 1 by omega), decide_eq_true (show 2 * x + 1 < n + 1 by omega), ← e1, e]
          cases t (2 * x)
          · rfl
          · show - - G x = G x
            exact Int32.neg_neg
      · rw [show su (np_turn t S G n).2 (n / 2) (-((np_turn t S G n).2 (n / 2))) x = (np_turn t S G n).2 x from if_neg ex, ih]
        have k1 : decide (2 * x < n + 1) = decide (2 * x < n) := decide_eq_decide.mpr (by omega)
        have k2 : decide (2 * x + 1 < n + 1) = decide (2 * x + 1 < n) := decide_eq_decide.mpr (by omega)
        rw [k1, k2]
    · rw [if_neg e, ih]
      have e : t n = false := by cases h : t n with
        | true => exact absurd h e
        | false => rfl
      by_cases e0 : n = 2 * x
      · rw [decide_eq_false (show ¬ 2 * x < n by omega), decide_eq_false (show ¬ 2 * x + 1 < n by omega), decide_eq_true (show 2 * x < n + 1 by omega), decide_eq_false (show ¬ 2 * x + 1 < n + 1 by omega), ← e0, e]
        rfl
      · by_cases e1 : n = 2 * x + 1
        · rw [decide_eq_true (show 2 * x < n by omega), decide_eq_false (show ¬ 2 * x + 1 < n by omega), decide_eq_true (show 2 * x < n + 1 by omega), decide_eq_true (show 2 * x + 1 < n + 1 by omega), ← e1, e]
          rfl
        · have k1 : decide (2 * x < n + 1) = decide (2 * x < n) := decide_eq_decide.mpr (by omega)
          have k2 : decide (2 * x + 1 < n + 1) = decide (2 * x + 1 < n) := decide_eq_decide.mpr (by omega)
          rw [k1, k2]
def ntT (T : ow_NT) (t : Nat → Bool) : ow_NT := (T.1, T.2.1, (np_turn t T.2.2.1 T.2.2.2 (2 * T.1)).1, (np_turn t T.2.2.1 T.2.2.2 (2 * T.1)).2)
theorem ntT_1 {k : Nat} (hk : k < 2 * T.1) : (ntT T t).2.2.1.1 k = (if t k = true then T.2.2.1.2 k else T.2.2.1.1 k) ∧ (ntT T t).2.2.1.2 k = if t k = true then T.2.2.1.1 k else T.2.2.1.2 k := by
  have := turn_eq (t := t) (S := T.2.2.1) (G := T.2.2.2) (2 * T.1) k
  show (np_turn t T.2.2.1 T.2.2.2 (2 * T.1)).1.1 k = _ ∧ (np_turn t T.2.2.1 T.2.2.2 (2 * T.1)).1.2 k = _
  rw [this.1, this.2]
  by_cases e : t k = true
  · have h9 : k < 2 * T.1 ∧ t k = true := ⟨hk, e⟩
    constructor
    · rw [if_pos h9, if_pos e]
    · rw [if_pos h9, if_pos e]
  · have h9 : ¬ (k < 2 * T.1 ∧ t k = true) := fun h => e h.2
    constructor
    · rw [if_neg h9, if_neg e]
    · rw [if_neg h9, if_neg e]
theorem ntT_G {x : Nat} (hx : x < T.1) : (ntT T t).2.2.2 x = if (t (2 * x) != t (2 * x + 1)) = true then -T.2.2.2 x else T.2.2.2 x := by
  have := turn_G (t := t) (S := T.2.2.1) (G := T.2.2.2) (2 * T.1) x
  rw [decide_eq_true (show 2 * x < 2 * T.1 by omega), decide_eq_true (show 2 * x + 1 < 2 * T.1 by omega), Bool.true_and, Bool.true_and] at this
  exact this
theorem pm1_T (hT : pm1 T) : pm1 (ntT T t) := by
  intro x hx
  have hx : x < T.1 := hx
  rw [ntT_G (T := T) hx]
  split
  · rcases hT x hx with h | h <;> rw [h]
    · exact Or.inr rfl
    · exact Or.inl rfl
  · exact hT x hx
theorem vn_T (hv : vn T.1 T.2.2.1) (ht : ∀ k, k < 2 * T.1 → t (T.2.2.1.1 k) = t k) : vn T.1 (ntT T t).2.2.1 := by
  have ht2 : ∀ k, k < 2 * T.1 → t (T.2.2.1.2 k) = t k := fun k hk => by
    have := ht _ (hv k hk).2.1
    rw [(hv k hk).2.2.2] at this
    exact this.symm
  intro k hk
  obtain ⟨h1, h2, h3, h4⟩ := hv k hk
  rw [(ntT_1 hk).1, (ntT_1 hk).2]
  by_cases e : t k = true
  · rw [if_pos e, if_pos e]
    refine ⟨h2, h1, ?_, ?_⟩
    · rw [(ntT_1 h2).2, if_pos (by rw [ht2 k hk]; exact e), h4]
    · rw [(ntT_1 h1).1, if_pos (by rw [ht k hk]; exact e), h3]
  · rw [if_neg e, if_neg e]
    refine ⟨h1, h2, ?_, ?_⟩
    · rw [(ntT_1 h1).2, if_neg (by rw [ht k hk]; exact e), h3]
    · rw [(ntT_1 h2).1, if_neg (by rw [ht2 k hk]; exact e), h4]
def dT (t : Nat → Bool) (d : Nat) : Nat := if t (d / 2) = true then 2 * (d / 2) + (1 - d % 2) else d
theorem dT_h (d : Nat) : dT t d / 2 = d / 2 := by
  unfold dT
  split <;> omega
theorem dT_dT (d : Nat) : dT t (dT t d) = d := by
  have h := dT_h (t := t) d
  unfold dT at h ⊢
  by_cases e : t (d / 2) = true
  · rw [if_pos e] at h ⊢
    rw [h, if_pos e]
    omega
  · rw [if_neg e, if_neg e]
theorem dT_0 (v : Nat) : dT t (2 * v) = if t v = true then 2 * v + 1 else 2 * v := by
  unfold dT
  rw [show 2 * v / 2 = v by omega]
  split <;> omega
theorem dT_1 (v : Nat) : dT t (2 * v + 1) = if t v = true then 2 * v else 2 * v + 1 := by
  unfold dT
  rw [show (2 * v + 1) / 2 = v by omega]
  split <;> omega
theorem dT_al (hv : vn T.1 T.2.2.1) (ht : ∀ k, k < 2 * T.1 → t (T.2.2.1.1 k) = t k) {d : Nat} (hd : d < 4 * T.1) : dT t (pn_al (ntT T t).2.2.1 d) = pn_al T.2.2.1 (dT t d) := by
  have ht2 : ∀ k, k < 2 * T.1 → t (T.2.2.1.2 k) = t k := fun k hk => by
    have := ht _ (hv k hk).2.1
    rw [(hv k hk).2.2.2] at this
    exact this.symm
  obtain ⟨v, hvl, e⟩ : ∃ v, v < 2 * T.1 ∧ (d = 2 * v ∨ d = 2 * v + 1) := ⟨d / 2, by omega, by omega⟩
  rcases e with rfl | rfl
  · rw [pn_al0, dT_1, (ntT_1 hvl).1, dT_0]
    by_cases e : t v = true
    · rw [if_pos e, if_pos e, if_pos (by rw [ht2 v hvl]; exact e), pn_al1]
    · rw [if_neg e, if_neg e, if_neg (by rw [ht v hvl]; exact e), pn_al0]
  · rw [pn_al1, dT_0, (ntT_1 hvl).2, dT_1]
    by_cases e : t v = true
    · rw [if_pos e, if_pos e, if_pos (by rw [ht v hvl]; exact e), pn_al0]
    · rw [if_neg e, if_neg e, if_neg (by rw [ht2 v hvl]; exact e), pn_al1]
theorem stG_T (hT : pm1 T) {v : Nat} (hv : v < 2 * T.1) : stG (ntT T t).2.2.2 v = if (t v != t (mt v)) = true then !stG T.2.2.2 v else stG T.2.2.2 v := by
  unfold stG
  rw [ntT_G (show v / 2 < T.1 by omega)]
  have e : (t (2 * (v / 2)) != t (2 * (v / 2) + 1)) = (t v != t (mt v)) := by
    unfold mt
    by_cases e : v % 2 = 0
    · rw [if_pos e, show 2 * (v / 2) = v by omega]
    · rw [if_neg e, show 2 * (v / 2) + 1 = v by omega, show 2 * (v / 2) = v - 1 by omega]
      cases t v <;> cases t (v - 1) <;> rfl
  rw [e]
  cases (t v != t (mt v)) with
  | false => rfl
  | true =>
    rw [if_pos rfl, if_pos rfl]
    rcases hT (v / 2) (by omega) with h | h <;> rw [h] <;> cases decide (v % 2 = 0) <;> rfl
theorem dT_rt (hT : pm1 T) {d : Nat} (hd : d < 4 * T.1) : dT t (pn_rt (stG (ntT T t).2.2.2) d) = pn_rt (stG T.2.2.2) (dT t d) := by
  obtain ⟨v, hvl, e⟩ : ∃ v, v < 2 * T.1 ∧ (d = 2 * v ∨ d = 2 * v + 1) := ⟨d / 2, by omega, by omega⟩
  have hs := stG_T (t := t) hT hvl
  rcases e with rfl | rfl
  · rw [pn_at0, dT_0, hs]
    cases h1 : t v <;> cases h2 : t (mt v) <;> cases h3 : stG T.2.2.2 v <;> simp [pn_at0, pn_at1, dT_0, dT_1, h1, h2, h3]
  · rw [pn_at1, dT_1, hs]
    cases h1 : t v <;> cases h2 : t (mt v) <;> cases h3 : stG T.2.2.2 v <;> simp [pn_at0, pn_at1, dT_0, dT_1, h1, h2, h3]
theorem pl_turn (hv : vn T.1 T.2.2.1) (hc : T.1 ≤ 12) (hT : pm1 T) (ht : ∀ k, k < 2 * T.1 → t (T.2.2.1.1 k) = t k) (hp : nt_plane T = true) : nt_plane (ntT T t) = true := by
  have hv' := vn_T hv ht
  rw [plane_iff (T := ntT T t) hv' hc]
  obtain ⟨R, hR, g, X, f1, f2, f3, f4⟩ := (plane_iff hv hc).mp hp
  have dl : ∀ d, d < 4 * T.1 → dT t d < 4 * T.1 := fun d hd => by
    have := dT_h (t := t) d
    omega
  refine ⟨R, fun v hvl => ?_, fun d => g (dT t d), X.map (dT t), fun d hd => ?_, fun x hx => ?_, ?_, ?_⟩
  · obtain ⟨r, r1, r2, r3⟩ := hR v hvl
    refine ⟨r, r1, r2, r3 (fun v => rch T.1 (ntT T t).2.2.1 r v) (rch_rf _ _ _) (fun j hj hp9 => ?_) (fun j hj hp9 => rch_m hp9 hj)⟩
    by_cases e : t j = true
    · -- the one before in the turned net
      have h1 := (hv j hj).1
      have h3 := (hv j hj).2.2.1
      have : (ntT T t).2.2.1.1 (T.2.2.1.1 j) = j := by
        rw [(ntT_1 h1).1, if_pos (by rw [ht j hj]; exact e), h3]
      have h5 := rch_n (rch_rf T.1 (ntT T t).2.2.1 (T.2.2.1.1 j)) h1
      rw [this] at h5
      exact rch_tr hp9 (rch_sy hv' h1 h5)
    · have := rch_n hp9 hj
      rw [(ntT_1 hj).1, if_neg e] at this
      exact this
  · show g (dT t (pn_rt (stG (ntT T t).2.2.2) (pn_al (ntT T t).2.2.1 d))) = g (dT t d)
    rw [dT_rt hT (pn_al_lt hv' hd), dT_al hv ht hd]
    exact f1 _ (dl d hd)
  · obtain ⟨q, q1, q2⟩ := List.mem_map.mp hx
    rw [← q2]
    exact dl q (f2 q q1)
  · unfold pm_dv
    rw [List.map_map]
    have : X.map ((fun d => g (dT t d)) ∘ dT t) = X.map g := List.map_congr_left (fun q _ => by
      show g (dT t (dT t q)) = g q
      rw [dT_dT])
    rw [this]
    exact f3
  · rw [List.length_map]
    exact f4
end TRN
end
section
/-! 99zzzzzzzzr.prm -/
/-! crossings taken out of plane nets -/
def skx (N : Nat → Nat) (x w : Nat) : Nat := if w = 2 * x then (if N (2 * x) = 2 * x + 1 then N (2 * x + 1) else N (2 * x)) else if w = 2 * x + 1 then (if N (2 * x + 1) = 2 * x then N (2 * x) else N (2 * x + 1)) else w
def rnx (c x v : Nat) : Nat := if v / 2 = c - 1 then 2 * x + v % 2 else v
theorem gl_id (p : vT) : gl (fun x => x) p = 2 * p.1 + p.2 := rfl
section PRM
variable {T : ow_NT} {x : Nat}
theorem sc_wox {A : rn_L} {L : List vT} (hn : L.Nodup) {p : vT} (hp : p ∈ L) (h0 : p ≠ (x, 0)) (h1 : p ≠ (x, 1)) (hF : (x, 0) ∈ L ∨ (x, 1) ∈ L ∨ True) : sc ((L.filter (fun q => decide (q ≠ (x, 0)))).filter (fun q => decide (q ≠ (x, 1)))) p = (let s := sc L p
    if s = (x, 0) then (if sc L (x, 0) = (x, 1) then sc L (x, 1) else sc L (x, 0)) else if s = (x, 1) then (if sc L (x, 1) = (x, 0) then sc L (x, 0) else sc L (x, 1)) else s) := by
  have m1 : p ∈ L.filter (fun q => decide (q ≠ (x, 0))) := List.mem_filter.mpr ⟨hp, decide_eq_true h0⟩
  have n1 : (L.filter (fun q => decide (q ≠ (x, 0)))).Nodup := hn.filter _
  have hne : (x, 1) ≠ ((x, 0) : vT) := fun e => by cases e
  have e1 := sc_fil (r := (x, 0)) hn hp h0
  rw [sc_fil (r := (x, 1)) n1 m1 h1, e1]
  dsimp only
  have in0 : ∀ {q : vT}, q ∈ L → sc L q = (x, 1) → (x, 1) ∈ L := fun hq e => by rw [← e]; exact sc_in hq hn
  by_cases c0 : sc L p = (x, 0)
  · rw [if_pos c0, if_pos c0]
    have h00 : (x, 0) ∈ L := by rw [← c0]; exact sc_in hp hn
    by_cases c1 : sc L (x, 0) = (x, 1)
    · rw [if_pos c1, if_pos c1]
      have h11 : (x, 1) ∈ L := in0 h00 c1
      rw [sc_fil (r := (x, 0)) hn h11 hne]
      by_cases c2 : sc L (x, 1) = (x, 0)
      · -- then p could not come here
        exfalso
        exact h1 (sc_inj hn hp h11 (c0.trans c2.symm))
      · rw [if_neg c2]
    · rw [if_neg c1, if_neg c1]
  · rw [if_neg c0, if_neg c0]
    by_cases c1 : sc L p = (x, 1)
    · rw [if_pos c1, if_pos c1]
      have h11 : (x, 1) ∈ L := in0 hp c1
      rw [sc_fil (r := (x, 0)) hn h11 hne]
    · rw [if_neg c1, if_neg c1]
/-- what comes behind a visit when a crossing has gone -/
theorem rm_next (hv : vn T.1 T.2.2.1) (hc : T.1 ≤ 12) (hx : x < T.1) {v : Nat} (hvl : v < 2 * T.1) (hne : v / 2 ≠ x) : (nt_rm T x).2.2.1.1 (rnx T.1 x v) = rnx T.1 x (skx T.2.2.1.1 x (T.2.2.1.1 v)) := by
  obtain ⟨rl, hrl⟩ := rlK_ex hv
  obtain ⟨hi, -⟩ := netL_iso hrl hv hc
  generalize netL rl T = A at hi
  have hV := isoV_of hi hv
  have lt2 : ∀ p, p ∈ A.flatten → p.2 < 2 := fun p hp => (hV.1.1.2 p hp).2.1
  obtain ⟨q0, q1, q2⟩ := gl_sur hV (show 2 * x < 2 * T.1 by omega)
  have hq2 := lt2 q0 q1
  have eq0 : q0 = (x, 0) := by
    rw [gl_id] at q2
    exact Prod.ext (show q0.1 = x by omega) (show q0.2 = 0 by omega)
  rw [eq0] at q1
  obtain ⟨f', hf', ef⟩ := iso_rm hV q1
  have rg : ∀ p : vT, p.2 < 2 → gl f' p = rnx T.1 x (gl (fun x => x) p) := fun p hp => by
    rw [gl_id]
    unfold gl rnx
    rw [ef p.1]
    by_cases e : p.1 = T.1 - 1
    · rw [if_pos e, if_pos (by omega)]
      omega
    · rw [if_neg e, if_neg (by omega)]
  obtain ⟨p, p1, p2⟩ := gl_sur hV hvl
  have hp2 := lt2 p p1
  have hpx : p.1 ≠ x := fun e => hne (by rw [← p2, gl_id]; omega)
  obtain ⟨L, l1, l2⟩ := List.mem_flatten.mp p1
  have nL := L_nd hV.1.1.1 l1
  have hp0 : p ≠ (x, 0) := fun e => hpx (by rw [e])
  have hp1 : p ≠ (x, 1) := fun e => hpx (by rw [e])
  have l3 : (L.filter (fun q => decide (q ≠ (x, 0)))).filter (fun q => decide (q ≠ (x, 1))) ∈ wox A x := List.mem_map.mpr ⟨_, List.mem_map.mpr ⟨L, l1, rfl⟩, rfl⟩
  have l4 : p ∈ (L.filter (fun q => decide (q ≠ (x, 0)))).filter (fun q => decide (q ≠ (x, 1))) := List.mem_filter.mpr ⟨List.mem_filter.mpr ⟨l2, decide_eq_true hp0⟩, decide_eq_true hp1⟩
  have key := (hf'.2 _ l3 p l4).1
  have hsF : ∀ r, r ∈ L → r ∈ A.flatten := fun r hr => List.mem_flatten.mpr ⟨L, l1, hr⟩
  have nxt : ∀ r, r ∈ L → T.2.2.1.1 (gl (fun x => x) r) = gl (fun x => x) (sc L r) := fun r hr => (hV.2 L l1 r hr).1
  have ginj : ∀ r s, r ∈ A.flatten → s ∈ A.flatten → gl (fun x => x) r = gl (fun x => x) s → r = s := fun r s hr hs e => gl_gin hV.1 r s hr hs e
  have hx1 : (x, 1) ∈ A.flatten := (hV.1.1.2 _ q1).2.2
  rw [rg p hp2, sc_wox (A := A) nL l2 hp0 hp1 (Or.inr (Or.inr trivial))] at key
  have key : (nt_rm T x).2.2.1.1 (rnx T.1 x (gl (fun x => x) p)) = gl f' (let s := sc L p
    if s = (x, 0) then (if sc L (x, 0) = (x, 1) then sc L (x, 1) else sc L (x, 0)) else if s = (x, 1) then (if sc L (x, 1) = (x, 0) then sc L (x, 0) else sc L (x, 1)) else s) := key
  rw [p2] at key
  rw [key]
  have en : T.2.2.1.1 v = gl (fun x => x) (sc L p) := by rw [← p2]; exact nxt p l2
  have hsL := sc_in l2 nL
  dsimp only
  rw [en]
  unfold skx
  by_cases c0 : sc L p = (x, 0)
  · have h00 : (x, 0) ∈ L := by rw [← c0]; exact hsL
    have e0 := nxt _ h00
    have s00 := sc_in h00 nL
    rw [if_pos c0, c0, if_pos (show gl (fun x => x) (x, 0) = 2 * x from rfl)]
    have e0 : T.2.2.1.1 (2 * x) = gl (fun x => x) (sc L (x, 0)) := e0
    by_cases c1 : sc L (x, 0) = (x, 1)
    · have h11 : (x, 1) ∈ L := by rw [← c1]; exact s00
      have e1 : T.2.2.1.1 (2 * x + 1) = gl (fun x => x) (sc L (x, 1)) := nxt _ h11
      rw [if_pos c1, if_pos (by rw [e0, c1]; rfl), e1]
      exact rg _ (lt2 _ (hsF _ (sc_in h11 nL)))
    · rw [if_neg c1, if_neg (fun h9 => c1 (ginj _ _ (hsF _ s00) hx1 (by rw [← e0, h9]; rfl))), e0]
      exact rg _ (lt2 _ (hsF _ s00))
  · have n0 : ¬ gl (fun x => x) (sc L p) = 2 * x := fun h9 => c0 (ginj _ _ (hsF _ hsL) q1 (by rw [h9]; rfl))
    rw [if_neg c0, if_neg n0]
    by_cases c1 : sc L p = (x, 1)
    · have h11 : (x, 1) ∈ L := by rw [← c1]; exact hsL
      have e1 : T.2.2.1.1 (2 * x + 1) = gl (fun x => x) (sc L (x, 1)) := nxt _ h11
      have s11 := sc_in h11 nL
      rw [if_pos c1, c1, if_pos (show gl (fun x => x) (x, 1) = 2 * x + 1 from rfl)]
      by_cases c2 : sc L (x, 1) = (x, 0)
      · have h00 : (x, 0) ∈ L := by rw [← c2]; exact s11
        have e0 : T.2.2.1.1 (2 * x) = gl (fun x => x) (sc L (x, 0)) := nxt _ h00
        rw [if_pos c2, if_pos (by rw [e1, c2]; rfl), e0]
        exact rg _ (lt2 _ (hsF _ (sc_in h00 nL)))
      · rw [if_neg c2, if_neg (fun h9 => c2 (ginj _ _ (hsF _ s11) q1 (by rw [← e1, h9]; rfl))), e1]
        exact rg _ (lt2 _ (hsF _ s11))
    · have n1 : ¬ gl (fun x => x) (sc L p) = 2 * x + 1 := fun h9 => c1 (ginj _ _ (hsF _ hsL) hx1 (by rw [h9]; rfl))
      rw [if_neg c1, if_neg n1]
      exact rg _ (lt2 _ (hsF _ hsL))
theorem vn_rmT (hv : vn T.1 T.2.2.1) (hx : x < T.1) : vn (nt_rm T x).1 (nt_rm T x).2.2.1 := by
  obtain ⟨c, hc⟩ : ∃ c, T.1 = c + 1 := ⟨T.1 - 1, by omega⟩
  show vn (T.1 - 1) (np_rmS T.2.2.1 x (T.1 - 1))
  rw [hc] at hv ⊢
  exact vn_rm hv (by omega)
theorem pm1_rm (hT : pm1 T) (hx : x < T.1) : pm1 (nt_rm T x) := by
  intro k hk
  have hk : k < T.1 - 1 := hk
  show np_rmG T.2.2.2 x (T.1 - 1) k = 1 ∨ np_rmG T.2.2.2 x (T.1 - 1) k = -1
  unfold np_rmG
  split
  · exact hT k (by omega)
  · unfold su
    split
    · exact hT _ (by omega)
    · exact hT k (by omega)
/-- the visits of what is left, in the net before -/
def rnv2 (c x k : Nat) : Nat := if k / 2 = x then 2 * (c - 1) + k % 2 else k
theorem rnx_b (hx : x < T.1) {k : Nat} (hk : k < 2 * (T.1 - 1)) : rnx T.1 x (rnv2 T.1 x k) = k ∧ rnv2 T.1 x k < 2 * T.1 ∧ rnv2 T.1 x k / 2 ≠ x := by
  unfold rnx rnv2
  by_cases e : k / 2 = x
  · rw [if_pos e, if_pos (by omega)]
    omega
  · rw [if_neg e, if_neg (by omega)]
    omega
theorem rnx_f (hx : x < T.1) {v : Nat} (hv : v < 2 * T.1) (hne : v / 2 ≠ x) : rnv2 T.1 x (rnx T.1 x v) = v ∧ rnx T.1 x v < 2 * (T.1 - 1) := by
  unfold rnx rnv2
  by_cases e : v / 2 = T.1 - 1
  · rw [if_pos e, if_pos (by omega)]
    omega
  · rw [if_neg e, if_neg hne]
    omega
theorem skx_ne (hv : vn T.1 T.2.2.1) (hx : x < T.1) {v : Nat} (hvl : v < 2 * T.1) (hne : v / 2 ≠ x) : skx T.2.2.1.1 x (T.2.2.1.1 v) < 2 * T.1 ∧ skx T.2.2.1.1 x (T.2.2.1.1 v) / 2 ≠ x := by
  obtain ⟨h1, h2, h3, h4⟩ := hv v hvl
  have a0 := hv (2 * x) (by omega)
  have a1 := hv (2 * x + 1) (by omega)
  have i0 : ¬ T.2.2.1.1 v = T.2.2.1.1 (2 * x) := fun e => by have := vn_inj hv hvl (by omega) e; omega
  have i1 : ¬ T.2.2.1.1 v = T.2.2.1.1 (2 * x + 1) := fun e => by have := vn_inj hv hvl (by omega) e; omega
  have i2 : ¬ T.2.2.1.1 (2 * x) = T.2.2.1.1 (2 * x + 1) := fun e => by have := vn_inj hv (by omega) (by omega) e; omega
  unfold skx
  by_cases e0 : T.2.2.1.1 v = 2 * x
  · rw [if_pos e0]
    rw [e0] at i0 i1
    by_cases e1 : T.2.2.1.1 (2 * x) = 2 * x + 1
    · rw [if_pos e1]
      rw [e1] at i2
      exact ⟨a1.1, by omega⟩
    · rw [if_neg e1]
      exact ⟨a0.1, by omega⟩
  · rw [if_neg e0]
    by_cases e1 : T.2.2.1.1 v = 2 * x + 1
    · rw [if_pos e1]
      rw [e1] at i0 i1
      by_cases e2 : T.2.2.1.1 (2 * x + 1) = 2 * x
      · rw [if_pos e2]
        rw [e2] at i2
        exact ⟨a0.1, by omega⟩
      · rw [if_neg e2]
        exact ⟨a1.1, by omega⟩
    · rw [if_neg e1]
      exact ⟨h1, by omega⟩
/-- a net that shows what is left, and the crossing apart, is plane: what is left is plane -/
theorem pl_rm (hv : vn T.1 T.2.2.1) (hc : T.1 ≤ 12) (hx : x < T.1) {S2 : ow_NP} (hv2 : vn T.1 S2) (h2 : ∀ v, v < 2 * T.1 → v / 2 ≠ x → S2.1 v = skx T.2.2.1.1 x (T.2.2.1.1 v)) (hp : pn_pl T.1 S2 (stG T.2.2.2)) : nt_plane (nt_rm T x) = true := by
  have hc1 : (nt_rm T x).1 ≤ 12 := by show T.1 - 1 ≤ 12; omega
  rw [plane_iff (vn_rmT hv hx) hc1]
  refine sub_pl (ψ := rnv2 T.1 x) hv2 stG_fl (vn_rmT hv hx) (fun k hk => ?_) (fun u v hu hv9 e => ?_) hp
  · have hk : k < 2 * (T.1 - 1) := hk
    obtain ⟨b1, b2, b3⟩ := rnx_b hx hk
    obtain ⟨s1, s2⟩ := skx_ne hv hx b2 b3
    refine ⟨b2, ?_, ?_, ?_⟩
    · rw [h2 _ b2 b3]
      have := rm_next hv hc hx b2 b3
      rw [b1] at this
      rw [this, (rnx_f hx s1 s2).1]
    · unfold rnv2
      rw [mt_h2]
      by_cases e : k / 2 = x
      · rw [if_pos e, if_pos e]
        unfold mt
        split <;> split <;> omega
      · rw [if_neg e, if_neg e]
    · have hg : (nt_rm T x).2.2.2 (k / 2) = T.2.2.2 (rnv2 T.1 x k / 2) := by
        show np_rmG T.2.2.2 x (T.1 - 1) (k / 2) = _
        unfold np_rmG rnv2
        by_cases e : k / 2 = x
        · rw [if_pos e]
          by_cases ex : x = T.1 - 1
          · omega
          · rw [if_neg ex, show (2 * (T.1 - 1) + k % 2) / 2 = T.1 - 1 by omega]
            exact if_pos e
        · rw [if_neg e]
          by_cases ex : x = T.1 - 1
          · rw [if_pos ex]
          · rw [if_neg ex]
            exact if_neg e
      unfold stG
      rw [hg]
      have : rnv2 T.1 x k % 2 = k % 2 := by
        unfold rnv2
        split <;> omega
      rw [this]
  · have h1 := (rnx_b hx hu).1
    have h3 := (rnx_b hx hv9).1
    rw [← h1, e, h3]
end PRM
end
section
/-! 99zzzzzzzzs.psm -/
/-! a kink taken out, a crossing smoothed: plane nets stay plane -/
section PSM
variable {c : Nat} {S : ow_NP} {b : Nat → Bool} {u o : Nat}
/-- the strand before u and what is behind o are tied: u and o lie apart; c1 comes before u, u before o -/
theorem iso_ring (hv : vn c S) (hu : u < 2 * c) (ho : o < 2 * c) (hm : mt u = o) (hn : S.1 u = o) (hne : S.2 u ≠ o) : ¬ rch c (np_exchange S (S.2 u) o) (S.2 u) o := by
  obtain ⟨-, c1, -, c4⟩ := hv u hu
  have hv' := vn_exchange hv c1 ho
  have huo : u ≠ o := fun e => by
    unfold mt at hm
    split at hm <;> omega
  have hcu : S.2 u ≠ u := fun e => by
    rw [e] at c4
    exact huo (c4.symm.trans hn)
  have eo : (np_exchange S (S.2 u) o).1 o = u := by rw [np_exchange_1, if_pos rfl, c4]
  have eu : (np_exchange S (S.2 u) o).1 u = o := by rw [np_exchange_1, if_neg huo, if_neg (fun e => hcu e.symm), hn]
  have hm2 : mt o = u := by rw [← hm, mt_mt]
  intro h
  have h2 := rch_sy hv' c1 h
  have := h2 (fun k => k = o ∨ k = u) (Or.inl rfl) (fun j _ hj => by
    rcases hj with rfl | rfl
    · exact Or.inr eo
    · exact Or.inl eu) (fun j _ hj => by
    rcases hj with rfl | rfl
    · exact Or.inr hm2
    · exact Or.inl hm)
  rcases this with e | e
  · exact hne e
  · exact hcu e
/-- a kink u, o laid apart -/
def knS (S : ow_NP) (u o : Nat) : ow_NP := if S.2 u = o then S else np_exchange S (S.2 u) o
theorem knS_ok (hv : vn c S) (hb : pn_fl b) (hp : pn_pl c S b) (hu : u < 2 * c) (ho : o < 2 * c) (hm : mt u = o) (hn : S.1 u = o) : vn c (knS S u o) ∧ pn_pl c (knS S u o) b ∧ ∀ k, k < 2 * c → k ≠ u → k ≠ o → (knS S u o).1 k = if S.1 k = u then S.1 o else S.1 k := by
  obtain ⟨-, c1, -, c4⟩ := hv u hu
  have huo : u ≠ o := fun e => by
    unfold mt at hm
    split at hm <;> omega
  unfold knS
  by_cases e : S.2 u = o
  · rw [if_pos e]
    refine ⟨hv, hp, fun k hk k1 k2 => ?_⟩
    rw [if_neg (fun h9 => k2 ?_)]
    rw [← e, ← h9, (hv k hk).2.2.1]
  · rw [if_neg e]
    have hnr := iso_ring hv hu ho hm hn e
    refine ⟨vn_exchange hv c1 ho, pn_exch hv hb hp c1 ho e ?_, fun k hk k1 k2 => ?_⟩
    · exact Or.inr (Or.inl (ex_bridge hv hb hp c1 ho hnr).1)
    · rw [np_exchange_1, if_neg k2]
      by_cases h9 : S.1 k = u
      · have : k = S.2 u := by rw [← h9, (hv k hk).2.2.1]
        rw [if_pos this, if_pos h9]
      · rw [if_neg (fun h8 => h9 (by rw [h8, c4])), if_neg h9]
end PSM
section PS2
variable {T : ow_NT} {x : Nat}
/-- a crossing whose visits stand one behind the other goes -/
theorem pl_kink (hv : vn T.1 T.2.2.1) (hc : T.1 ≤ 12) (hx : x < T.1) (hk : T.2.2.1.1 (2 * x) = 2 * x + 1 ∨ T.2.2.1.1 (2 * x + 1) = 2 * x) (hp : nt_plane T = true) : nt_plane (nt_rm T x) = true := by
  have hpl := (plane_iff hv hc).mp hp
  have l0 : 2 * x < 2 * T.1 := by omega
  have l1 : 2 * x + 1 < 2 * T.1 := by omega
  rcases hk with hk | hk
  · obtain ⟨k1, k2, k3⟩ := knS_ok hv stG_fl hpl l0 l1 (mt_ev x) hk
    refine pl_rm hv hc hx k1 (fun v hvl hne => ?_) k2
    rw [k3 v hvl (by omega) (by omega)]
    unfold skx
    by_cases e : T.2.2.1.1 v = 2 * x
    · rw [if_pos e, if_pos e, if_pos hk]
    · have e2 : T.2.2.1.1 v ≠ 2 * x + 1 := fun e9 => hne (by have := vn_inj hv hvl l0 (e9.trans hk.symm); omega)
      rw [if_neg e, if_neg e, if_neg e2]
  · obtain ⟨k1, k2, k3⟩ := knS_ok hv stG_fl hpl l1 l0 (mt_od x) hk
    refine pl_rm hv hc hx k1 (fun v hvl hne => ?_) k2
    rw [k3 v hvl (by omega) (by omega)]
    unfold skx
    have e2 : T.2.2.1.1 v ≠ 2 * x := fun e9 => hne (by have := vn_inj hv hvl l1 (e9.trans hk.symm); omega)
    by_cases e : T.2.2.1.1 v = 2 * x + 1
    · rw [if_pos e, if_neg e2, if_pos e, if_pos hk]
    · rw [if_neg e, if_neg e2, if_neg e]
/-- a crossing smoothed -/
def ntSm (T : ow_NT) (x : Nat) : ow_NT := nt_rm (T.1, T.2.1, np_exchange T.2.2.1 (2 * x) (2 * x + 1), T.2.2.2) x
theorem pl_smooth (hv : vn T.1 T.2.2.1) (hc : T.1 ≤ 12) (hx : x < T.1) (hp : nt_plane T = true) : nt_plane (ntSm T x) = true := by
  have hpl := (plane_iff hv hc).mp hp
  have l0 : 2 * x < 2 * T.1 := by omega
  have l1 : 2 * x + 1 < 2 * T.1 := by omega
  have hvE := vn_exchange hv l0 l1
  have i2 : ¬ T.2.2.1.1 (2 * x) = T.2.2.1.1 (2 * x + 1) := fun e => by have := vn_inj hv l0 l1 e; omega
  -- what the smoothed net has behind a visit
  have want : ∀ v, v < 2 * T.1 → v / 2 ≠ x → skx (np_exchange T.2.2.1 (2 * x) (2 * x + 1)).1 x ((np_exchange T.2.2.1 (2 * x) (2 * x + 1)).1 v) = if T.2.2.1.1 v = 2 * x then (if T.2.2.1.1 (2 * x + 1) = 2 * x + 1 then T.2.2.1.1 (2 * x) else T.2.2.1.1 (2 * x + 1)) else if T.2.2.1.1 v = 2 * x + 1 then (if T.2.2.1.1 (2 * x) = 2 * x then T.2.2.1.1 (2 * x + 1) else T.2.2.1.1 (2 * x)) else T.2.2.1.1 v := by
    intro v hvl hne
    have e0 : (np_exchange T.2.2.1 (2 * x) (2 * x + 1)).1 (2 * x) = T.2.2.1.1 (2 * x + 1) := by rw [np_exchange_1, if_neg (by omega), if_pos rfl]
    have e1 : (np_exchange T.2.2.1 (2 * x) (2 * x + 1)).1 (2 * x + 1) = T.2.2.1.1 (2 * x) := by rw [np_exchange_1, if_pos rfl]
    have ev : (np_exchange T.2.2.1 (2 * x) (2 * x + 1)).1 v = T.2.2.1.1 v := by rw [np_exchange_1, if_neg (by omega), if_neg (by omega)]
    unfold skx
    rw [e0, e1, ev]
  obtain ⟨a1, a2, a3, a4⟩ := hv (2 * x) l0
  by_cases ha : T.2.2.1.2 (2 * x) = 2 * x + 1
  · -- the visit under comes before the one over
    have hk : T.2.2.1.1 (2 * x + 1) = 2 * x := by rw [← ha]; exact a4
    obtain ⟨k1, k2, k3⟩ := knS_ok hv stG_fl hpl l1 l0 (mt_od x) hk
    refine pl_rm (T := (T.1, T.2.1, np_exchange T.2.2.1 (2 * x) (2 * x + 1), T.2.2.2)) hvE hc hx k1 (fun v hvl hne => ?_) k2
    rw [k3 v hvl (by omega) (by omega)]
    refine Eq.trans ?_ (want v hvl hne).symm
    have e2 : T.2.2.1.1 v ≠ 2 * x := fun e9 => hne (by have := vn_inj hv hvl l1 (e9.trans hk.symm); omega)
    rw [if_neg e2]
    by_cases e : T.2.2.1.1 v = 2 * x + 1
    · rw [if_pos e, if_pos e, if_neg (fun e9 => i2 (e9.trans hk.symm))]
    · rw [if_neg e, if_neg e]
  · -- first the strand before the visit over goes on behind the visit under
    have hS1 : vn T.1 (np_exchange T.2.2.1 (T.2.2.1.2 (2 * x)) (2 * x + 1)) := vn_exchange hv a2 l1
    have f0 : pn_ph T.2.2.1 (stG T.2.2.2) (2 * T.2.2.1.2 (2 * x)) = pn_rt (stG T.2.2.2) (2 * (2 * x) + 1) := by
      unfold pn_ph
      rw [pn_al0, a4]
    have f1 : pn_ph T.2.2.1 (stG T.2.2.2) (2 * T.2.2.1.1 (2 * x + 1) + 1) = pn_rt (stG T.2.2.2) (2 * (2 * x + 1)) := by
      unfold pn_ph
      rw [pn_al1, (hv _ l1).2.2.1]
    have hp1 : pn_pl T.1 (np_exchange T.2.2.1 (T.2.2.1.2 (2 * x)) (2 * x + 1)) (stG T.2.2.2) := by
      refine pn_exch hv stG_fl hpl a2 l1 ha (Or.inr ?_)
      have hfl := stG_fl (G := T.2.2.2) (2 * x)
      rw [mt_ev] at hfl
      cases hb : stG T.2.2.2 (2 * x) with
      | true =>
        left
        refine ⟨1, ?_⟩
        show pn_ph T.2.2.1 (stG T.2.2.2) (2 * T.2.2.1.2 (2 * x)) = _
        rw [f0, pn_at1, hb, if_pos rfl, mt_ev]
      | false =>
        right
        rw [a4]
        refine or_sy (n := 4 * T.1) (fun d hd => pn_ph_lt hv hd) (fun d e hd he q => pn_ph_inj hv stG_fl hd he q) (show 2 * T.2.2.1.1 (2 * x + 1) + 1 < 4 * T.1 by have := (hv _ l1).1; omega) ⟨1, ?_⟩
        show pn_ph T.2.2.1 (stG T.2.2.2) (2 * T.2.2.1.1 (2 * x + 1) + 1) = _
        rw [f1, pn_at0, hfl, hb, mt_od]
        rfl
    have n1 : (np_exchange T.2.2.1 (T.2.2.1.2 (2 * x)) (2 * x + 1)).1 (2 * x + 1) = 2 * x := by rw [np_exchange_1, if_pos rfl, a4]
    obtain ⟨k1, k2, k3⟩ := knS_ok hS1 stG_fl hp1 l1 l0 (mt_od x) n1
    refine pl_rm (T := (T.1, T.2.1, np_exchange T.2.2.1 (2 * x) (2 * x + 1), T.2.2.2)) hvE hc hx k1 (fun v hvl hne => ?_) k2
    rw [k3 v hvl (by omega) (by omega)]
    refine Eq.trans ?_ (want v hvl hne).symm
    have hvu : v ≠ 2 * x + 1 := by omega
    have hvo : v ≠ 2 * x := by omega
    have eo : (np_exchange T.2.2.1 (T.2.2.1.2 (2 * x)) (2 * x + 1)).1 (2 * x) = if T.2.2.1.1 (2 * x) = 2 * x then T.2.2.1.1 (2 * x + 1) else T.2.2.1.1 (2 * x) := by
      rw [np_exchange_1, if_neg (by omega)]
      by_cases e : T.2.2.1.1 (2 * x) = 2 * x
      · rw [if_pos e, if_pos (by rw [← e, a3]; exact e.symm ▸ rfl)]
      · rw [if_neg e, if_neg (fun h9 => e (by rw [← h9] at a4; exact a4))]
    have evv : (np_exchange T.2.2.1 (T.2.2.1.2 (2 * x)) (2 * x + 1)).1 v = if T.2.2.1.1 v = 2 * x then T.2.2.1.1 (2 * x + 1) else T.2.2.1.1 v := by
      rw [np_exchange_1, if_neg hvu]
      by_cases e : T.2.2.1.1 v = 2 * x
      · have : v = T.2.2.1.2 (2 * x) := by rw [← e, (hv v hvl).2.2.1]
        rw [if_pos this, if_pos e]
      · rw [if_neg (fun h8 => e (by rw [h8, a4])), if_neg e]
    rw [evv, eo]
    by_cases e : T.2.2.1.1 v = 2 * x
    · rw [if_pos e, if_pos e]
      by_cases e1 : T.2.2.1.1 (2 * x + 1) = 2 * x + 1
      · rw [if_pos e1, if_pos e1, if_neg (fun e9 => hvo (vn_inj hv hvl l0 (e.trans e9.symm)))]
      · rw [if_neg e1, if_neg e1]
    · rw [if_neg e, if_neg e]
end PS2
end
section
/-! 99zzzzzzzzt.ptw -/
/-! two crossings of unlike signs go: plane nets stay plane -/
/-- the first visit behind v that is not of D -/
def pthD (N : Nat → Nat) (D : Nat → Prop) (a w : Nat) : Prop := ∀ R : Nat → Prop, R a → (∀ d, D d → R d → R (N d)) → R w
theorem pth_u {N : Nat → Nat} {D : Nat → Prop} {a w w' : Nat} (h : pthD N D a w) (h' : pthD N D a w') (hw : ¬ D w) (hw' : ¬ D w') : w' = w := by
  have step : ∀ u, D u → pthD N D u w → pthD N D (N u) w := by
    intro u hu hF R r1 r2
    have := hF (fun z => z = u ∨ pthD N D (N u) z) (Or.inl rfl) (fun z hz hR => by
      rcases hR with e | hR
      · right
        rw [e]
        exact fun R' q1 _ => q1
      · exact Or.inr (fun R' q1 q2 => q2 z hz (hR R' q1 q2)))
    rcases this with e | this
    · exact absurd (by rw [e]; exact hu) hw
    · exact this R r1 r2
  have := h' (fun u => pthD N D u w) h (fun d hd hp => step d hd hp)
  exact (this (fun z => z = w') rfl (fun d hd e => absurd (by rw [← e]; exact hd) hw')).symm
section PTW
variable {T : ow_NT} {x y : Nat}
theorem pth_skx {N : Nat → Nat} {D : Nat → Prop} {a w : Nat} (hd0 : D (2 * x)) (hd1 : D (2 * x + 1)) (h : pthD N D a w) : pthD N D a (skx N x w) := by
  intro R r1 r2
  have hw := h R r1 r2
  unfold skx
  by_cases e0 : w = 2 * x
  · rw [if_pos e0]
    rw [e0] at hw
    have h1 := r2 _ hd0 hw
    by_cases e1 : N (2 * x) = 2 * x + 1
    · rw [if_pos e1]
      rw [e1] at h1
      exact r2 _ hd1 h1
    · rw [if_neg e1]
      exact h1
  · rw [if_neg e0]
    by_cases e1 : w = 2 * x + 1
    · rw [if_pos e1]
      rw [e1] at hw
      have h1 := r2 _ hd1 hw
      by_cases e2 : N (2 * x + 1) = 2 * x
      · rw [if_pos e2]
        rw [e2] at h1
        exact r2 _ hd0 h1
      · rw [if_neg e2]
        exact h1
    · rw [if_neg e1]
      exact hw
/-- two crossings taken out: what comes behind a visit -/
theorem rm2_next (hv : vn T.1 T.2.2.1) (hc : T.1 ≤ 12) (hx : x < T.1) (hy : y < x) {v : Nat} (hvl : v < 2 * T.1) (hvx : v / 2 ≠ x) (hvy : v / 2 ≠ y) : ∃ w, w < 2 * T.1 ∧ w / 2 ≠ x ∧ w / 2 ≠ y ∧ (nt_rm (nt_rm T x) y).2.2.1.1 (rnx (T.1 - 1) y (rnx T.1 x v)) = rnx (T.1 - 1) y (rnx T.1 x w) ∧ pthD T.2.2.1.1 (fun d => d / 2 = x ∨ d / 2 = y) (T.2.2.1.1 v) w := by
  have hv1 := vn_rmT hv hx
  have hc1 : (nt_rm T x).1 ≤ 12 := by show T.1 - 1 ≤ 12; omega
  have hy1 : y < (nt_rm T x).1 := by show y < T.1 - 1; omega
  obtain ⟨s1, s2⟩ := skx_ne hv hx hvl hvx
  obtain ⟨v1, v2⟩ := rnx_f hx hvl hvx
  have ryy : ∀ u, u < 2 * T.1 → u / 2 ≠ x → (rnx T.1 x u / 2 = y ↔ u / 2 = y) := fun u hu hux => by
    unfold rnx
    split <;> omega
  have ry0 : rnx T.1 x (2 * y) = 2 * y := by unfold rnx; rw [if_neg (by omega)]
  have ry1 : rnx T.1 x (2 * y + 1) = 2 * y + 1 := by unfold rnx; rw [if_neg (by omega)]
  have n0 := rm_next hv hc hx (show 2 * y < 2 * T.1 by omega) (by omega)
  have n1 := rm_next hv hc hx (show 2 * y + 1 < 2 * T.1 by omega) (by omega)
  rw [ry0] at n0
  rw [ry1] at n1
  have nv := rm_next hv hc hx hvl hvx
  have step2 := rm_next (T := nt_rm T x) hv1 hc1 hy1 v2 (fun e => hvy ((ryy v hvl hvx).mp e))
  obtain ⟨t1, t2⟩ := skx_ne (T := nt_rm T x) hv1 hy1 v2 (fun e => hvy ((ryy v hvl hvx).mp e))
  have eC : (nt_rm T x).1 = T.1 - 1 := rfl
  rw [eC] at step2 t1
  have dx0 : (fun d => d / 2 = x ∨ d / 2 = y) (2 * x) := Or.inl (by omega)
  have dx1 : (fun d => d / 2 = x ∨ d / 2 = y) (2 * x + 1) := Or.inl (by omega)
  have dy0 : (fun d => d / 2 = x ∨ d / 2 = y) (2 * y) := Or.inr (by omega)
  have dy1 : (fun d => d / 2 = x ∨ d / 2 = y) (2 * y + 1) := Or.inr (by omega)
  have P1 : pthD T.2.2.1.1 (fun d => d / 2 = x ∨ d / 2 = y) (T.2.2.1.1 v) (skx T.2.2.1.1 x (T.2.2.1.1 v)) := pth_skx dx0 dx1 (fun R r1 _ => r1)
  have Py : ∀ u, (u = 2 * y ∨ u = 2 * y + 1) → pthD T.2.2.1.1 (fun d => d / 2 = x ∨ d / 2 = y) (T.2.2.1.1 v) u → pthD T.2.2.1.1 (fun d => d / 2 = x ∨ d / 2 = y) (T.2.2.1.1 v) (skx T.2.2.1.1 x (T.2.2.1.1 u)) := fun u hu hp => pth_skx dx0 dx1 (fun R r1 r2 => r2 u (by rcases hu with e | e <;> rw [e]; exact dy0; exact dy1) (hp R r1 r2))
  -- the visit that comes then
  have fin : ∀ k, skx (nt_rm T x).2.2.1.1 y ((nt_rm T x).2.2.1.1 (rnx T.1 x v)) = k → ∃ w, w < 2 * T.1 ∧ w / 2 ≠ x ∧ k = rnx T.1 x w ∧ pthD T.2.2.1.1 (fun d => d / 2 = x ∨ d / 2 = y) (T.2.2.1.1 v) w := by
    intro k hk
    rw [nv] at hk
    have z0 := skx_ne hv hx (show 2 * y < 2 * T.1 by omega) (show 2 * y / 2 ≠ x by omega)
    have z1 := skx_ne hv hx (show 2 * y + 1 < 2 * T.1 by omega) (show (2 * y + 1) / 2 ≠ x by omega)
    have un : ∀ u u', u < 2 * T.1 → u / 2 ≠ x → u' < 2 * T.1 → u' / 2 ≠ x → rnx T.1 x u = rnx T.1 x u' → u = u' := fun u u' h1 h2 h3 h4 e => by
      rw [← (rnx_f hx h1 h2).1, e, (rnx_f hx h3 h4).1]
    unfold skx at hk
    rw [n0, n1] at hk
    have hk : (if rnx T.1 x (skx T.2.2.1.1 x (T.2.2.1.1 v)) = 2 * y then (if rnx T.1 x (skx T.2.2.1.1 x (T.2.2.1.1 (2 * y))) = 2 * y + 1 then rnx T.1 x (skx T.2.2.1.1 x (T.2.2.1.1 (2 * y + 1))) else rnx T.1 x (skx T.2.2.1.1 x (T.2.2.1.1 (2 * y)))) else if rnx T.1 x (skx T.2.2.1.1 x (T.2.2.1.1 v)) = 2 * y + 1 then (if rnx T.1 x (skx T.2.2.1.1 x (T.2.2.1.1 (2 * y + 1))) = 2 * y then rnx T.1 x (skx T.2.2.1.1 x (T.2.2.1.1 (2 * y))) else rnx T.1 x (skx T.2.2.1.1 x (T.2.2.1.1 (2 * y + 1)))) else rnx T.1 x (skx T.2.2.1.1 x (T.2.2.1.1 v))) = k := hk
    by_cases e0 : rnx T.1 x (skx T.2.2.1.1 x (T.2.2.1.1 v)) = 2 * y
    · rw [if_pos e0] at hk
      have e0' : skx T.2.2.1.1 x (T.2.2.1.1 v) = 2 * y := un _ _ s1 s2 (by omega) (by omega) (e0.trans ry0.symm)
      have Q0 := Py (2 * y) (Or.inl rfl) (by rw [← e0']; exact P1)
      by_cases e1 : rnx T.1 x (skx T.2.2.1.1 x (T.2.2.1.1 (2 * y))) = 2 * y + 1
      · rw [if_pos e1] at hk
        have e1' : skx T.2.2.1.1 x (T.2.2.1.1 (2 * y)) = 2 * y + 1 := un _ _ z0.1 z0.2 (by omega) (by omega) (e1.trans ry1.symm)
        exact ⟨_, z1.1, z1.2, hk.symm, Py (2 * y + 1) (Or.inr rfl) (by rw [← e1']; exact Q0)⟩
      · rw [if_neg e1] at hk
        exact ⟨_, z0.1, z0.2, hk.symm, Q0⟩
    · rw [if_neg e0] at hk
      by_cases e1 : rnx T.1 x (skx T.2.2.1.1 x (T.2.2.1.1 v)) = 2 * y + 1
      · rw [if_pos e1] at hk
        have e1' : skx T.2.2.1.1 x (T.2.2.1.1 v) = 2 * y + 1 := un _ _ s1 s2 (by omega) (by omega) (e1.trans ry1.symm)
        have Q1 := Py (2 * y + 1) (Or.inr rfl) (by rw [← e1']; exact P1)
        by_cases e2 : rnx T.1 x (skx T.2.2.1.1 x (T.2.2.1.1 (2 * y + 1))) = 2 * y
        · rw [if_pos e2] at hk
          have e2' : skx T.2.2.1.1 x (T.2.2.1.1 (2 * y + 1)) = 2 * y := un _ _ z1.1 z1.2 (by omega) (by omega) (e2.trans ry0.symm)
          exact ⟨_, z0.1, z0.2, hk.symm, Py (2 * y) (Or.inl rfl) (by rw [← e2']; exact Q1)⟩
        · rw [if_neg e2] at hk
          exact ⟨_, z1.1, z1.2, hk.symm, Q1⟩
      · rw [if_neg e1] at hk
        exact ⟨_, s1, s2, hk.symm, P1⟩
  obtain ⟨w, w1, w2, w3, w4⟩ := fin _ rfl
  refine ⟨w, w1, w2, fun e => t2 ?_, ?_, w4⟩
  · rw [w3]
    exact (ryy w w1 w2).mpr e
  · rw [step2, w3]
/-- a net that shows what is left, and the two crossings apart, is plane: what is left is plane -/
theorem pl_rm2 (hv : vn T.1 T.2.2.1) (hc : T.1 ≤ 12) (hx : x < T.1) (hy : y < x) {S2 : ow_NP} (hv2 : vn T.1 S2) (h2 : ∀ v, v < 2 * T.1 → v / 2 ≠ x → v / 2 ≠ y → S2.1 v / 2 ≠ x ∧ S2.1 v / 2 ≠ y ∧ pthD T.2.2.1.1 (fun d => d / 2 = x ∨ d / 2 = y) (T.2.2.1.1 v) (S2.1 v)) (hp : pn_pl T.1 S2 (stG T.2.2.2)) : nt_plane (nt_rm (nt_rm T x) y) = true := by
  have hv1 := vn_rmT hv hx
  have hy1 : y < (nt_rm T x).1 := by show y < T.1 - 1; omega
  have hc1 : (nt_rm (nt_rm T x) y).1 ≤ 12 := by show T.1 - 1 - 1 ≤ 12; omega
  have hvA := vn_rmT hv1 hy1
  rw [plane_iff hvA hc1]
  have eC : (nt_rm T x).1 = T.1 - 1 := rfl
  have bk : ∀ k, k < 2 * (T.1 - 1 - 1) → rnx (T.1 - 1) y (rnx T.1 x (rnv2 T.1 x (rnv2 (T.1 - 1) y k))) = k ∧ rnv2 T.1 x (rnv2 (T.1 - 1) y k) < 2 * T.1 ∧ rnv2 T.1 x (rnv2 (T.1 - 1) y k) / 2 ≠ x ∧ rnv2 T.1 x (rnv2 (T.1 - 1) y k) / 2 ≠ y := fun k hk => by
    obtain ⟨a1, a2, a3⟩ := rnx_b (T := nt_rm T x) hy1 (k := k) hk
    rw [eC] at a1 a2 a3
    obtain ⟨b1, b2, b3⟩ := rnx_b hx (k := rnv2 (T.1 - 1) y k) (by omega)
    refine ⟨by rw [b1, a1], b2, b3, fun e => a3 ?_⟩
    generalize rnv2 (T.1 - 1) y k = k' at *
    unfold rnv2 at e
    split at e <;> omega
  have sgv : ∀ (U : ow_NT) (z k : Nat), z < U.1 → k < 2 * (U.1 - 1) → (nt_rm U z).2.2.2 (k / 2) = U.2.2.2 (rnv2 U.1 z k / 2) ∧ rnv2 U.1 z k % 2 = k % 2 := fun U z k hz hk => by
    refine ⟨?_, by unfold rnv2; split <;> omega⟩
    show np_rmG U.2.2.2 z (U.1 - 1) (k / 2) = _
    unfold np_rmG rnv2
    by_cases e : k / 2 = z
    · rw [if_pos e]
      by_cases ex : z = U.1 - 1
      · omega
      · rw [if_neg ex, show (2 * (U.1 - 1) + k % 2) / 2 = U.1 - 1 by omega]
        exact if_pos e
    · rw [if_neg e]
      by_cases ex : z = U.1 - 1
      · rw [if_pos ex]
      · rw [if_neg ex]
        exact if_neg e
  refine sub_pl (ψ := fun k => rnv2 T.1 x (rnv2 (T.1 - 1) y k)) hv2 stG_fl hvA (fun k hk => ?_) (fun u v hu hv9 e => ?_) hp
  · have hk : k < 2 * (T.1 - 1 - 1) := hk
    obtain ⟨b1, b2, b3, b4⟩ := bk k hk
    refine ⟨b2, ?_, ?_, ?_⟩
    · obtain ⟨w, w1, w2, w3, w4, w5⟩ := rm2_next hv hc hx hy b2 b3 b4
      obtain ⟨q1, q2, q3⟩ := h2 _ b2 b3 b4
      have ew := pth_u w5 q3 (fun h9 => h9.elim w2 w3) (fun h9 => h9.elim q1 q2)
      rw [b1] at w4
      show S2.1 (rnv2 T.1 x (rnv2 (T.1 - 1) y k)) = rnv2 T.1 x (rnv2 (T.1 - 1) y ((nt_rm (nt_rm T x) y).2.2.1.1 k))
      rw [ew, w4]
      obtain ⟨f1, f2⟩ := rnx_f hx w1 w2
      have hr : rnx T.1 x w / 2 ≠ y := fun e => w3 (by unfold rnx at e; split at e <;> omega)
      have := (rnx_f (T := nt_rm T x) hy1 f2 hr).1
      rw [eC] at this
      rw [this, f1]
    · have mr : ∀ c z k, mt (rnv2 c z k) = rnv2 c z (mt k) := fun c z k => by
        unfold rnv2
        rw [mt_h2]
        by_cases e : k / 2 = z
        · rw [if_pos e, if_pos e]
          unfold mt
          split <;> split <;> omega
        · rw [if_neg e, if_neg e]
      show mt (rnv2 T.1 x (rnv2 (T.1 - 1) y k)) = rnv2 T.1 x (rnv2 (T.1 - 1) y (mt k))
      rw [mr, mr]
    · obtain ⟨g1, g2⟩ := sgv (nt_rm T x) y k hy1 hk
      rw [eC] at g1 g2
      have a2 := (rnx_b (T := nt_rm T x) hy1 (k := k) hk).2.1
      rw [eC] at a2
      obtain ⟨g3, g4⟩ := sgv T x (rnv2 (T.1 - 1) y k) hx a2
      show stG T.2.2.2 (rnv2 T.1 x (rnv2 (T.1 - 1) y k)) = stG (nt_rm (nt_rm T x) y).2.2.2 k
      unfold stG
      rw [g1, g3, g4, g2]
  · have h1 := (bk u hu).1
    have h3 := (bk v hv9).1
    rw [← h1, e, h3]
/-- the visits of two crossings, one behind the other over and under, laid apart -/
theorem pl_pair0 {c : Nat} {S : ow_NP} {b : Nat → Bool} {p1 p2 q1 q2 : Nat} (hv : vn c S) (hb : pn_fl b) (hp : pn_pl c S b) (l1 : p1 < 2 * c) (l2 : p2 < 2 * c) (l3 : q1 < 2 * c) (l4 : q2 < 2 * c) (hpq : S.1 p1 = p2) (hqq : S.1 q1 = q2) (hpp : p1 ≠ p2) (hbb : b p2 = !b p1) (hm : mt p1 = q1 ∧ mt p2 = q2 ∨ mt p1 = q2 ∧ mt p2 = q1) (hd : p1 ≠ q1 ∧ p1 ≠ q2 ∧ p2 ≠ q1 ∧ p2 ≠ q2 ∧ q1 ≠ q2) : ∃ S2, vn c S2 ∧ pn_pl c S2 b ∧ ∀ v, v < 2 * c → v ≠ p1 → v ≠ p2 → v ≠ q1 → v ≠ q2 → S2.1 v ≠ p1 ∧ S2.1 v ≠ p2 ∧ S2.1 v ≠ q1 ∧ S2.1 v ≠ q2 ∧ pthD S.1 (fun d => d = p1 ∨ d = p2 ∨ d = q1 ∨ d = q2) (S.1 v) (S2.1 v) := by
  obtain ⟨d1, d2, d3, d4, d5⟩ := hd
  obtain ⟨a1, a2, a3, a4⟩ := hv p1 l1
  have n2 := (hv p2 l2).1
  -- the ring of the visits over
  have first : ∃ S1, vn c S1 ∧ pn_pl c S1 b ∧ S1.1 p2 = p1 ∧ S1.1 p1 = p2 ∧ ∀ v, v < 2 * c → v ≠ p1 → v ≠ p2 → S1.1 v = if S.1 v = p1 then S.1 p2 else S.1 v := by
    by_cases e : S.2 p1 = p2
    · have e1 : S.1 p2 = p1 := by rw [← e]; exact a4
      refine ⟨S, hv, hp, e1, hpq, fun v hvl g1 g2 => ?_⟩
      rw [if_neg (fun h9 => g2 (vn_inj hv hvl l2 (h9.trans e1.symm)))]
    · have hne : S.2 p1 ≠ p1 := fun e9 => by
        rw [e9] at a4
        exact hpp (a4.symm.trans hpq)
      refine ⟨np_exchange S (S.2 p1) p2, vn_exchange hv a2 l2, pn_exch hv hb hp a2 l2 e (Or.inr ?_), ?_, ?_, fun v hvl g1 g2 => ?_⟩
      · have f0 : pn_ph S b (2 * S.2 p1) = pn_rt b (2 * p1 + 1) := by
          unfold pn_ph
          rw [pn_al0, a4]
        have f1 : pn_ph S b (2 * S.1 p2 + 1) = pn_rt b (2 * p2) := by
          unfold pn_ph
          rw [pn_al1, (hv p2 l2).2.2.1]
        have g0 : pn_ph S b (2 * q1) = pn_rt b (2 * q2 + 1) := by
          unfold pn_ph
          rw [pn_al0, hqq]
        have g1 : pn_ph S b (2 * q2 + 1) = pn_rt b (2 * q1) := by
          unfold pn_ph
          rw [pn_al1, ← hqq, (hv q1 l3).2.2.1]
        rw [a4]
        have back : pm_or (pn_ph S b) (2 * S.1 p2 + 1) (2 * p1 + 1) → pm_or (pn_ph S b) (2 * p1 + 1) (2 * S.1 p2 + 1) := fun h9 => or_sy (n := 4 * c) (fun d hd => pn_ph_lt hv hd) (fun d e hd he q => pn_ph_inj hv hb hd he q) (by omega) h9
        rcases hm with ⟨m1, m2⟩ | ⟨m1, m2⟩
        · have bq1 : b q1 = !b p1 := by rw [← m1]; exact hb p1
          have bq2 : b q2 = !b p2 := by rw [← m2]; exact hb p2
          have mq1 : mt q1 = p1 := by rw [← m1, mt_mt]
          have mq2 : mt q2 = p2 := by rw [← m2, mt_mt]
          cases e1 : b p1 with
          | true =>
            left
            refine ⟨2, ?_⟩
            show pn_ph S b (pn_ph S b (2 * S.2 p1)) = 2 * p2
            rw [f0, pn_at1, e1, if_pos rfl, m1, g0, pn_at1, bq2, hbb, e1, mq2]
            rfl
          | false =>
            right
            refine back ⟨2, ?_⟩
            show pn_ph S b (pn_ph S b (2 * S.1 p2 + 1)) = 2 * p1 + 1
            rw [f1, pn_at0, hbb, e1, m2]
            show pn_ph S b (2 * q2 + 1) = _
            rw [g1, pn_at0, bq1, e1, mq1]
            rfl
        · have bq1 : b q1 = !b p2 := by rw [← m2]; exact hb p2
          have bq2 : b q2 = !b p1 := by rw [← m1]; exact hb p1
          have mq1 : mt q1 = p2 := by rw [← m2, mt_mt]
          have mq2 : mt q2 = p1 := by rw [← m1, mt_mt]
          cases e1 : b p1 with
          | true =>
            right
            refine back ⟨2, ?_⟩
            show pn_ph S b (pn_ph S b (2 * S.1 p2 + 1)) = 2 * p1 + 1
            rw [f1, pn_at0, hbb, e1, m2]
            show pn_ph S b (2 * q1) = _
            rw [g0, pn_at1, bq2, e1, mq2]
            rfl
          | false =>
            left
            refine ⟨2, ?_⟩
            show pn_ph S b (pn_ph S b (2 * S.2 p1)) = 2 * p2
            rw [f0, pn_at1, e1, m1]
            show pn_ph S b (2 * q2 + 1) = _
            rw [g1, pn_at0, bq1, hbb, e1, mq1]
            rfl
      · rw [np_exchange_1, if_pos rfl, a4]
      · rw [np_exchange_1, if_neg hpp, if_neg (fun h9 => hne h9.symm), hpq]
      · rw [np_exchange_1, if_neg g2]
        by_cases h9 : S.1 v = p1
        · have : v = S.2 p1 := by rw [← h9, (hv v hvl).2.2.1]
          rw [if_pos this, if_pos h9]
        · rw [if_neg (fun h8 => h9 (by rw [h8, a4])), if_neg h9]
  obtain ⟨S1, hv1, hp1, r1, r2, r3⟩ := first
  have s1 : S1.1 q1 = q2 := by
    rw [r3 q1 l3 (fun e => d1 e.symm) (fun e => d3 e.symm), hqq, if_neg (fun e => d2 e.symm)]
  obtain ⟨c1, c2, c3, c4⟩ := hv1 q1 l3
  have m21 : (mt p1 = q1 ∨ mt p1 = q2) ∧ (mt p2 = q1 ∨ mt p2 = q2) ∧ (mt q1 = p1 ∨ mt q1 = p2) ∧ (mt q2 = p1 ∨ mt q2 = p2) := by
    rcases hm with ⟨m1, m2⟩ | ⟨m1, m2⟩
    · exact ⟨Or.inl m1, Or.inr m2, Or.inl (by rw [← m1, mt_mt]), Or.inr (by rw [← m2, mt_mt])⟩
    · exact ⟨Or.inr m1, Or.inl m2, Or.inr (by rw [← m2, mt_mt]), Or.inl (by rw [← m1, mt_mt])⟩
  have second : ∃ S2, vn c S2 ∧ pn_pl c S2 b ∧ ∀ v, v < 2 * c → v ≠ q1 → v ≠ q2 → S2.1 v = if S1.1 v = q1 then S1.1 q2 else S1.1 v := by
    by_cases e : S1.2 q1 = q2
    · have e1 : S1.1 q2 = q1 := by rw [← e]; exact c4
      refine ⟨S1, hv1, hp1, fun v hvl g1 g2 => ?_⟩
      rw [if_neg (fun h9 => g2 (vn_inj hv1 hvl l4 (h9.trans e1.symm)))]
    · have hne1 : S1.2 q1 ≠ q1 := fun e9 => by
        rw [e9] at c4
        exact d5 (c4.symm.trans s1)
      have hne2 : S1.2 q1 ≠ p1 := fun e9 => by
        rw [e9, r2] at c4
        exact d3 c4
      have hne3 : S1.2 q1 ≠ p2 := fun e9 => by
        rw [e9, r1] at c4
        exact d1 c4
      have hv2 := vn_exchange hv1 c2 l4
      have x1 : (np_exchange S1 (S1.2 q1) q2).1 p1 = p2 := by rw [np_exchange_1, if_neg d2, if_neg (fun h9 => hne2 h9.symm), r2]
      have x2 : (np_exchange S1 (S1.2 q1) q2).1 p2 = p1 := by rw [np_exchange_1, if_neg d4, if_neg (fun h9 => hne3 h9.symm), r1]
      have x3 : (np_exchange S1 (S1.2 q1) q2).1 q1 = q2 := by rw [np_exchange_1, if_neg d5, if_neg (fun h9 => hne1 h9.symm), s1]
      have x4 : (np_exchange S1 (S1.2 q1) q2).1 q2 = q1 := by rw [np_exchange_1, if_pos rfl, c4]
      have hnr : ¬ rch c (np_exchange S1 (S1.2 q1) q2) (S1.2 q1) q2 := by
        intro h
        have h2 := rch_sy hv2 c2 h
        have := h2 (fun k => k = p1 ∨ k = p2 ∨ k = q1 ∨ k = q2) (Or.inr (Or.inr (Or.inr rfl))) (fun j _ hj => by
          rcases hj with rfl | rfl | rfl | rfl
          · exact Or.inr (Or.inl x1)
          · exact Or.inl x2
          · exact Or.inr (Or.inr (Or.inr x3))
          · exact Or.inr (Or.inr (Or.inl x4))) (fun j _ hj => by
          rcases hj with rfl | rfl | rfl | rfl
          · exact Or.inr (Or.inr m21.1)
          · exact Or.inr (Or.inr m21.2.1)
          · rcases m21.2.2.1 with h9 | h9
            · exact Or.inl h9
            · exact Or.inr (Or.inl h9)
          · rcases m21.2.2.2 with h9 | h9
            · exact Or.inl h9
            · exact Or.inr (Or.inl h9))
        rcases this with h9 | h9 | h9 | h9
        · exact hne2 h9
        · exact hne3 h9
        · exact hne1 h9
        · exact e h9
      refine ⟨np_exchange S1 (S1.2 q1) q2, hv2, pn_exch hv1 hb hp1 c2 l4 e (Or.inr (Or.inl (ex_bridge hv1 hb hp1 c2 l4 hnr).1)), fun v hvl g1 g2 => ?_⟩
      rw [np_exchange_1, if_neg g2]
      by_cases h9 : S1.1 v = q1
      · have : v = S1.2 q1 := by rw [← h9, (hv1 v hvl).2.2.1]
        rw [if_pos this, if_pos h9]
      · rw [if_neg (fun h8 => h9 (by rw [h8, c4])), if_neg h9]
  obtain ⟨S2, hv2, hp2, t1⟩ := second
  refine ⟨S2, hv2, hp2, fun v hvl g1 g2 g3 g4 => ?_⟩
  have P0 : ∀ {R : Nat → Prop}, (∀ d, (d = p1 ∨ d = p2 ∨ d = q1 ∨ d = q2) → R d → R (S.1 d)) → ∀ u, u < 2 * c → u ≠ p1 → u ≠ p2 → R (S.1 u) → R (S1.1 u) := fun {R} rd u hu h1 h2 hr => by
    rw [r3 u hu h1 h2]
    by_cases e : S.1 u = p1
    · rw [if_pos e]
      rw [e] at hr
      have k1 := rd p1 (Or.inl rfl) hr
      rw [hpq] at k1
      exact rd p2 (Or.inr (Or.inl rfl)) k1
    · rw [if_neg e]
      exact hr
  have hS1p1 : S1.1 v ≠ p1 := fun e => g2 (vn_inj hv1 hvl l2 (e.trans r1.symm))
  have hS1p2 : S1.1 v ≠ p2 := fun e => g1 (vn_inj hv1 hvl l1 (e.trans r2.symm))
  have hS1q2 : S1.1 v ≠ q2 := fun e => g3 (vn_inj hv1 hvl l3 (e.trans s1.symm))
  have h42 : S1.1 q2 ≠ p1 := fun e => d4 (vn_inj hv1 l4 l2 (e.trans r1.symm)).symm
  have h41 : S1.1 q2 ≠ p2 := fun e => d2 (vn_inj hv1 l4 l1 (e.trans r2.symm)).symm
  have h43 : S1.1 q2 ≠ q2 := fun e => d5 (vn_inj hv1 l4 l3 (e.trans s1.symm)).symm
  rw [t1 v hvl g3 g4]
  by_cases e : S1.1 v = q1
  · rw [if_pos e]
    refine ⟨h42, h41, fun e9 => g4 (vn_inj hv1 hvl l4 (e.trans e9.symm)), h43, fun R ra rd => ?_⟩
    have k1 := P0 rd v hvl g1 g2 ra
    rw [e] at k1
    have k2 := rd q1 (Or.inr (Or.inr (Or.inl rfl))) k1
    rw [hqq] at k2
    exact P0 rd q2 l4 (fun h9 => d2 h9.symm) (fun h9 => d4 h9.symm) (rd q2 (Or.inr (Or.inr (Or.inr rfl))) k2)
  · rw [if_neg e]
    exact ⟨hS1p1, hS1p2, e, hS1q2, fun R ra rd => P0 rd v hvl g1 g2 ra⟩
/-- two crossings of unlike signs go -/
theorem pl_pair (hv : vn T.1 T.2.2.1) (hc : T.1 ≤ 12) (hT : pm1 T) (hx : x < T.1) (hy : y < x) (hs : T.2.2.2 x ≠ T.2.2.2 y) (ho : T.2.2.1.1 (2 * x) = 2 * y ∨ T.2.2.1.1 (2 * y) = 2 * x) (hu : T.2.2.1.1 (2 * x + 1) = 2 * y + 1 ∨ T.2.2.1.1 (2 * y + 1) = 2 * x + 1) (hp : nt_plane T = true) : nt_plane (nt_rm (nt_rm T x) y) = true := by
  have hpl := (plane_iff hv hc).mp hp
  have hst : stG T.2.2.2 (2 * y) = !stG T.2.2.2 (2 * x) := by
    unfold stG
    rw [show 2 * y / 2 = y by omega, show 2 * x / 2 = x by omega, show 2 * y % 2 = 0 by omega, show 2 * x % 2 = 0 by omega]
    rcases hT x hx with h1 | h1 <;> rcases hT y (by omega) with h2 | h2 <;> rw [h1, h2] <;> first | rfl | exact absurd (h1.trans h2.symm) hs
  have fin : ∀ {S2 : ow_NP} {p1 p2 q1 q2 : Nat}, (p1 = 2 * x ∧ p2 = 2 * y ∨ p1 = 2 * y ∧ p2 = 2 * x) → (q1 = 2 * x + 1 ∧ q2 = 2 * y + 1 ∨ q1 = 2 * y + 1 ∧ q2 = 2 * x + 1) → vn T.1 S2 → pn_pl T.1 S2 (stG T.2.2.2) → (∀ v, v < 2 * T.1 → v ≠ p1 → v ≠ p2 → v ≠ q1 → v ≠ q2 → S2.1 v ≠ p1 ∧ S2.1 v ≠ p2 ∧ S2.1 v ≠ q1 ∧ S2.1 v ≠ q2 ∧ pthD T.2.2.1.1 (fun d => d = p1 ∨ d = p2 ∨ d = q1 ∨ d = q2) (T.2.2.1.1 v) (S2.1 v)) → nt_plane (nt_rm (nt_rm T x) y) = true := by
    intro S2 p1 p2 q1 q2 e1 e2 h1 h2 h3
    refine pl_rm2 hv hc hx hy h1 (fun v hvl g1 g2 => ?_) h2
    obtain ⟨k1, k2, k3, k4, k5⟩ := h3 v hvl (by omega) (by omega) (by omega) (by omega)
    refine ⟨by omega, by omega, fun R ra rd => k5 R ra (fun d hd => rd d ?_)⟩
    show d / 2 = x ∨ d / 2 = y
    omega
  have mx := mt_ev x
  have my := mt_ev y
  rcases ho with ho | ho
  · rcases hu with hu | hu
    · obtain ⟨S2, h1, h2, h3⟩ := pl_pair0 hv stG_fl hpl (show 2 * x < 2 * T.1 by omega) (show 2 * y < 2 * T.1 by omega) (show 2 * x + 1 < 2 * T.1 by omega) (show 2 * y + 1 < 2 * T.1 by omega) ho hu (by omega) hst (Or.inl ⟨mx, my⟩) (by omega)
      exact fin (Or.inl ⟨rfl, rfl⟩) (Or.inl ⟨rfl, rfl⟩) h1 h2 h3
    · obtain ⟨S2, h1, h2, h3⟩ := pl_pair0 hv stG_fl hpl (show 2 * x < 2 * T.1 by omega) (show 2 * y < 2 * T.1 by omega) (show 2 * y + 1 < 2 * T.1 by omega) (show 2 * x + 1 < 2 * T.1 by omega) ho hu (by omega) hst (Or.inr ⟨mx, my⟩) (by omega)
      exact fin (Or.inl ⟨rfl, rfl⟩) (Or.inr ⟨rfl, rfl⟩) h1 h2 h3
  · have hst2 : stG T.2.2.2 (2 * x) = !stG T.2.2.2 (2 * y) := by rw [hst, Bool.not_not]
    rcases hu with hu | hu
    · obtain ⟨S2, h1, h2, h3⟩ := pl_pair0 hv stG_fl hpl (show 2 * y < 2 * T.1 by omega) (show 2 * x < 2 * T.1 by omega) (show 2 * x + 1 < 2 * T.1 by omega) (show 2 * y + 1 < 2 * T.1 by omega) ho hu (by omega) hst2 (Or.inr ⟨my, mx⟩) (by omega)
      exact fin (Or.inr ⟨rfl, rfl⟩) (Or.inl ⟨rfl, rfl⟩) h1 h2 h3
    · obtain ⟨S2, h1, h2, h3⟩ := pl_pair0 hv stG_fl hpl (show 2 * y < 2 * T.1 by omega) (show 2 * x < 2 * T.1 by omega) (show 2 * y + 1 < 2 * T.1 by omega) (show 2 * x + 1 < 2 * T.1 by omega) ho hu (by omega) hst2 (Or.inl ⟨my, mx⟩) (by omega)
      exact fin (Or.inr ⟨rfl, rfl⟩) (Or.inr ⟨rfl, rfl⟩) h1 h2 h3
end PTW
end
section
/-! 99zzzzzzzzu.pr3 -/
/-! three sides passed: plane nets stay plane -/
theorem mtd (d : Nat) : mt d / 2 = d / 2 ∧ mt d % 2 = 1 - d % 2 := by
  unfold mt
  split <;> omega
section R3
variable {c : Nat} {S S' : ow_NP} {b : Nat → Bool} {τ : Nat → Nat} {g h : Nat → Nat}
theorem rt_sq (hb : pn_fl b) (d : Nat) : pn_rt b (pn_rt b d) = mt d := by
  have := mtd d
  rcases (show d = 2 * (d / 2) ∨ d = 2 * (d / 2) + 1 by omega) with e | e
  · have h := (pn_sq hb (d / 2)).1
    rw [← e] at h
    rw [h]
    omega
  · have h := (pn_sq hb (d / 2)).2
    rw [← e] at h
    rw [h]
    omega
/-- three gaps around a face with three sides, in a net and in the net with the visits at their ends changed; indices by 3 -/
theorem pl_three (hv : vn c S) (hv' : vn c S') (hb : pn_fl b) (hp : pn_pl c S b)
  (g4 : ∀ i, i < 3 → g i < 4 * c) (hh : ∀ i, i < 3 → h i = pn_al S (g i)) (hg : ∀ i, i < 3 → pn_rt b (h i) = g ((i + 1) % 3))
  (dis : ∀ i j, i < 3 → j < 3 → i ≠ j → h i / 4 ≠ h j / 4)
  (τi : ∀ d, τ (τ d) = d) (τg : ∀ i, i < 3 → τ (g i) = mt (h i)) (τh : ∀ i, i < 3 → τ (h i) = mt (g i)) (τo : ∀ d, (∀ i, i < 3 → d / 2 ≠ g i / 2 ∧ d / 2 ≠ h i / 2) → τ d = d) (τl : ∀ d, d < 4 * c → τ d < 4 * c)
  (hal : ∀ d, d < 4 * c → pn_al S' d = τ (pn_al S (τ d))) : pn_pl c S' b := by
  obtain ⟨R, hR, f, X, f1, f2, f3, f4⟩ := hp
  have h4 : ∀ i, i < 3 → h i < 4 * c := fun i hi => by rw [hh i hi]; exact pn_al_lt hv (g4 i hi)
  have alh : ∀ i, i < 3 → pn_al S (h i) = g i := fun i hi => by rw [hh i hi, pn_al_inv hv (g4 i hi)]
  have sq := rt_sq hb
  have rtl : ∀ d, d < 4 * c → pn_rt b d < 4 * c := fun d hd => pn_rt_lt hd
  -- around the crossings: h i, g (i + 1), mt (h i), mt (g (i + 1))
  have c1 : ∀ i, i < 3 → pn_rt b (g ((i + 1) % 3)) = mt (h i) := fun i hi => by rw [← hg i hi, sq]
  have c2 : ∀ i, i < 3 → pn_rt b (mt (h i)) = mt (g ((i + 1) % 3)) := fun i hi => by rw [← c1 i hi, sq]
  have c3 : ∀ i, i < 3 → pn_rt b (mt (g ((i + 1) % 3))) = h i := fun i hi => by rw [← c2 i hi, sq, mt_mt]
  have gq : ∀ i, i < 3 → g ((i + 1) % 3) / 4 = h i / 4 := fun i hi => by
    have := pn_rt_h (b := b) (h i)
    rw [hg i hi] at this
    have h2 := mt_h2 (h i / 2)
    omega
  have gv : ∀ i, i < 3 → g ((i + 1) % 3) / 2 = mt (h i / 2) := fun i hi => by
    have := pn_rt_h (b := b) (h i)
    rw [hg i hi] at this
    exact this
  have up : ∀ i, i < 3 → ((i + 2) % 3 + 1) % 3 = i := fun i hi => by omega
  -- distinct darts, by visits
  have gh : ∀ i j, i < 3 → j < 3 → g i / 2 ≠ h j / 2 := fun i j hi hj e => by
    have e1 := gv ((i + 2) % 3) (by omega)
    rw [up i hi] at e1
    have e2 := gq ((i + 2) % 3) (by omega)
    rw [up i hi] at e2
    by_cases ej : (i + 2) % 3 = j
    · rw [ej] at e1
      rw [e1] at e
      unfold mt at e
      split at e <;> omega
    · exact dis _ j (by omega) hj ej (by omega)
  have hhd : ∀ i j, i < 3 → j < 3 → i ≠ j → h i / 2 ≠ h j / 2 := fun i j hi hj hne e => dis i j hi hj hne (by omega)
  have ggd : ∀ i j, i < 3 → j < 3 → i ≠ j → g i / 2 ≠ g j / 2 := fun i j hi hj hne e => by
    have e1 := gq ((i + 2) % 3) (by omega)
    rw [up i hi] at e1
    have e2 := gq ((j + 2) % 3) (by omega)
    rw [up j hj] at e2
    exact dis ((i + 2) % 3) ((j + 2) % 3) (by omega) (by omega) (by omega) (by omega)
  have τmg : ∀ i, i < 3 → τ (mt (g i)) = h i := fun i hi => by rw [← τh i hi, τi]
  have τmh : ∀ i, i < 3 → τ (mt (h i)) = g i := fun i hi => by rw [← τg i hi, τi]
  have mg2 : ∀ i, mt (g i) / 2 = g i / 2 := fun i => (mtd _).1
  have mh2 : ∀ i, mt (h i) / 2 = h i / 2 := fun i => (mtd _).1
  have fgt : ∀ i, i < 3 → f (g i) = f (g 0) := by
    have st : ∀ i, i < 3 → f (g ((i + 1) % 3)) = f (g i) := fun i hi => by
      have := f1 (g i) (g4 i hi)
      unfold pn_ph at this
      rw [← hh i hi, hg i hi] at this
      exact this
    intro i hi
    have s0 := st 0 (by omega)
    have s1 := st 1 (by omega)
    rcases (show i = 0 ∨ i = 1 ∨ i = 2 by omega) with e | e | e <;> rw [e]
    · exact s0
    · exact s1.trans s0
  have fh : ∀ i, i < 3 → f (h i) = f (mt (h ((i + 2) % 3))) := fun i hi => by
    have := f1 (h i) (h4 i hi)
    unfold pn_ph at this
    rw [alh i hi] at this
    have e1 := c1 ((i + 2) % 3) (by omega)
    rw [up i hi] at e1
    rw [e1] at this
    exact this.symm
  -- the new label
  have lab : ∀ d, ∃ y, (∀ i, i < 3 → d = mt (h i) → y = f (mt (g ((i + 2) % 3)))) ∧ (∀ i, i < 3 → d = mt (g i) → y = f (g 0)) ∧ ((∀ i, i < 3 → d ≠ mt (h i) ∧ d ≠ mt (g i)) → y = f (τ d)) := fun d => by
    by_cases e1 : ∃ i, i < 3 ∧ d = mt (h i)
    · obtain ⟨i, i1, i2⟩ := e1
      refine ⟨f (mt (g ((i + 2) % 3))), fun j hj ej => ?_, fun j hj ej => ?_, fun h9 => absurd i2 (h9 i i1).1⟩
      · by_cases hij : i = j
        · rw [hij]
        · exact absurd (by rw [← mh2 i, ← mh2 j, ← i2, ← ej]) (hhd i j i1 hj hij)
      · exact absurd (by rw [← mg2 j, ← mh2 i, ← i2, ← ej]) (gh j i hj i1)
    · by_cases e2 : ∃ i, i < 3 ∧ d = mt (g i)
      · obtain ⟨i, i1, i2⟩ := e2
        exact ⟨f (g 0), fun j hj ej => absurd ⟨j, hj, ej⟩ e1, fun _ _ _ => rfl, fun h9 => absurd i2 (h9 i i1).2⟩
      · exact ⟨f (τ d), fun j hj ej => absurd ⟨j, hj, ej⟩ e1, fun j hj ej => absurd ⟨j, hj, ej⟩ e2, fun _ => rfl⟩
  obtain ⟨f', hf'⟩ := Classical.skolem.mp lab
  have Lh : ∀ i, i < 3 → f' (mt (h i)) = f (mt (g ((i + 2) % 3))) := fun i hi => (hf' _).1 i hi rfl
  have Lg : ∀ i, i < 3 → f' (mt (g i)) = f (g 0) := fun i hi => (hf' _).2.1 i hi rfl
  have Lo : ∀ d, (∀ i, i < 3 → d ≠ mt (h i) ∧ d ≠ mt (g i)) → f' d = f (τ d) := fun d => (hf' d).2.2
  have nmh : ∀ i j, i < 3 → j < 3 → g i ≠ mt (h j) ∧ g i ≠ mt (g j) := fun i j hi hj => by
    refine ⟨fun e => gh i j hi hj (by rw [e, mh2]), fun e => ?_⟩
    by_cases hij : i = j
    · rw [hij] at e
      unfold mt at e
      split at e <;> omega
    · exact ggd i j hi hj hij (by rw [e, mg2])
  have nmg : ∀ i j, i < 3 → j < 3 → h i ≠ mt (h j) ∧ h i ≠ mt (g j) := fun i j hi hj => by
    refine ⟨fun e => ?_, fun e => gh j i hj hi (by rw [e, mg2])⟩
    by_cases hij : i = j
    · rw [hij] at e
      unfold mt at e
      split at e <;> omega
    · exact hhd i j hi hj hij (by rw [e, mh2])
  have Fg : ∀ i, i < 3 → f' (g i) = f (mt (h i)) := fun i hi => by rw [Lo _ (fun j hj => nmh i j hi hj), τg i hi]
  have Fh : ∀ i, i < 3 → f' (h i) = f (mt (g i)) := fun i hi => by rw [Lo _ (fun j hj => nmg i j hi hj), τh i hi]
  have down2 : ∀ i, i < 3 → ((i + 2) % 3 + 2) % 3 = (i + 1) % 3 := fun i hi => by omega
  have inv : ∀ d, d < 4 * c → f' (pn_ph S' b d) = f' d := by
    intro d hd
    unfold pn_ph
    rw [hal d hd]
    by_cases e1 : ∃ i, i < 3 ∧ d = mt (h i)
    · obtain ⟨i, i1, i2⟩ := e1
      have r3 := c3 ((i + 2) % 3) (by omega)
      rw [up i i1] at r3
      rw [i2, τmh i i1, ← hh i i1, τh i i1, r3, Fh _ (by omega), Lh i i1]
    · by_cases e2 : ∃ i, i < 3 ∧ d = mt (g i)
      · obtain ⟨i, i1, i2⟩ := e2
        rw [i2, τmg i i1, alh i i1, τg i i1, c2 i i1, Lg _ (by omega), Lg i i1]
      · have nd : ∀ i, i < 3 → d ≠ mt (h i) ∧ d ≠ mt (g i) := fun i hi => ⟨fun e => e1 ⟨i, hi, e⟩, fun e => e2 ⟨i, hi, e⟩⟩
        rw [Lo d nd]
        have hτd := τl d hd
        have fe := f1 (τ d) hτd
        unfold pn_ph at fe
        rw [← fe]
        have ae := pn_al_inv hv hτd
        generalize he : pn_al S (τ d) = e at *
        have ng : ∀ i, i < 3 → e ≠ g i ∧ e ≠ h i := fun i hi => by
          refine ⟨fun e9 => ?_, fun e9 => ?_⟩
          · rw [e9, ← hh i hi] at ae
            have := congrArg τ ae
            rw [τi, τh i hi] at this
            exact (nd i hi).2 this.symm
          · rw [e9, alh i hi] at ae
            have := congrArg τ ae
            rw [τi, τg i hi] at this
            exact (nd i hi).1 this.symm
        by_cases k1 : ∃ i, i < 3 ∧ e = mt (h i)
        · obtain ⟨i, i1, i2⟩ := k1
          have r1 := c1 ((i + 2) % 3) (by omega)
          rw [up i i1] at r1
          rw [i2, τmh i i1, r1, Lh _ (by omega), c2 i i1, down2 i i1]
        · by_cases k2 : ∃ i, i < 3 ∧ e = mt (g i)
          · obtain ⟨i, i1, i2⟩ := k2
            have r3 := c3 ((i + 2) % 3) (by omega)
            rw [up i i1] at r3
            rw [i2, τmg i i1, hg i i1, Fg _ (by omega), r3, fh _ (by omega), down2 i i1]
          · have far : ∀ i, i < 3 → e / 2 ≠ g i / 2 ∧ e / 2 ≠ h i / 2 := fun i hi => by
              have m1 := mtd (g i)
              have m2 := mtd (h i)
              refine ⟨fun e9 => ?_, fun e9 => ?_⟩
              · rcases (show e = g i ∨ e = mt (g i) by omega) with h9 | h9
                · exact (ng i hi).1 h9
                · exact k2 ⟨i, hi, h9⟩
              · rcases (show e = h i ∨ e = mt (h i) by omega) with h9 | h9
                · exact (ng i hi).2 h9
                · exact k1 ⟨i, hi, h9⟩
            have hr := pn_rt_h (b := b) e
            have far2 : ∀ i, i < 3 → pn_rt b e / 2 ≠ g i / 2 ∧ pn_rt b e / 2 ≠ h i / 2 := fun i hi => by
              rw [hr]
              refine ⟨fun e9 => ?_, fun e9 => ?_⟩
              · have e8 := gv ((i + 2) % 3) (by omega)
                rw [up i hi] at e8
                rw [e8] at e9
                have := congrArg mt e9
                rw [mt_mt, mt_mt] at this
                exact (far ((i + 2) % 3) (by omega)).2 this
              · have e8 := gv i hi
                rw [← e9, mt_mt] at e8
                exact (far ((i + 1) % 3) (by omega)).1 e8.symm
            have far3 : ∀ i, i < 3 → pn_rt b e ≠ mt (h i) ∧ pn_rt b e ≠ mt (g i) := fun i hi => ⟨fun e9 => (far2 i hi).2 (by rw [e9, mh2]), fun e9 => (far2 i hi).1 (by rw [e9, mg2])⟩
            rw [τo e far, Lo _ far3, τo _ far2]
  -- every value is taken again
  have ch : ∀ x, ∃ d, x < 4 * c → d < 4 * c ∧ f' d = f x := fun x => by
    by_cases hx : x < 4 * c
    · by_cases k1 : ∃ i, i < 3 ∧ x = mt (h i)
      · obtain ⟨i, i1, i2⟩ := k1
        exact ⟨g i, fun _ => ⟨g4 i i1, by rw [Fg i i1, i2]⟩⟩
      · by_cases k2 : ∃ i, i < 3 ∧ x = mt (g i)
        · obtain ⟨i, i1, i2⟩ := k2
          exact ⟨h i, fun _ => ⟨h4 i i1, by rw [Fh i i1, i2]⟩⟩
        · by_cases k3 : ∃ i, i < 3 ∧ x = h i
          · obtain ⟨i, i1, i2⟩ := k3
            exact ⟨g ((i + 2) % 3), fun _ => ⟨g4 _ (by omega), by rw [Fg _ (by omega), i2, fh i i1]⟩⟩
          · by_cases k4 : ∃ i, i < 3 ∧ x = g i
            · obtain ⟨i, i1, i2⟩ := k4
              have hm := (mtd (g 0)).1
              exact ⟨mt (g 0), fun _ => ⟨by have := g4 0 (by omega); omega, by rw [Lg 0 (by omega), i2, fgt i i1]⟩⟩
            · have far : ∀ i, i < 3 → x / 2 ≠ g i / 2 ∧ x / 2 ≠ h i / 2 := fun i hi => by
                have m1 := mtd (g i)
                have m2 := mtd (h i)
                refine ⟨fun e9 => ?_, fun e9 => ?_⟩
                · rcases (show x = g i ∨ x = mt (g i) by omega) with h9 | h9
                  · exact k4 ⟨i, hi, h9⟩
                  · exact k2 ⟨i, hi, h9⟩
                · rcases (show x = h i ∨ x = mt (h i) by omega) with h9 | h9
                  · exact k3 ⟨i, hi, h9⟩
                  · exact k1 ⟨i, hi, h9⟩
              exact ⟨x, fun _ => ⟨hx, by rw [Lo x (fun i hi => ⟨fun e => k1 ⟨i, hi, e⟩, fun e => k2 ⟨i, hi, e⟩⟩), τo x far]⟩⟩
    · exact ⟨0, fun h9 => absurd h9 hx⟩
  obtain ⟨χ, hχ⟩ := Classical.skolem.mp ch
  -- parts
  have tv : ∀ v e, v < 2 * c → e < 2 → τ (2 * v + e) / 2 = τ (2 * v) / 2 := by
    intro v e hvl he
    rcases (show e = 0 ∨ e = 1 by omega) with rfl | rfl
    · rfl
    · by_cases k : ∃ i, i < 3 ∧ (v = g i / 2 ∨ v = h i / 2)
      · obtain ⟨i, i1, i2⟩ := k
        have m1 := mtd (g i)
        have m2 := mtd (h i)
        have q1 := τg i i1
        have q2 := τmg i i1
        have q3 := τh i i1
        have q4 := τmh i i1
        rcases i2 with i2 | i2
        · rcases (show g i = 2 * v ∧ mt (g i) = 2 * v + 1 ∨ g i = 2 * v + 1 ∧ mt (g i) = 2 * v by omega) with ⟨e1, e2⟩ | ⟨e1, e2⟩
          · rw [e1] at q1
            rw [e2] at q2
            rw [q1, q2, m2.1]
          · rw [e1] at q1
            rw [e2] at q2
            rw [q1, q2, m2.1]
        · rcases (show h i = 2 * v ∧ mt (h i) = 2 * v + 1 ∨ h i = 2 * v + 1 ∧ mt (h i) = 2 * v by omega) with ⟨e1, e2⟩ | ⟨e1, e2⟩
          · rw [e1] at q3
            rw [e2] at q4
            rw [q3, q4, m1.1]
          · rw [e1] at q3
            rw [e2] at q4
            rw [q3, q4, m1.1]
      · have far : ∀ e, e < 2 → ∀ i, i < 3 → (2 * v + e) / 2 ≠ g i / 2 ∧ (2 * v + e) / 2 ≠ h i / 2 := fun e he i hi => by
          rw [show (2 * v + e) / 2 = v by omega]
          exact ⟨fun e9 => k ⟨i, hi, Or.inl e9⟩, fun e9 => k ⟨i, hi, Or.inr e9⟩⟩
        rw [τo (2 * v + 1) (far 1 (by omega)), τo (2 * v) (far 0 (by omega))]
        omega
  -- a dart and the one across are in one part
  have nb : ∀ d, d < 4 * c → rch c S' (d / 2) (pn_al S' d / 2) := fun d hd => by
    unfold pn_al
    by_cases e : d % 2 = 0
    · rw [if_pos e, show (2 * S'.1 (d / 2) + 1) / 2 = S'.1 (d / 2) by omega]
      exact rch_n (rch_rf _ _ _) (by omega)
    · rw [if_neg e, show 2 * S'.2 (d / 2) / 2 = S'.2 (d / 2) by omega]
      obtain ⟨q1, q2, q3, q4⟩ := hv' (d / 2) (by omega)
      have := rch_n (rch_rf c S' (S'.2 (d / 2))) q2
      rw [q4] at this
      exact rch_sy hv' q2 this
  have in1 : ∀ i, i < 3 → rch c S' (h i / 2) (g i / 2) := fun i hi => by
    have hl : mt (h i) < 4 * c := by have := h4 i hi; have := (mtd (h i)).1; omega
    have := nb (mt (h i)) hl
    rw [hal _ hl, τmh i hi, ← hh i hi, τh i hi, mh2, mg2] at this
    exact this
  have same : ∀ v, v < 2 * c → rch c S' v (τ (2 * v) / 2) := by
    intro v hvl
    by_cases k : ∃ i, i < 3 ∧ (v = g i / 2 ∨ v = h i / 2)
    · obtain ⟨i, i1, i2⟩ := k
      have m1 := mtd (g i)
      have m2 := mtd (h i)
      have hgl := g4 i i1
      have hhl := h4 i i1
      have back := rch_sy hv' (show h i / 2 < 2 * c by omega) (in1 i i1)
      rcases i2 with i2 | i2
      · have e9 : τ (2 * v) / 2 = h i / 2 := by
          rcases (show g i = 2 * v ∨ mt (g i) = 2 * v by omega) with e1 | e1
          · rw [← e1, τg i i1, m2.1]
          · rw [← e1, τmg i i1]
        rw [e9, i2]
        exact back
      · have e9 : τ (2 * v) / 2 = g i / 2 := by
          rcases (show h i = 2 * v ∨ mt (h i) = 2 * v by omega) with e1 | e1
          · rw [← e1, τh i i1, m1.1]
          · rw [← e1, τmh i i1]
        rw [e9, i2]
        exact in1 i i1
    · have : τ (2 * v) = 2 * v := τo _ (fun i hi => by
        rw [show 2 * v / 2 = v by omega]
        exact ⟨fun e9 => k ⟨i, hi, Or.inl e9⟩, fun e9 => k ⟨i, hi, Or.inr e9⟩⟩)
      rw [this, show 2 * v / 2 = v by omega]
      exact rch_rf _ _ _
  have keep : ∀ r v, rch c S r v → rch c S' r v := fun r v hr => hr (fun v => rch c S' r v) (rch_rf _ _ _) (fun j hj hp => by
    obtain ⟨q1, q2, q3, q4⟩ := hv j hj
    have t1 := τl (2 * j) (by omega)
    have k1 := nb (τ (2 * j)) t1
    rw [hal _ t1, τi, pn_al0, tv _ 1 q1 (by omega)] at k1
    exact rch_tr hp (rch_tr (same j hj) (rch_tr k1 (rch_sy hv' q1 (same _ q1))))) (fun j hj hp => rch_m hp hj)
  refine ⟨R, fun v hvl => ?_, f', X.map χ, inv, fun x hx => ?_, ?_, by rw [List.length_map]; exact f4⟩
  · obtain ⟨r, r1, r2, r3⟩ := hR v hvl
    exact ⟨r, r1, r2, keep r v r3⟩
  · obtain ⟨q, q1, q2⟩ := List.mem_map.mp hx
    rw [← q2]
    exact (hχ q (f2 q q1)).1
  · unfold pm_dv
    rw [List.map_map]
    have : X.map (f' ∘ χ) = X.map f := List.map_congr_left (fun q hq => (hχ q (f2 q hq)).2)
    rw [this]
    exact f3
end R3
end
section
/-! 99zzzzzzzzv.pmv -/
/-! every move of a plane net makes plane nets -/
theorem pl_cg {T T' : ow_NT} (e1 : T'.1 = T.1) (hN : ∀ k, k < 2 * T.1 → T'.2.2.1.1 k = T.2.2.1.1 k) (hG : ∀ x, x < T.1 → T'.2.2.2 x = T.2.2.2 x) (hv : vn T.1 T.2.2.1) (hv' : vn T'.1 T'.2.2.1) (hc : T.1 ≤ 12) : nt_plane T' = true ↔ nt_plane T = true := by
  rw [plane_iff hv hc, plane_iff hv' (by omega)]
  rw [e1] at hv' ⊢
  exact pl_hm (ψA := fun v => v) hv' hv (fun v hvl => ⟨hvl, hN v hvl, rfl, by
    show stG T'.2.2.2 v = stG T.2.2.2 v
    unfold stG
    rw [hG _ (by omega)]⟩) (fun u v _ _ e => e)
section PMV
variable {R Q : ow_NT}
theorem cpyN {k : Nat} (hk : k < 2 * R.1) : (nt_copy Q R).2.2.1.1 k = R.2.2.1.1 k ∧ (nt_copy Q R).2.2.1.2 k = R.2.2.1.2 k := by
  have key : ∀ (f g : Nat → Nat), va_cpy f g 0 0 (2 * R.1) k = f k := fun f g => by
    rw [pk_cpy_in (Nat.zero_le k) (by omega), Nat.zero_add, Nat.sub_zero]
  exact ⟨key _ _, key _ _⟩
theorem cpyG {x : Nat} (hx : x < R.1) : (nt_copy Q R).2.2.2 x = R.2.2.2 x := by
  show va_cpy R.2.2.2 Q.2.2.2 0 0 R.1 x = _
  rw [pk_cpy_in (Nat.zero_le x) (by omega), Nat.zero_add, Nat.sub_zero]
theorem pl_copy (hv : vn R.1 R.2.2.1) (hc : R.1 ≤ 12) : nt_plane (nt_copy Q R) = true ↔ nt_plane R = true := pl_cg rfl (fun k hk => (cpyN hk).1) (fun x hx => cpyG hx) hv (vn_copy hv) hc
theorem pm1_copy (h : pm1 R) : pm1 (nt_copy Q R) := fun x hx => by
  have hx : x < R.1 := hx
  rw [cpyG hx]
  exact h x hx
/-- a kink alone -/
theorem fig8 {b : Nat → Bool} (hb : pn_fl b) : vn 1 (fun v => 1 - v, fun v => 1 - v) ∧ pn_pl 1 (fun v => 1 - v, fun v => 1 - v) b := by
  have hv : vn 1 (fun v => 1 - v, fun v => 1 - v) := fun k hk => by
    show 1 - k < 2 * 1 ∧ 1 - k < 2 * 1 ∧ 1 - (1 - k) = k ∧ 1 - (1 - k) = k
    omega
  refine ⟨hv, ?_⟩
  have hm0 := hb 0
  have hm1 : mt 0 = 1 := rfl
  rw [hm1] at hm0
  refine ⟨[0], fun v hvl => ⟨0, List.mem_singleton.mpr rfl, by omega, ?_⟩, ?_⟩
  · rcases (show v = 0 ∨ v = 1 by omega) with rfl | rfl
    · exact rch_rf _ _ _
    · exact rch_m (rch_rf _ _ _) (by omega)
  · have key : ∀ d, d < 4 → pn_ph (fun v => 1 - v, fun v => 1 - v) b d = if d = 0 then pn_rt b 3 else if d = 1 then pn_rt b 2 else if d = 2 then pn_rt b 1 else pn_rt b 0 := by
      intro d hd
      rcases (show d = 0 ∨ d = 1 ∨ d = 2 ∨ d = 3 by omega) with rfl | rfl | rfl | rfl <;> rfl
    have r0 := pn_at0 (b := b) 0
    have r1 := pn_at1 (b := b) 0
    have r2 := pn_at0 (b := b) 1
    have r3 := pn_at1 (b := b) 1
    cases e : b 0 with
    | true =>
      rw [e] at hm0 r0 r1
      have hm0 : b 1 = false := hm0
      rw [hm0] at r2 r3
      have q0 : pn_rt b 0 = 3 := r0
      have q1 : pn_rt b 1 = 2 := r1
      have q2 : pn_rt b 2 = 0 := r2
      have q3 : pn_rt b 3 = 1 := r3
      refine ⟨fun d => if d = 1 then 0 else d, [0, 2, 3], fun d hd => ?_, fun x hx => ?_, ?_, Nat.le_refl _⟩
      · rw [key d hd, q0, q1, q2, q3]
        rcases (show d = 0 ∨ d = 1 ∨ d = 2 ∨ d = 3 by omega) with rfl | rfl | rfl | rfl <;> rfl
      · simp at hx
        omega
      · show [0, 2, 3].Nodup
        decide
    | false =>
      rw [e] at hm0 r0 r1
      have hm0 : b 1 = true := hm0
      rw [hm0] at r2 r3
      have q0 : pn_rt b 0 = 2 := r0
      have q1 : pn_rt b 1 = 3 := r1
      have q2 : pn_rt b 2 = 1 := r2
      have q3 : pn_rt b 3 = 0 := r3
      refine ⟨fun d => if d = 3 then 2 else d, [0, 1, 2], fun d hd => ?_, fun x hx => ?_, ?_, Nat.le_refl _⟩
      · rw [key d hd, q0, q1, q2, q3]
        rcases (show d = 0 ∨ d = 1 ∨ d = 2 ∨ d = 3 by omega) with rfl | rfl | rfl | rfl <;> rfl
      · simp at hx
        omega
      · show [0, 1, 2].Nodup
        decide
/-- a net and a kink of two new visits beside it -/
theorem pl_beside {c : Nat} {S S' : ow_NP} {G G' : Nat → Int32} {u o : Nat} (hv : vn c S) (hv' : vn (c + 1) S') (hp : pn_pl c S (stG G)) (hN : ∀ k, k < 2 * c → S'.1 k = S.1 k) (hG : ∀ x, x < c → G' x = G x) (huo : u = 2 * c ∧ o = 2 * c + 1 ∨ u = 2 * c + 1 ∧ o = 2 * c) (h1 : S'.1 u = o) (h2 : S'.1 o = u) : pn_pl (c + 1) S' (stG G') := by
  have hfl : pn_fl (fun v => stG G' (2 * c + v)) := fun v => by
    have : 2 * c + mt v = mt (2 * c + v) := by
      unfold mt
      split <;> split <;> omega
    show stG G' (2 * c + mt v) = !stG G' (2 * c + v)
    rw [this]
    exact stG_fl _
  obtain ⟨f1, f2⟩ := fig8 hfl
  refine un_sup (ψA := fun v => v) (ψB := fun v => 2 * c + v) hv' hv f1 (fun v hvl => ⟨show v < 2 * (c + 1) by omega, hN v hvl, rfl, ?_⟩) (fun v hvl => ⟨show 2 * c + v < 2 * (c + 1) by omega, ?_, ?_, rfl⟩) ⟨rfl, fun a d _ _ e => e, fun a d _ _ e => Nat.add_left_cancel e, fun a d ha hd e => by have e : a = 2 * c + d := e; omega⟩ hp f2
  · show stG G' v = stG G v
    unfold stG
    rw [hG _ (by omega)]
  · show S'.1 (2 * c + v) = 2 * c + (1 - v)
    rcases (show v = 0 ∨ v = 1 by omega) with rfl | rfl
    · rcases huo with ⟨a1, a2⟩ | ⟨a1, a2⟩
      · rw [a1] at h1
        rw [show 2 * c + 0 = 2 * c from rfl, h1, a2]
      · rw [a2] at h2
        rw [show 2 * c + 0 = 2 * c from rfl, h2, a1]
    · rcases huo with ⟨a1, a2⟩ | ⟨a1, a2⟩
      · rw [a2] at h2
        rw [h2, a1]
        rfl
      · rw [a1] at h1
        rw [h1, a2]
        rfl
  · show mt (2 * c + v) = 2 * c + mt v
    unfold mt
    split <;> split <;> omega
/-- a kink comes into a gap or a circle -/
theorem pl_comes {c : Nat} {S : ow_NP} {G G' : Nat → Int32} {u o : Nat} (af : Option Nat) (ha : ∀ a, af = some a → a < 2 * c) (hv : vn c S) (hp : pn_pl c S (stG G)) (hG : ∀ x, x < c → G' x = G x) (huo : u = 2 * c ∧ o = 2 * c + 1 ∨ u = 2 * c + 1 ∧ o = 2 * c) (k : Nat) (hv' : vn (c + 1) (nt_pair (c + 1, k, S, G') af u o).2.2.1) : pn_pl (c + 1) (nt_pair (c + 1, k, S, G') af u o).2.2.1 (stG G') := by
  cases af with
  | none =>
    have hv' : vn (c + 1) (np_putBehind (nl S u u) u o) := hv'
    show pn_pl (c + 1) (np_putBehind (nl S u u) u o) (stG G')
    refine pl_beside hv hv' hp (fun j hj => ?_) hG huo ?_ ?_
    · rw [put_1, if_neg (by omega), if_neg (by omega), nl_1, if_neg (by omega)]
    · rw [put_1, if_neg (by omega), if_pos rfl]
    · rw [put_1, if_pos rfl, nl_1, if_pos rfl]
  | some a =>
    have hal := ha a rfl
    have hv' : vn (c + 1) (np_putBehind (np_putBehind S a u) u o) := hv'
    show pn_pl (c + 1) (np_putBehind (np_putBehind S a u) u o) (stG G')
    have hol : o < 2 * (c + 1) := by omega
    have hal2 : a < 2 * (c + 1) := by omega
    have nx : ∀ j, (np_putBehind (np_putBehind S a u) u o).1 j = if j = o then S.1 a else if j = u then o else if j = a then u else S.1 j := fun j => by
      rw [put_1, put_1, put_1, if_pos rfl]
      by_cases e1 : j = o
      · rw [if_pos e1, if_pos e1]
      · rw [if_neg e1, if_neg e1]
        by_cases e2 : j = u
        · rw [if_pos e2, if_pos e2]
        · rw [if_neg e2, if_neg e2, if_neg e2]
    generalize hS' : np_putBehind (np_putBehind S a u) u o = S' at *
    have hv2 := vn_exchange hv' hal2 hol
    have hSl := (hv a hal).1
    have key : pn_pl (c + 1) (np_exchange S' a o) (stG G') := by
      refine pl_beside hv hv2 hp (fun j hj => ?_) hG huo ?_ ?_
      · rw [np_exchange_1, if_neg (by omega)]
        by_cases e : j = a
        · rw [if_pos e, nx, if_pos rfl, e]
        · rw [if_neg e, nx, if_neg (by omega), if_neg (by omega), if_neg e]
      · rw [np_exchange_1, if_neg (by omega), if_neg (by omega), nx, if_neg (by omega), if_pos rfl]
      · rw [np_exchange_1, if_pos rfl, nx, if_neg (by omega), if_neg (by omega), if_pos rfl]
    rw [← np_exchange_twice hv' hal2 hol]
    refine pn_exch hv2 stG_fl key hal2 hol (by omega) (Or.inl (fun hr => ?_))
    -- the new visits lie apart
    have e1 : (np_exchange S' a o).1 u = o := by rw [np_exchange_1, if_neg (by omega), if_neg (by omega), nx, if_neg (by omega), if_pos rfl]
    have e2 : (np_exchange S' a o).1 o = u := by rw [np_exchange_1, if_pos rfl, nx, if_neg (by omega), if_neg (by omega), if_pos rfl]
    have hr2 := rch_sy hv2 hal2 hr
    have := hr2 (fun j => j = u ∨ j = o) (Or.inr rfl) (fun j _ hj => by
      rcases hj with rfl | rfl
      · exact Or.inr e1
      · exact Or.inl e2) (fun j _ hj => by
      rcases huo with ⟨a1, a2⟩ | ⟨a1, a2⟩
      · rcases hj with rfl | rfl
        · rw [a1, a2]; exact Or.inr (mt_ev c)
        · rw [a1, a2]; exact Or.inl (mt_od c)
      · rcases hj with rfl | rfl
        · rw [a1, a2]; exact Or.inr (mt_od c)
        · rw [a1, a2]; exact Or.inl (mt_ev c))
    omega
/-! three swaps -/
def sw3 (v0 w0 v1 w1 v2 w2 k : Nat) : Nat := np_sw (np_sw (np_sw k v0 w0) v1 w1) v2 w2
theorem sw3_at {v0 w0 v1 w1 v2 w2 : Nat} (hd : v0 ≠ w0 ∧ v0 ≠ v1 ∧ v0 ≠ w1 ∧ v0 ≠ v2 ∧ v0 ≠ w2 ∧ w0 ≠ v1 ∧ w0 ≠ w1 ∧ w0 ≠ v2 ∧ w0 ≠ w2 ∧ v1 ≠ w1 ∧ v1 ≠ v2 ∧ v1 ≠ w2 ∧ w1 ≠ v2 ∧ w1 ≠ w2 ∧ v2 ≠ w2) (k : Nat) : sw3 v0 w0 v1 w1 v2 w2 k = (if k = v0 then w0 else if k = w0 then v0 else if k = v1 then w1 else if k = w1 then v1 else if k = v2 then w2 else if k = w2 then v2 else k) ∧ np_sw (np_sw (np_sw k v2 w2) v1 w1) v0 w0 = (if k = v0 then w0 else if k = w0 then v0 else if k = v1 then w1 else if k = w1 then v1 else if k = v2 then w2 else if k = w2 then v2 else k) := by
  obtain ⟨h1, h2, h3, h4, h5, h6, h7, h8, h9, h10, h11, h12, h13, h14, h15⟩ := hd
  unfold sw3
  by_cases k0 : k = v0
  · subst k0
    rw [if_pos rfl, np_sw_v, np_sw_o h6 h7, np_sw_o h8 h9, np_sw_o h4 h5, np_sw_o h2 h3, np_sw_v]
    exact ⟨rfl, rfl⟩
  · rw [if_neg k0]
    by_cases k1 : k = w0
    · subst k1
      rw [if_pos rfl, np_sw_w, np_sw_o h2 h3, np_sw_o h4 h5, np_sw_o h8 h9, np_sw_o h6 h7, np_sw_w]
      exact ⟨rfl, rfl⟩
    · rw [if_neg k1, np_sw_o k0 k1]
      by_cases k2 : k = v1
      · subst k2
        rw [if_pos rfl, np_sw_v, np_sw_o h13 h14, np_sw_o h11 h12, np_sw_v, np_sw_o (fun e => h3 e.symm) (fun e => h7 e.symm)]
        exact ⟨rfl, rfl⟩
      · rw [if_neg k2]
        by_cases k3 : k = w1
        · subst k3
          rw [if_pos rfl, np_sw_w, np_sw_o h11 h12, np_sw_o h13 h14, np_sw_w, np_sw_o (fun e => h2 e.symm) (fun e => h6 e.symm)]
          exact ⟨rfl, rfl⟩
        · rw [if_neg k3, np_sw_o k2 k3]
          by_cases k4 : k = v2
          · subst k4
            rw [if_pos rfl, np_sw_v, np_sw_o (fun e => h12 e.symm) (fun e => h14 e.symm), np_sw_o (fun e => h5 e.symm) (fun e => h9 e.symm)]
            exact ⟨rfl, rfl⟩
          · rw [if_neg k4]
            by_cases k5 : k = w2
            · subst k5
              rw [if_pos rfl, np_sw_w, np_sw_o (fun e => h11 e.symm) (fun e => h13 e.symm), np_sw_o (fun e => h4 e.symm) (fun e => h8 e.symm)]
              exact ⟨rfl, rfl⟩
            · rw [if_neg k5, np_sw_o k4 k5, np_sw_o k2 k3, np_sw_o k0 k1]
              exact ⟨rfl, rfl⟩
end PMV
end
section
/-! 99zzzzzzzzw.pmv2 -/
/-! every move of a plane net makes plane nets: all kinds -/
theorem mt_self (k : Nat) : mt k ≠ k := by
  unfold mt
  split <;> omega
theorem six_ne {H0 H1 H2 x0 x1 x2 s0 s1 s2 w0 w1 w2 : Nat} (D01 : H0 / 2 ≠ H1 / 2) (D02 : H0 / 2 ≠ H2 / 2) (D12 : H1 / 2 ≠ H2 / 2) (m0 : x0 / 2 = H0 / 2) (m1 : x1 / 2 = H1 / 2) (m2 : x2 / 2 = H2 / 2) (n0 : x0 ≠ H0) (n1 : x1 ≠ H1) (n2 : x2 ≠ H2) (v0 : x2 = s0 ∧ H0 = w0 ∨ x2 = w0 ∧ H0 = s0) (v1 : x0 = s1 ∧ H1 = w1 ∨ x0 = w1 ∧ H1 = s1) (v2 : x1 = s2 ∧ H2 = w2 ∨ x1 = w2 ∧ H2 = s2) : s0 ≠ w0 ∧ s0 ≠ s1 ∧ s0 ≠ w1 ∧ s0 ≠ s2 ∧ s0 ≠ w2 ∧ w0 ≠ s1 ∧ w0 ≠ w1 ∧ w0 ≠ s2 ∧ w0 ≠ w2 ∧ s1 ≠ w1 ∧ s1 ≠ s2 ∧ s1 ≠ w2 ∧ w1 ≠ s2 ∧ w1 ≠ w2 ∧ s2 ≠ w2 := by
  have a1 : H0 ≠ H1 := fun e => D01 (by rw [e])
  have a2 : H0 ≠ H2 := fun e => D02 (by rw [e])
  have a3 : H1 ≠ H2 := fun e => D12 (by rw [e])
  have a4 : x0 ≠ x1 := fun e => D01 (by rw [← m0, ← m1, e])
  have a5 : x0 ≠ x2 := fun e => D02 (by rw [← m0, ← m2, e])
  have a6 : x1 ≠ x2 := fun e => D12 (by rw [← m1, ← m2, e])
  have a7 : H0 ≠ x1 := fun e => D01 (by rw [← m1, e])
  have a8 : H0 ≠ x2 := fun e => D02 (by rw [← m2, e])
  have a9 : H1 ≠ x0 := fun e => D01 (by rw [← m0, e])
  have b1 : H1 ≠ x2 := fun e => D12 (by rw [← m2, e])
  have b2 : H2 ≠ x0 := fun e => D02 (by rw [← m0, e])
  have b3 : H2 ≠ x1 := fun e => D12 (by rw [← m1, e])
  rcases v0 with ⟨rfl, rfl⟩ | ⟨rfl, rfl⟩ <;> rcases v1 with ⟨rfl, rfl⟩ | ⟨rfl, rfl⟩ <;> rcases v2 with ⟨rfl, rfl⟩ | ⟨rfl, rfl⟩ <;> (refine ⟨?_, ?_, ?_, ?_, ?_, ?_, ?_, ?_, ?_, ?_, ?_, ?_, ?_, ?_, ?_⟩ <;> first | assumption | (exact Ne.symm (by assumption)))
section PM2
variable {R : ow_NT}
theorem al_end {s : Nat} (hv : vn R.1 R.2.2.1) (hs : s < 4 * R.1) : pn_al R.2.2.1 (sdD R.2.2.1 s) = if s % 2 = 0 then 2 * fc_end R.2.2.1.1 s + 1 else 2 * fc_end R.2.2.1.1 s := by
  unfold sdD fc_end
  by_cases e : s % 2 = 0
  · rw [if_pos e, if_pos e, if_pos e]
    unfold pn_al
    rw [if_pos e]
  · rw [if_neg e, if_neg e, if_neg e, pn_al1, (hv (s / 2) (by omega)).2.2.1]
/-- the two visits of a side, as darts -/
theorem side_vw {s : Nat} (hv : vn R.1 R.2.2.1) (hs : s < 4 * R.1) : (s % 2 = 0 ∧ sdD R.2.2.1 s = 2 * (s / 2) ∧ pn_al R.2.2.1 (sdD R.2.2.1 s) = 2 * R.2.2.1.1 (s / 2) + 1) ∨ (s % 2 = 1 ∧ sdD R.2.2.1 s = 2 * R.2.2.1.1 (s / 2) + 1 ∧ pn_al R.2.2.1 (sdD R.2.2.1 s) = 2 * (s / 2)) := by
  rw [al_end hv hs]
  unfold sdD fc_end
  by_cases e : s % 2 = 0
  · rw [if_pos e, if_pos e, if_pos e]
    exact Or.inl ⟨e, by omega, rfl⟩
  · rw [if_neg e, if_neg e, if_neg e]
    exact Or.inr ⟨by omega, rfl, rfl⟩
theorem swap_3 {c : Nat} {S : ow_NP} {v0 w0 v1 w1 v2 w2 : Nat} (hv : vn c S) (l : v0 < 2 * c ∧ w0 < 2 * c ∧ v1 < 2 * c ∧ w1 < 2 * c ∧ v2 < 2 * c ∧ w2 < 2 * c) {k : Nat} (hk : k < 2 * c) : (np_swap (np_swap (np_swap S v0 w0) v1 w1) v2 w2).1 k = sw3 v0 w0 v1 w1 v2 w2 (S.1 (np_sw (np_sw (np_sw k v2 w2) v1 w1) v0 w0)) ∧ (np_swap (np_swap (np_swap S v0 w0) v1 w1) v2 w2).2 k = sw3 v0 w0 v1 w1 v2 w2 (S.2 (np_sw (np_sw (np_sw k v2 w2) v1 w1) v0 w0)) := by
  obtain ⟨l1, l2, l3, l4, l5, l6⟩ := l
  have h0 : vD (fun k => k < 2 * c) S := vD_vn.mpr hv
  have h1 := vD_swap h0 l1 l2
  have h2 := vD_swap h1 l3 l4
  have k2 : np_sw k v2 w2 < 2 * c := np_sw_D (D := fun k => k < 2 * c) l5 l6 hk
  have k1 : np_sw (np_sw k v2 w2) v1 w1 < 2 * c := np_sw_D (D := fun k => k < 2 * c) l3 l4 k2
  unfold sw3
  rw [np_swap_1 h2 l5 l6 hk, np_swap_1 h1 l3 l4 k2, np_swap_1 h0 l1 l2 k1, np_swap_2 h2 l5 l6 hk, np_swap_2 h1 l3 l4 k2, np_swap_2 h0 l1 l2 k1]
  exact ⟨rfl, rfl⟩
theorem pl_pass (hv : vn R.1 R.2.2.1) (hc : R.1 ≤ 12) (hp : nt_plane R = true) {s0 s1 s2 : Nat} (l0 : s0 < 4 * R.1) (e1 : fc_on R.2.2.1 R.2.2.2 s0 = s1) (e2 : fc_on R.2.2.1 R.2.2.2 s1 = s2) (e3 : fc_on R.2.2.1 R.2.2.2 s2 = s0) (d1 : fc_end R.2.2.1.1 s0 / 2 ≠ fc_end R.2.2.1.1 s1 / 2) (d2 : fc_end R.2.2.1.1 s1 / 2 ≠ fc_end R.2.2.1.1 s2 / 2) (d3 : fc_end R.2.2.1.1 s0 / 2 ≠ fc_end R.2.2.1.1 s2 / 2) : vn R.1 (np_swap (np_swap (np_swap R.2.2.1 (s0 / 2) (R.2.2.1.1 (s0 / 2))) (s1 / 2) (R.2.2.1.1 (s1 / 2))) (s2 / 2) (R.2.2.1.1 (s2 / 2))) ∧ pn_pl R.1 (np_swap (np_swap (np_swap R.2.2.1 (s0 / 2) (R.2.2.1.1 (s0 / 2))) (s1 / 2) (R.2.2.1.1 (s1 / 2))) (s2 / 2) (R.2.2.1.1 (s2 / 2))) (stG R.2.2.2) := by
  have hpl := (plane_iff hv hc).mp hp
  have l1 : s1 < 4 * R.1 := by rw [← e1]; exact fc_on_vn hv _ l0
  have l2 : s2 < 4 * R.1 := by rw [← e2]; exact fc_on_vn hv _ l1
  have hvl : ∀ s, s < 4 * R.1 → R.2.2.1.1 (s / 2) < 2 * R.1 := fun s hs => (hv _ (by omega)).1
  have a0 := hvl s0 l0
  have a1 := hvl s1 l1
  have a2 := hvl s2 l2
  have hvS : vn R.1 (np_swap (np_swap (np_swap R.2.2.1 (s0 / 2) (R.2.2.1.1 (s0 / 2))) (s1 / 2) (R.2.2.1.1 (s1 / 2))) (s2 / 2) (R.2.2.1.1 (s2 / 2))) := vD_vn.mp (vD_swap (vD_swap (vD_swap (vD_vn.mpr hv) (show s0 / 2 < 2 * R.1 by omega) a0) (show s1 / 2 < 2 * R.1 by omega) a1) (show s2 / 2 < 2 * R.1 by omega) a2)
  refine ⟨hvS, ?_⟩
  -- the darts
  let sd : Nat → Nat := fun i => if i = 0 then s0 else if i = 1 then s1 else s2
  have sdl : ∀ i, sd i < 4 * R.1 := fun i => by
    show (if i = 0 then s0 else if i = 1 then s1 else s2) < 4 * R.1
    split
    · exact l0
    · split
      · exact l1
      · exact l2
  have son : ∀ i, i < 3 → fc_on R.2.2.1 R.2.2.2 (sd i) = sd ((i + 1) % 3) := fun i hi => by
    rcases (show i = 0 ∨ i = 1 ∨ i = 2 by omega) with rfl | rfl | rfl
    · exact e1
    · exact e2
    · exact e3
  have sdis : ∀ i j, i < 3 → j < 3 → i ≠ j → fc_end R.2.2.1.1 (sd i) / 2 ≠ fc_end R.2.2.1.1 (sd j) / 2 := fun i j hi hj hne => by
    rcases (show i = 0 ∨ i = 1 ∨ i = 2 by omega) with rfl | rfl | rfl <;> rcases (show j = 0 ∨ j = 1 ∨ j = 2 by omega) with rfl | rfl | rfl
    · exact absurd rfl hne
    · exact d1
    · exact d3
    · exact fun e => d1 e.symm
    · exact absurd rfl hne
    · exact d2
    · exact fun e => d3 e.symm
    · exact fun e => d2 e.symm
    · exact absurd rfl hne
  let g : Nat → Nat := fun i => sdD R.2.2.1 (sd i)
  let h : Nat → Nat := fun i => pn_al R.2.2.1 (g i)
  have hq : ∀ i, h i / 2 = fc_end R.2.2.1.1 (sd i) := fun i => by
    show pn_al R.2.2.1 (sdD R.2.2.1 (sd i)) / 2 = _
    rw [al_end hv (sdl i)]
    split <;> omega
  have hg : ∀ i, i < 3 → pn_rt (stG R.2.2.2) (h i) = g ((i + 1) % 3) := fun i hi => by
    have := sd_on (G := R.2.2.2) hv (sdl i)
    rw [son i hi] at this
    exact this.symm
  have dis : ∀ i j, i < 3 → j < 3 → i ≠ j → h i / 4 ≠ h j / 4 := fun i j hi hj hne e => sdis i j hi hj hne (by rw [← hq i, ← hq j]; omega)
  have gv : ∀ i, i < 3 → g ((i + 1) % 3) / 2 = mt (h i / 2) := fun i hi => by rw [← hg i hi, pn_rt_h]
  -- the six visits differ
  have V : ∀ i, g i / 2 = sd i / 2 ∧ h i / 2 = R.2.2.1.1 (sd i / 2) ∨ g i / 2 = R.2.2.1.1 (sd i / 2) ∧ h i / 2 = sd i / 2 := fun i => by
    rcases side_vw hv (sdl i) with ⟨-, q1, q2⟩ | ⟨-, q1, q2⟩
    · left
      show sdD R.2.2.1 (sd i) / 2 = _ ∧ pn_al R.2.2.1 (sdD R.2.2.1 (sd i)) / 2 = _
      rw [q2, q1]
      omega
    · right
      show sdD R.2.2.1 (sd i) / 2 = _ ∧ pn_al R.2.2.1 (sdD R.2.2.1 (sd i)) / 2 = _
      rw [q2, q1]
      omega
  have g1 := gv 0 (by omega)
  have g2 := gv 1 (by omega)
  have g0 := gv 2 (by omega)
  have g1 : g 1 / 2 = mt (h 0 / 2) := g1
  have g2 : g 2 / 2 = mt (h 1 / 2) := g2
  have g0 : g 0 / 2 = mt (h 2 / 2) := g0
  have D01 := dis 0 1 (by omega) (by omega) (by omega)
  have D02 := dis 0 2 (by omega) (by omega) (by omega)
  have D12 := dis 1 2 (by omega) (by omega) (by omega)
  have m0 := mtd (h 0 / 2)
  have m1 := mtd (h 1 / 2)
  have m2 := mtd (h 2 / 2)
  have v0 := V 0
  have v1 := V 1
  have v2 := V 2
  have hd : s0 / 2 ≠ R.2.2.1.1 (s0 / 2) ∧ s0 / 2 ≠ s1 / 2 ∧ s0 / 2 ≠ R.2.2.1.1 (s1 / 2) ∧ s0 / 2 ≠ s2 / 2 ∧ s0 / 2 ≠ R.2.2.1.1 (s2 / 2) ∧ R.2.2.1.1 (s0 / 2) ≠ s1 / 2 ∧ R.2.2.1.1 (s0 / 2) ≠ R.2.2.1.1 (s1 / 2) ∧ R.2.2.1.1 (s0 / 2) ≠ s2 / 2 ∧ R.2.2.1.1 (s0 / 2) ≠ R.2.2.1.1 (s2 / 2) ∧ s1 / 2 ≠ R.2.2.1.1 (s1 / 2) ∧ s1 / 2 ≠ s2 / 2 ∧ s1 / 2 ≠ R.2.2.1.1 (s2 / 2) ∧ R.2.2.1.1 (s1 / 2) ≠ s2 / 2 ∧ R.2.2.1.1 (s1 / 2) ≠ R.2.2.1.1 (s2 / 2) ∧ s2 / 2 ≠ R.2.2.1.1 (s2 / 2) := by
    have v0 : g 0 / 2 = s0 / 2 ∧ h 0 / 2 = R.2.2.1.1 (s0 / 2) ∨ g 0 / 2 = R.2.2.1.1 (s0 / 2) ∧ h 0 / 2 = s0 / 2 := v0
    have v1 : g 1 / 2 = s1 / 2 ∧ h 1 / 2 = R.2.2.1.1 (s1 / 2) ∨ g 1 / 2 = R.2.2.1.1 (s1 / 2) ∧ h 1 / 2 = s1 / 2 := v1
    have v2 : g 2 / 2 = s2 / 2 ∧ h 2 / 2 = R.2.2.1.1 (s2 / 2) ∨ g 2 / 2 = R.2.2.1.1 (s2 / 2) ∧ h 2 / 2 = s2 / 2 := v2
    rw [g0] at v0
    rw [g1] at v1
    rw [g2] at v2
    have E9 : ∀ {x y : Nat}, x / 4 ≠ y / 4 → x / 2 / 2 ≠ y / 2 / 2 := fun h9 e9 => h9 (by rw [Nat.div_div_eq_div_mul, Nat.div_div_eq_div_mul] at e9; exact e9)
    exact six_ne (E9 D01) (E9 D02) (E9 D12) m0.1 m1.1 m2.1 (mt_self _) (mt_self _) (mt_self _) v0 v1 v2
  clear v0 v1 v2 D01 D02 D12 m0 m1 m2 g0 g1 g2
  have W := sw3_at hd
  let tv : Nat → Nat := sw3 (s0 / 2) (R.2.2.1.1 (s0 / 2)) (s1 / 2) (R.2.2.1.1 (s1 / 2)) (s2 / 2) (R.2.2.1.1 (s2 / 2))
  have tvi : ∀ k, np_sw (np_sw (np_sw k (s2 / 2) (R.2.2.1.1 (s2 / 2))) (s1 / 2) (R.2.2.1.1 (s1 / 2))) (s0 / 2) (R.2.2.1.1 (s0 / 2)) = tv k := fun k => (W k).2.trans (W k).1.symm
  have tvtv : ∀ k, tv (tv k) = k := fun k => by
    rw [← tvi (tv k)]
    show np_sw (np_sw (np_sw (np_sw (np_sw (np_sw k _ _) _ _) _ _) _ _) _ _) _ _ = k
    rw [np_sw_i, np_sw_i, np_sw_i]
  have tsd : ∀ i, i < 3 → tv (sd i / 2) = R.2.2.1.1 (sd i / 2) ∧ tv (R.2.2.1.1 (sd i / 2)) = sd i / 2 := fun i hi => by
    have one : tv (sd i / 2) = R.2.2.1.1 (sd i / 2) := by
      obtain ⟨h1, h2, h3, h4, h5, h6, h7, h8, h9, h10, h11, h12, h13, h14, h15⟩ := hd
      rcases (show i = 0 ∨ i = 1 ∨ i = 2 by omega) with rfl | rfl | rfl
      · show sw3 _ _ _ _ _ _ (s0 / 2) = _
        rw [(W _).1, if_pos rfl]
        rfl
      · show sw3 _ _ _ _ _ _ (s1 / 2) = _
        rw [(W _).1, if_neg (fun e => h2 e.symm), if_neg (fun e => h6 e.symm), if_pos rfl]
        rfl
      · show sw3 _ _ _ _ _ _ (s2 / 2) = _
        rw [(W _).1, if_neg (fun e => h4 e.symm), if_neg (fun e => h8 e.symm), if_neg (fun e => h11 e.symm), if_neg (fun e => h13 e.symm), if_pos rfl]
        rfl
    refine ⟨one, ?_⟩
    rw [← one, tvtv]
  clear hd
  have tfar : ∀ k, (∀ i, i < 3 → k ≠ sd i / 2 ∧ k ≠ R.2.2.1.1 (sd i / 2)) → tv k = k := fun k hk => by
    have k0 : k ≠ s0 / 2 ∧ k ≠ R.2.2.1.1 (s0 / 2) := hk 0 (by omega)
    have k1 : k ≠ s1 / 2 ∧ k ≠ R.2.2.1.1 (s1 / 2) := hk 1 (by omega)
    have k2 : k ≠ s2 / 2 ∧ k ≠ R.2.2.1.1 (s2 / 2) := hk 2 (by omega)
    show sw3 _ _ _ _ _ _ k = k
    rw [(W k).1, if_neg k0.1, if_neg k0.2, if_neg k1.1, if_neg k1.2, if_neg k2.1, if_neg k2.2]
  have tlt : ∀ k, k < 2 * R.1 → tv k < 2 * R.1 := fun k hk => by
    show sw3 _ _ _ _ _ _ k < _
    unfold sw3
    exact np_sw_D (D := fun k => k < 2 * R.1) (by omega) a2 (np_sw_D (D := fun k => k < 2 * R.1) (by omega) a1 (np_sw_D (D := fun k => k < 2 * R.1) (by omega) a0 hk))
  refine pl_three (g := g) (h := h) (τ := dM tv) hv hvS stG_fl hpl (fun i _ => sdD_lt hv (sdl i)) (fun i _ => rfl) hg dis (fun d => ?_) (fun i hi => ?_) (fun i hi => ?_) (fun d hfar => ?_) (fun d hdl => ?_) (fun d hdl => ?_)
  · have := dM_h tv d
    unfold dM at this ⊢
    rw [this.1, this.2, tvtv]
    omega
  · obtain ⟨t1, t2⟩ := tsd i hi
    rcases side_vw hv (sdl i) with ⟨-, q1, q2⟩ | ⟨-, q1, q2⟩
    · show dM tv (sdD R.2.2.1 (sd i)) = mt (pn_al R.2.2.1 (sdD R.2.2.1 (sd i)))
      rw [q2, q1, mt_od]
      unfold dM
      rw [show 2 * (sd i / 2) / 2 = sd i / 2 by omega, t1]
      omega
    · show dM tv (sdD R.2.2.1 (sd i)) = mt (pn_al R.2.2.1 (sdD R.2.2.1 (sd i)))
      rw [q2, q1, mt_ev]
      unfold dM
      rw [show (2 * R.2.2.1.1 (sd i / 2) + 1) / 2 = R.2.2.1.1 (sd i / 2) by omega, t2]
      omega
  · obtain ⟨t1, t2⟩ := tsd i hi
    rcases side_vw hv (sdl i) with ⟨-, q1, q2⟩ | ⟨-, q1, q2⟩
    · show dM tv (pn_al R.2.2.1 (sdD R.2.2.1 (sd i))) = mt (sdD R.2.2.1 (sd i))
      rw [q2, q1, mt_ev]
      unfold dM
      rw [show (2 * R.2.2.1.1 (sd i / 2) + 1) / 2 = R.2.2.1.1 (sd i / 2) by omega, t2]
      omega
    · show dM tv (pn_al R.2.2.1 (sdD R.2.2.1 (sd i))) = mt (sdD R.2.2.1 (sd i))
      rw [q2, q1, mt_od]
      unfold dM
      rw [show 2 * (sd i / 2) / 2 = sd i / 2 by omega, t1]
      omega
  · unfold dM
    rw [tfar (d / 2) (fun i hi => ?_)]
    · omega
    · have hf := hfar i hi
      rcases V i with ⟨q1, q2⟩ | ⟨q1, q2⟩
      · rw [q1, q2] at hf
        exact hf
      · rw [q1, q2] at hf
        exact ⟨hf.2, hf.1⟩
  · have := tlt (d / 2) (by omega)
    have h2 := dM_h tv d
    omega
  · have hk : d / 2 < 2 * R.1 := by omega
    obtain ⟨s1, s2⟩ := swap_3 (v0 := s0 / 2) (w0 := R.2.2.1.1 (s0 / 2)) (v1 := s1 / 2) (w1 := R.2.2.1.1 (s1 / 2)) (v2 := s2 / 2) (w2 := R.2.2.1.1 (s2 / 2)) hv ⟨by omega, a0, by omega, a1, by omega, a2⟩ hk
    rw [tvi] at s1 s2
    have q := dM_h tv d
    by_cases e : d % 2 = 0
    · unfold pn_al
      rw [if_pos e, q.1, q.2, if_pos e, s1]
      unfold dM
      rw [show (2 * R.2.2.1.1 (tv (d / 2)) + 1) / 2 = R.2.2.1.1 (tv (d / 2)) by omega]
      show 2 * tv _ + 1 = 2 * tv _ + _
      omega
    · unfold pn_al
      rw [if_neg e, q.1, q.2, if_neg e, s2]
      unfold dM
      rw [show 2 * R.2.2.1.2 (tv (d / 2)) / 2 = R.2.2.1.2 (tv (d / 2)) by omega]
      show 2 * tv _ = 2 * tv _ + _
      omega
end PM2
end
section
/-! 99zzzzzzzzx.pmv3 -/
/-! moves make plane nets of plane nets -/
section PM3
variable {R Q : ow_NT} {F P : Nat → Int32} {j : Nat}
theorem mv_bs_t {N : Nat → Nat} {v w : Nat} (h : mv_bs N v w = true) : N v = w ∨ N w = v := by
  unfold mv_bs at h
  rcases (Bool.or_eq_true _ _).mp h with h | h
  · exact Or.inl (of_decide_eq_true h)
  · exact Or.inr (of_decide_eq_true h)
theorem cpy_on (hv : vn R.1 R.2.2.1) {s : Nat} (hs : s < 4 * R.1) : fc_on (nt_copy Q R).2.2.1 (nt_copy Q R).2.2.2 s = fc_on R.2.2.1 R.2.2.2 s ∧ fc_end (nt_copy Q R).2.2.1.1 s = fc_end R.2.2.1.1 s := by
  have he : fc_end (nt_copy Q R).2.2.1.1 s = fc_end R.2.2.1.1 s := by
    unfold fc_end
    split
    · exact (cpyN (by omega)).1
    · rfl
  have hl : fc_end R.2.2.1.1 s < 2 * R.1 := by
    have := (hv (s / 2) (by omega)).1
    unfold fc_end
    split <;> omega
  refine ⟨?_, he⟩
  unfold fc_on
  rw [he, cpyG (show fc_end R.2.2.1.1 s / 2 < R.1 by omega), (cpyN (mt_lt hl)).2]
theorem mv_pl0 (h : nv R) (hT : pm1 R) (hp : nt_plane R = true) (hj : j < mv_cnt R.1 0) (hB : mv_B 0 j Q R F P = true) : nt_plane (mv_T 0 j Q R F P) = true ∧ pm1 (mv_T 0 j Q R F P) := by
  have hj : j < R.1 := hj
  have hB : mv_bs R.2.2.1.1 (2 * j) (2 * j + 1) = true := hB
  show nt_plane (mv_t0 Q R j) = true ∧ pm1 (mv_t0 Q R j)
  unfold mv_t0
  rw [if_pos hB]
  refine ⟨pl_kink (T := nt_copy Q R) (vn_copy h.1) h.2.1 hj ?_ ((pl_copy h.1 h.2.1).mpr hp), pm1_rm (pm1_copy hT) hj⟩
  rw [(cpyN (show 2 * j < 2 * R.1 by omega)).1, (cpyN (show 2 * j + 1 < 2 * R.1 by omega)).1]
  exact mv_bs_t hB
theorem mv_pl2 (h : nv R) (hT : pm1 R) (hp : nt_plane R = true) (hj : j < mv_cnt R.1 2) (hB : mv_B 2 j Q R F P = true) : nt_plane (mv_T 2 j Q R F P) = true ∧ pm1 (mv_T 2 j Q R F P) := by
  have hj : j < R.1 * R.1 := hj
  have hB : mv_b2 R (j / R.1) (j % R.1) = true := hB
  have hx : j / R.1 < R.1 := Nat.div_lt_of_lt_mul hj
  show nt_plane (mv_t2 Q R (j / R.1) (j % R.1)) = true ∧ pm1 (mv_t2 Q R (j / R.1) (j % R.1))
  unfold mv_t2
  rw [if_pos hB]
  unfold mv_b2 mv_pair at hB
  obtain ⟨b1, b2⟩ := (Bool.and_eq_true _ _).mp hB
  obtain ⟨b3, b4⟩ := (Bool.and_eq_true _ _).mp b2
  obtain ⟨b5, b6⟩ := (Bool.and_eq_true _ _).mp b3
  have hy := of_decide_eq_true b1
  have hs := of_decide_eq_true b5
  generalize j / R.1 = x at *
  generalize j % R.1 = y at *
  have g1 := mv_bs_t b6
  have g2 := mv_bs_t b4
  refine ⟨pl_pair (T := nt_copy Q R) (vn_copy h.1) h.2.1 (pm1_copy hT) hx hy ?_ ?_ ?_ ((pl_copy h.1 h.2.1).mpr hp), pm1_rm (pm1_rm (pm1_copy hT) hx) (show y < R.1 - 1 by omega)⟩
  · rw [cpyG hx, cpyG (show y < R.1 by omega)]
    exact hs
  · rw [(cpyN (show 2 * x < 2 * R.1 by omega)).1, (cpyN (show 2 * y < 2 * R.1 by omega)).1]
    exact g1
  · rw [(cpyN (show 2 * x + 1 < 2 * R.1 by omega)).1, (cpyN (show 2 * y + 1 < 2 * R.1 by omega)).1]
    exact g2
theorem mv_pl4 (h : nv R) (hT : pm1 R) (hp : nt_plane R = true) (hj : j < 4 * R.1) (hB : mv_b4 R j = true) : nt_plane (mv_t4 Q R j) = true ∧ pm1 (mv_t4 Q R j) := by
  unfold mv_t4
  rw [if_pos hB]
  unfold mv_b4 mv_pass at hB
  obtain ⟨-, b2⟩ := (Bool.and_eq_true _ _).mp hB
  obtain ⟨-, b3⟩ := (Bool.and_eq_true _ _).mp b2
  obtain ⟨b4, b5⟩ := (Bool.and_eq_true _ _).mp b3
  obtain ⟨b6, b7⟩ := (Bool.and_eq_true _ _).mp b5
  obtain ⟨b8, b9⟩ := (Bool.and_eq_true _ _).mp b7
  obtain ⟨c1, -⟩ := (Bool.and_eq_true _ _).mp b9
  have e3 := of_decide_eq_true b4
  have d1 := of_decide_eq_true b6
  have d2 := of_decide_eq_true b8
  have d3 := of_decide_eq_true c1
  have hl1 := fc_on_vn h.1 R.2.2.2 hj
  have hl2 := fc_on_vn h.1 R.2.2.2 hl1
  generalize hs1 : fc_on R.2.2.1 R.2.2.2 j = s1 at *
  generalize hs2 : fc_on R.2.2.1 R.2.2.2 s1 = s2 at *
  have v1 := h.1
  obtain ⟨k1, k2⟩ := pl_pass (R := nt_copy Q R) (vn_copy v1) h.2.1 ((pl_copy v1 h.2.1).mpr hp) (s0 := j) (s1 := s1) (s2 := s2) hj (by rw [(cpy_on v1 hj).1, hs1]) (by rw [(cpy_on v1 hl1).1, hs2]) (by rw [(cpy_on v1 hl2).1, e3]) (by rw [(cpy_on v1 hj).2, (cpy_on v1 hl1).2]; exact d1) (by rw [(cpy_on v1 hl1).2, (cpy_on v1 hl2).2]; exact d2) (by rw [(cpy_on v1 hj).2, (cpy_on v1 hl2).2]; exact d3)
  rw [(cpyN (show j / 2 < 2 * R.1 by omega)).1, (cpyN (show s1 / 2 < 2 * R.1 by omega)).1, (cpyN (show s2 / 2 < 2 * R.1 by omega)).1] at k1 k2
  exact ⟨(plane_iff (T := nt_sw R (nt_sw R (nt_sw R (nt_copy Q R) j) s1) s2) k1 h.2.1).mpr k2, pm1_copy hT⟩
theorem comes1 {U : ow_NT} {x : Int32} {af : Option Nat} {u o : Nat} (hv : vn U.1 U.2.2.1) (hc : U.1 ≤ 12) (hT : pm1 U) (hp : nt_plane U = true) (hx : x = 1 ∨ x = -1) (haf : ∀ a, af = some a → a < 2 * U.1) (hk : u = 2 * U.1 ∧ o = 2 * U.1 + 1 ∨ u = 2 * U.1 + 1 ∧ o = 2 * U.1) (hn1 : vn (U.1 + 1) (nt_pair (nt_add U x) af u o).2.2.1) (hn2 : U.1 + 1 ≤ 12) : nt_plane (nt_pair (nt_add U x) af u o) = true ∧ pm1 (nt_pair (nt_add U x) af u o) := by
  have hc1 : (nt_pair (nt_add U x) af u o).1 = U.1 + 1 := nt_pair_c _ _ _ _
  have hG : (nt_pair (nt_add U x) af u o).2.2.2 = su U.2.2.2 U.1 x := by
    cases af <;> rfl
  have hpc := (plane_iff hv hc).mp hp
  have key : pn_pl (U.1 + 1) (nt_pair (nt_add U x) af u o).2.2.1 (stG (su U.2.2.2 U.1 x)) := pl_comes (c := U.1) (S := U.2.2.1) (G := U.2.2.2) (G' := su U.2.2.2 U.1 x) (u := u) (o := o) af haf hv hpc (fun x hx => if_neg (by omega)) hk U.2.1 hn1
  constructor
  · rw [plane_iff (by rw [hc1]; exact hn1) (by rw [hc1]; exact hn2), hc1, hG]
    exact key
  · intro y hy
    rw [hc1] at hy
    rw [hG]
    show (if y = U.1 then x else U.2.2.2 y) = 1 ∨ (if y = U.1 then x else U.2.2.2 y) = -1
    by_cases e : y = U.1
    · rw [if_pos e]
      exact hx
    · rw [if_neg e]
      exact hT y (by omega)
theorem mv_pl1 (h : nv R) (hT : pm1 R) (hp : nt_plane R = true) (hQ : ow_b24 Q.2.2.1) (hj : j < mv_cnt R.1 1) (hB : mv_B 1 j Q R F P = true) : nt_plane (mv_T 1 j Q R F P) = true ∧ pm1 (mv_T 1 j Q R F P) := by
  have hnv : nv (mv_t1 Q R (j / 4) (j % 4)) := (mv_nv1 h F P Q j (fun e => absurd e (by decide)) hQ hj).2 hB
  have hcc : R.1 + 1 ≤ 12 := by
    rcases Nat.lt_or_ge 12 (R.1 + 1) with q | q
    · have h9 : mv_cnt R.1 1 = 0 := if_neg (by omega)
      omega
    · exact q
  have hj : j < (2 * R.1 + 1) * 4 := by rw [show mv_cnt R.1 1 = (2 * R.1 + 1) * 4 from if_pos hcc] at hj; exact hj
  have hB : mv_b1 R (j / 4) = true := hB
  have hk : (2 * R.1 + j % 4 % 2 = 2 * R.1 ∧ mt (2 * R.1 + j % 4 % 2) = 2 * R.1 + 1) ∨ (2 * R.1 + j % 4 % 2 = 2 * R.1 + 1 ∧ mt (2 * R.1 + j % 4 % 2) = 2 * R.1) := by
    unfold mt
    by_cases e2 : (2 * R.1 + j % 4 % 2) % 2 = 0
    · rw [if_pos e2]; omega
    · rw [if_neg e2]; omega
  have et : mv_t1 Q R (j / 4) (j % 4) = nt_pair (nt_add (nt_copy Q R) (mv_sg (j % 4))) (mv_af R (j / 4)) (2 * R.1 + j % 4 % 2) (mt (2 * R.1 + j % 4 % 2)) := by
    unfold mv_t1
    rw [if_pos hB]
  have hc1 : (nt_pair (nt_add (nt_copy Q R) (mv_sg (j % 4))) (mv_af R (j / 4)) (2 * R.1 + j % 4 % 2) (mt (2 * R.1 + j % 4 % 2))).1 = R.1 + 1 := nt_pair_c _ _ _ _
  show nt_plane (mv_t1 Q R (j / 4) (j % 4)) = true ∧ pm1 (mv_t1 Q R (j / 4) (j % 4))
  rw [et] at hnv ⊢
  have hn1 := hnv.1
  rw [hc1] at hn1
  refine comes1 (U := nt_copy Q R) (vn_copy h.1) h.2.1 (pm1_copy hT) ((pl_copy h.1 h.2.1).mpr hp) ?_ (fun a ha => mv_af_lt (R := R) (show j / 4 ≤ 2 * R.1 by omega) ha) hk hn1 hcc
  unfold mv_sg
  split
  · exact Or.inl rfl
  · exact Or.inr rfl
theorem mv_pl3 (hT : pm1 R) (hB : mv_B 3 j Q R F P = true) : nt_plane (mv_T 3 j Q R F P) = true ∧ pm1 (mv_T 3 j Q R F P) := by
  have hB : (mv_b3 R F P (j / 4 / (2 * R.1 + 2)) (j / 4 % (2 * R.1 + 2)) && nt_plane (mv_t3b Q R (j / 4 / (2 * R.1 + 2)) (j / 4 % (2 * R.1 + 2)) (j % 4))) = true := hB
  obtain ⟨b1, b2⟩ := (Bool.and_eq_true _ _).mp hB
  show nt_plane (mv_t3 Q R F P (j / 4 / (2 * R.1 + 2)) (j / 4 % (2 * R.1 + 2)) (j % 4)) = true ∧ pm1 (mv_t3 Q R F P (j / 4 / (2 * R.1 + 2)) (j / 4 % (2 * R.1 + 2)) (j % 4))
  unfold mv_t3
  rw [if_pos b1]
  refine ⟨b2, fun x hx => ?_⟩
  rw [mv_t3b_c] at hx
  have hG : ∀ (U : ow_NT) (af : Option Nat) (u o : Nat), (nt_pair U af u o).2.2.2 = U.2.2.2 := fun U af u o => by cases af <;> rfl
  unfold mv_t3b mv_t3a
  rw [hG, hG]
  show (if x = R.1 + 1 then mv_s2 (j % 4) else if x = R.1 then mv_s1 (j % 4) else (nt_copy Q R).2.2.2 x) = 1 ∨ (if x = R.1 + 1 then mv_s2 (j % 4) else if x = R.1 then mv_s1 (j % 4) else (nt_copy Q R).2.2.2 x) = -1
  by_cases e : x = R.1 + 1
  · rw [if_pos e]
    unfold mv_s2
    split
    · exact Or.inr rfl
    · exact Or.inl rfl
  · rw [if_neg e]
    by_cases e2 : x = R.1
    · rw [if_pos e2]
      unfold mv_s1
      split
      · exact Or.inl rfl
      · exact Or.inr rfl
    · rw [if_neg e2]
      exact pm1_copy hT x (show x < R.1 by omega)
/-- a move of any kind -/
theorem mv_pl (h : nv R) (hT : pm1 R) (hp : nt_plane R = true) {kd : Nat} (hkd : kd < 5) (hQ : ow_b24 Q.2.2.1) (hj : j < mv_cnt R.1 kd) (hB : mv_B kd j Q R F P = true) : nt_plane (mv_T kd j Q R F P) = true ∧ pm1 (mv_T kd j Q R F P) := by
  rcases (show kd = 0 ∨ kd = 1 ∨ kd = 2 ∨ kd = 3 ∨ kd = 4 by omega) with rfl | rfl | rfl | rfl | rfl
  · exact mv_pl0 h hT hp hj hB
  · exact mv_pl1 h hT hp hQ hj hB
  · exact mv_pl2 h hT hp hj hB
  · exact mv_pl3 hT hB
  · have hj : j < 2 * (2 * R.1) := hj
    exact mv_pl4 h hT hp (by omega) hB
end PM3
end
section
/-! 99zzzzzzzzy.xref -/
/-! exact calls of the reference: the places as a table of lists -/
abbrev plT := Nat → Option (rn_L × (Nat → Bool))
def upP (St : plT) (e : Nat) (C : Option (rn_L × (Nat → Bool))) : plT := fun d => if d = e then C else St d
def relR (z : ow_MS) (St : plT) : Prop := ∀ d, d < 40 → (St d = none → z.2.1 12 (32 * d) = 0) ∧ ∀ A sg, St d = some (A, sg) → A ≠ [] ∧ vRow z 12 (32 * d) A sg
/-- what may change when a diagram is made: thrown, the rows, scratch -/
def rSc (g : Nat) : Prop := 2 ≤ g ∧ g ≤ 9 ∨ 1000 ≤ g
def rPk (g : Nat) : Prop := g = 1 ∨ g = 12 ∨ rSc g
/-- what may change else -/
def rPs (g : Nat) : Prop := g = 1 ∨ rSc g
def lstF (St : plT) (e : Nat) : Prop := e < 40 ∧ St e = none ∧ ∀ d, d < e → St d ≠ none
def allF (St : plT) : Prop := ∀ d, d < 40 → St d ≠ none
section XR
variable {X : (Nat → Nat → Int32) → Prop} {z z1 : ow_MS} {St : plT} {x : Int32}
theorem relR_eq (he : ∀ i, z1.2.1 12 i = z.2.1 12 i) (h : relR z St) : relR z1 St := fun d hd => by
  obtain ⟨h1, h2⟩ := h d hd
  refine ⟨fun e => (he _).trans (h1 e), fun A sg e => ?_⟩
  obtain ⟨k1, ⟨k2, k3, k4, k5⟩, k6⟩ := h2 A sg e
  exact ⟨k1, ⟨k2, k3, (he _).trans k4, fun k t hk => (he _).trans (k5 k t hk)⟩, k6⟩
theorem relR_fr {P : Nat → Prop} (hf : fr P z z1) (hP : ¬ P 12) (h : relR z St) : relR z1 St := relR_eq (fun i => by rw [(hf 12 hP).2.1]) h
theorem tk_pos {sg : Nat → Bool} {A : rn_L} (h : A ≠ []) : 0 < (tk sg A).length := by
  rw [tk_len]
  have := List.length_pos_iff.mpr h
  omega
theorem relR_le (h : relR z St) {d : Nat} (hd : d < 40) : z.2.1 12 (32 * d) ≤ 0 ↔ St d = none := by
  obtain ⟨h1, h2⟩ := h d hd
  cases e : St d with
  | none => exact ⟨fun _ => rfl, fun _ => by rw [h1 e]; decide⟩
  | some C =>
    obtain ⟨A, sg⟩ := C
    obtain ⟨k1, k2, -⟩ := h2 A sg e
    have hp := tk_pos (sg := sg) k1
    have hl := k2.1
    refine ⟨fun h9 => ?_, fun h9 => by cases h9⟩
    rw [k2.2.2.1] at h9
    have := (nI_leI (a := (tk sg A).length) (b := 0) (by omega) (by omega)).mp h9
    omega
theorem xr_has (h : relR z St) : Te (fun K => qe_X13_has K x z) (fun r => r.2 = z ∧ (r.1 = 0 ∧ (∀ d, d < 40 → x = nI d → St d = none) ∨ r.1 = 1 ∧ ∃ d A sg, d < 40 ∧ x = nI d ∧ St d = some (A, sg))) := by
  refine e_X13_has ?_; unfold qm_X13_has_0
  refine w_if (fun hx => w_okZ (Or.inl rfl) (w_some ⟨rfl, Or.inl ⟨rfl, fun d hd e => ?_⟩⟩)) (fun h0 => w_if (fun hx => w_okZ (Or.inl rfl) (w_some ⟨rfl, Or.inl ⟨rfl, fun d hd e => ?_⟩⟩)) (fun h1 => ?_))
  · rw [e] at hx
    exact absurd hx (nI_pos (by omega))
  · rw [e] at hx
    have := (nI_leI (a := 40) (b := d) (by omega) (by omega)).mp hx
    omega
  obtain ⟨d, hd, rfl⟩ : ∃ d, d < 40 ∧ x = nI d := by
    rcases pk_ix x (n := 40) (by omega) with h9 | h9 | h9
    · exact absurd h9 h0
    · exact absurd h9 h1
    · exact h9
  have hle := relR_le h hd
  rw [show (32 : Int32) * nI d = nI (32 * d) from pk_mul 32 d]
  refine w_rdI ml12 rfl (by omega) rfl (w_if (fun h9 => w_okZ (Or.inl rfl) (w_some ⟨rfl, Or.inl ⟨rfl, fun d' hd' e => ?_⟩⟩)) (fun h9 => w_okZ (Or.inr rfl) (w_some ⟨rfl, Or.inr ⟨rfl, ?_⟩⟩)))
  · rw [← nI_inj9 (by omega) (by omega) e]
    exact hle.mp h9
  · cases e : St d with
    | none => exact absurd (hle.mpr e) h9
    | some C => exact ⟨d, C.1, C.2, hd, rfl, e⟩
theorem w_hasX {O : Type} {Q : O → Prop} {B : Int32 → ow_MS → Nat → Nat → Option O} (h : relR z St) (H0 : (∀ d, d < 40 → x = nI d → St d = none) → Tt (B 0 z) Q) (H1 : ∀ d A sg, d < 40 → x = nI d → St d = some (A, sg) → vRow z 12 (32 * d) A sg → A ≠ [] → Tt (B 1 z) Q) : Tt (fun K k => cs1 (qe_X13_has K x z) fun v z1 => B v z1 K k) Q := by
  refine w_cs1 (xr_has h) (fun a z1 ⟨e, h9⟩ => ?_)
  have e : z1 = z := e
  subst e
  rcases h9 with ⟨h9, h8⟩ | ⟨h9, d, A, sg, hd, he, hs⟩
  · have h9 : a = 0 := h9
    rw [h9]
    exact H0 h8
  · have h9 : a = 1 := h9
    rw [h9]
    obtain ⟨k1, k2⟩ := (h d hd).2 A sg hs
    exact H1 d A sg hd he hs k2 k1
theorem xr_free (h : relR z St) : Te (fun K => qe_X13_free K z) (fun r => r.2 = z ∧ (r.1 = -1 ∧ allF St ∨ ∃ d, r.1 = nI d ∧ lstF St d)) := w_monoE tm_free (fun r ⟨e, h2⟩ => ⟨e, by
  rcases h2 with ⟨h2, h3⟩ | ⟨d, hd, h2, h3, h4⟩
  · exact Or.inl ⟨h2, fun d hd e9 => h3 ⟨d, hd, (relR_le h hd).mpr e9⟩⟩
  · exact Or.inr ⟨d, h2, hd, (relR_le h hd).mp h3, fun e he e9 => h4 e he ((relR_le h (by omega)).mpr e9)⟩⟩)
theorem w_freeX {O : Type} {Q : O → Prop} {B : Int32 → ow_MS → Nat → Nat → Option O} (h : relR z St) (H0 : allF St → Tt (B (-1) z) Q) (H1 : ∀ d, lstF St d → Tt (B (nI d) z) Q) : Tt (fun K k => cs1 (qe_X13_free K z) fun v z1 => B v z1 K k) Q := by
  refine w_cs1 (xr_free h) (fun a z1 ⟨e, h2⟩ => ?_)
  have e : z1 = z := e
  subst e
  rcases h2 with ⟨h2, h3⟩ | ⟨d, h2, h3⟩
  · have h2 : a = -1 := h2
    rw [h2]
    exact H0 h3
  · have h2 : a = nI d := h2
    rw [h2]
    exact H1 d h3
theorem frD_of (h : relR z St) {e : Nat} (he : lstF St e) : frD z := ⟨e, he.1, (relR_le h he.1).mpr he.2.1⟩
/-- a failed call -/
def rFl (X : (Nat → Nat → Int32) → Prop) (z : ow_MS) (k : Nat) (r : Int32 × ow_MS) : Prop := gI X r.2 ∧ r.2.1 1 = nI k ∧ fr rPs z r.2
/-- a diagram was made of the components A2 -/
def rKp (X : (Nat → Nat → Int32) → Prop) (z : ow_MS) (e : Nat) (A2 : rn_L) (sg2 : Nat → Bool) (r : Int32 × ow_MS) : Prop := gI X r.2 ∧ r.1 = nI e ∧ r.2.1 1 = 0 ∧ fr rPk z r.2 ∧ (∃ m P, mk A2 m P ∧ rc_At r.2 12 (32 * e) (pkR A2 sg2 m P)) ∧ ∀ i, i < 32 * e ∨ 32 * e + 32 ≤ i → r.2.2.1 12 i = z.2.1 12 i
theorem w_failX {z0 : ow_MS} {k : Nat} (h : gI X z) (hf : fr rPs z0 z) : Tt (fun K _ => cs1 (qe_X13_fails K (nI k) z) fun v z1 => some (v, z1)) (rFl X z0 k) := w_cs1 tm_fails (fun a z1 e => by
  cases e
  exact w_some ⟨gI_1 h, po_usF_at, fr_F2 hf (Or.inl rfl)⟩)
theorem xr_keep {A2 : rn_L} {sg2 : Nat → Bool} {e : Nat} (hI : gI X z) (hR : relR z St) (he : lstF St e) (hA : rn_At z 3000 A2 []) (hG : rn_sg z 3000 A2.flatten sg2) (hF : wkF A2.flatten) (h24 : A2.flatten.length ≤ 24) (h6 : A2.length ≤ 6) : Te (fun K => qe_X13_keep K z) (fun r => gI X r.2 ∧ r.1 = nI e ∧ r.2.1 1 = z.1 1 ∧ fr (frQ 3000 12) z r.2 ∧ (∃ m P, mk A2 m P ∧ rc_At r.2 12 (32 * e) (pkR A2 sg2 m P)) ∧ ∀ i, i < 32 * e ∨ 32 * e + 32 ≤ i → r.2.2.1 12 i = z.2.1 12 i) := by
  obtain ⟨r, hr, h1, h2⟩ := xr_free (z := z) hR
  have hd := he.1
  have e9 : r.1 = nI e := by
    rcases h2 with ⟨-, h3⟩ | ⟨d, h3, h4⟩
    · exact absurd he.2.1 (h3 e hd)
    · rw [h3]
      congr 1
      rcases Nat.lt_trichotomy d e with q | q | q
      · exact absurd h4.2.1 (he.2.2 d q)
      · exact q
      · exact absurd he.2.1 (h4.2.2 e q)
  refine e_X13_keep ?_; unfold qm_X13_keep_0
  refine w_cs1 (R := fun r => r = (nI e, z)) ⟨r, hr, Prod.ext e9 h1⟩ (fun a z1 e8 => ?_)
  cases e8
  rw [show (32 : Int32) * nI e = nI (32 * e) from pk_mul 32 e]
  refine w_cs0 (tr_pack pn3 (by omega) ml12 (by omega) (by omega) (by omega) (by omega) hF hA hG) (fun z1 ⟨m, P, g1, g2, g3, g4, _, _⟩ => w_some ⟨?_, rfl, (g3 1 (by unfold frQ; omega)).1, g3, ⟨m, P, g1, g2⟩, g4⟩)
  refine gI_rows g3 (fun g hg => ?_) (gRows_put (dRow_pack hF g1 h24 h6 g2) g4 hI.2.1) hI
  unfold per
  unfold frQ at hg
  omega
theorem frQ_rPk {g : Nat} (h : frQ 3000 12 g) : rPk g := by
  unfold rPk rSc
  unfold frQ at h
  omega
theorem w_keepX {z0 : ow_MS} {A2 : rn_L} {sg2 : Nat → Bool} {e : Nat} (hI : gI X z) (hR : relR z St) (he : lstF St e) (h1 : z.1 1 = 0) (hf : fr rPs z0 z) (hA : rn_At z 3000 A2 []) (hG : rn_sg z 3000 A2.flatten sg2) (hF : wkF A2.flatten) (h24 : A2.flatten.length ≤ 24) (h6 : A2.length ≤ 6) : Tt (fun K _ => cs1 (qe_X13_keep K z) fun v z1 => some (v, z1)) (rKp X z0 e A2 sg2) := w_cs1 (xr_keep hI hR he hA hG hF h24 h6) (fun a z1 ⟨q1, q2, q3, q4, q5, q6⟩ => w_some ⟨q1, q2, q3.trans h1, fr_tr (fr_mono (fun g hg => hg.elim Or.inl (fun h9 => Or.inr (Or.inr h9))) hf) (fr_mono (fun g hg => frQ_rPk hg) q4), q5, fun i hi => by rw [q6 i hi, (hf 12 (fun h9 => by unfold rPs rSc at h9; omega)).2.1]⟩)
end XR
end
