/-! maps has an answer -/
/-- how many permutations there are -/
def thM (m : Nat) : Nat := if m = 2 then 2 else if m = 3 then 6 else if m = 4 then 24 else 1
theorem thM_le (m : Nat) : 1 ≤ thM m ∧ thM m ≤ 24 := by
  unfold thM
  split
  · omega
  · split
    · omega
    · split <;> omega
/-- what the tables of permutations say -/
def XM (W : Nat → Nat → Int32) : Prop := (∀ m, m ≤ 4 → W 73 m = nI (thM m)) ∧ ∀ m, 1 ≤ m → m ≤ 4 → ∀ o p, o < thM m → p < thM m → (∃ q, q < thM m ∧ W 75 (576 * m + 24 * o + p) = nI q) ∧ ∃ q, q < thM m ∧ W 76 (576 * m + 24 * o + p) = nI q
def XMz (y : ow_MS) : Prop := XM (fun g => y.2.1 (if g = 53 ∨ 73 ≤ g ∧ g ≤ 76 ∨ 97 ≤ g ∧ g ≤ 105 then g else 73))
theorem XMz_th {y : ow_MS} {m : Nat} (h : XMz y) (hm : m ≤ 4) : y.2.1 73 m = nI (thM m) := h.1 m hm
theorem XMz_tb {y : ow_MS} {m o p r : Nat} (h : XMz y) (h1 : 1 ≤ m) (h4 : m ≤ 4) (ho : o < thM m) (hp : p < thM m) (hr : r = 75 ∨ r = 76) : inR y r (576 * m + 24 * o + p) (thM m) := by
  obtain ⟨a, b⟩ := h.2 m h1 h4 o p ho hp
  rcases hr with rfl | rfl
  · exact a
  · exact b
theorem XMz_fr {P : Nat → Prop} {y y1 : ow_MS} (hf : fr P y y1) (hP : ∀ g, P g → ¬ (73 ≤ g ∧ g ≤ 76)) (h : XMz y) : XMz y1 := by
  have e : ∀ g, 73 ≤ g → g ≤ 76 → y1.2.1 g = y.2.1 g := fun g h1 h2 => (hf g (fun h9 => hP g h9 ⟨h1, h2⟩)).2.1
  refine ⟨fun m hm => ?_, fun m h1 h4 o p ho hp => ?_⟩
  · show y1.2.1 73 m = _
    rw [e 73 (by omega) (by omega)]
    exact h.1 m hm
  · show (∃ q, q < thM m ∧ y1.2.1 75 _ = nI q) ∧ ∃ q, q < thM m ∧ y1.2.1 76 _ = nI q
    rw [e 75 (by omega) (by omega), e 76 (by omega) (by omega)]
    exact h.2 m h1 h4 o p ho hp
/-- what has been given: T the trail -/
def mgI (y : ow_MS) (a m : Nat) (T : List Nat) : Prop := y.1 79 = nI T.length ∧ T.Nodup ∧ (∀ b, b ∈ T → b < a) ∧ (∀ i b, T[i]? = some b → y.2.1 78 i = nI b) ∧ ∀ b, b < 40 → (b ∉ T ∧ y.2.1 77 b = -1) ∨ (b ∈ T ∧ ∃ q, q < thM m ∧ y.2.1 77 b = nI q)
theorem mgI_len {y : ow_MS} {a m : Nat} {T : List Nat} (h : mgI y a m T) : T.length ≤ a := by
  have := nodup_le T (List.range a) h.2.1 (fun b hb => List.mem_range.mpr (h.2.2.1 b hb))
  rw [List.length_range] at this
  exact this
theorem mgI_room {y : ow_MS} {a m b : Nat} {T : List Nat} (h : mgI y a m T) (hb : b < a) (hn : b ∉ T) : T.length < a := by
  have := nodup_le (b :: T) (List.range a) (List.nodup_cons.mpr ⟨hn, h.2.1⟩) (fun c hc => by
    rcases List.mem_cons.mp hc with h9 | h9
    · rw [h9]; exact List.mem_range.mpr hb
    · exact List.mem_range.mpr (h.2.2.1 c h9))
  rw [List.length_range, List.length_cons] at this
  omega
abbrev gvH (g : Nat) : Prop := 77 ≤ g ∧ g ≤ 79
section MAPS
variable {X : (Nat → Nat → Int32) → Prop} {z : ow_MS}
theorem e_X13_give {x1 : Int32} {x2 : Int32} {z : ow_MS} {Q : ow_MS → Prop} (H : Tt (fun K _ => qm_X13_give_0 K x1 x2 z) Q) : Te (fun K => qe_X13_give K x1 x2 z) Q := w_te0 H
theorem tp_give {a m b q : Nat} {T : List Nat} (ha : a ≤ 18) (hI : mgI z a m T) (hb : b < a) (hn : b ∉ T) (hq : q < thM m) : Te (fun K => qe_X13_give K (nI b) (nI q) z) (fun z1 => mgI z1 a m (T ++ [b]) ∧ fr gvH z z1) := by
  have hr := mgI_room hI hb hn
  obtain ⟨h1, h2, h3, h4, h5⟩ := hI
  refine e_X13_give ?_; unfold qm_X13_give_0
  refine w_wrI ml77 rfl (by omega) (w_rdF (x := nI T.length) h1 (w_wrI ml78 rfl (by omega) (w_rdF (x := nI T.length) h1 (w_wrF (w_some ⟨⟨?_, ?_, fun c hc => ?_, fun i c hc => ?_, fun c hc => ?_⟩, ?_⟩)))))
  · rw [po_usF_at, List.length_append]
    exact nI_1 _
  · rw [List.nodup_append]
    refine ⟨h2, by simp, fun x hx y hy e => hn ?_⟩
    have : y = b := by simpa using hy
    rw [← this, ← e]
    exact hx
  · rcases List.mem_append.mp hc with h9 | h9
    · exact h3 c h9
    · have : c = b := by simpa using h9
      omega
  · show (usI (usI z 77 b (nI q)) 78 T.length (nI b)).2.1 78 i = nI c
    by_cases hi : i = T.length
    · rw [hi, List.getElem?_append_right (Nat.le_refl _), Nat.sub_self] at hc
      cases hc
      rw [hi, po_usI_at]
    · have hlt : i < T.length := by
        have h9 := (List.getElem?_eq_some_iff.mp hc).1
        rw [List.length_append] at h9
        have h9 : i < T.length + 1 := h9
        omega
      rw [List.getElem?_append_left hlt] at hc
      exact rd_ne hi (rd_ot (by omega) (h4 i c hc))
  · show (c ∉ T ++ [b] ∧ (usI (usI z 77 b (nI q)) 78 T.length (nI b)).2.1 77 c = -1) ∨ (c ∈ T ++ [b] ∧ ∃ q', q' < thM m ∧ (usI (usI z 77 b (nI q)) 78 T.length (nI b)).2.1 77 c = nI q')
    by_cases hcb : c = b
    · rw [hcb]
      exact Or.inr ⟨List.mem_append_right _ (List.mem_singleton.mpr rfl), q, hq, rd_ot (by omega) po_usI_at⟩
    · rcases h5 c hc with ⟨k1, k2⟩ | ⟨k1, k2, k3, k4⟩
      · refine Or.inl ⟨fun h9 => ?_, rd_ot (by omega) (rd_ne hcb k2)⟩
        rcases List.mem_append.mp h9 with h8 | h8
        · exact k1 h8
        · exact hcb (by simpa using h8)
      · exact Or.inr ⟨List.mem_append_left _ k1, k2, k3, rd_ot (by omega) (rd_ne hcb k4)⟩
  · exact fr_F2 (fr_I2 (fr_I (by unfold gvH; omega)) (by unfold gvH; omega)) (by unfold gvH; omega)
theorem u_X13_takeBack_0 {x1 : Int32} {z : ow_MS} {Q : ow_MS → Prop} (H : Tt (fun K k => qm_X13_takeBack_0 K (q_X13_takeBack K k) x1 z) Q) : Tt (fun K k => q_X13_takeBack K k 0 x1 z) Q := w_un (fun _ _ => rfl) H
theorem e_X13_takeBack {x1 : Int32} {z : ow_MS} {Q : ow_MS → Prop} (H : Tt (fun K k => q_X13_takeBack K k 0 x1 z) Q) : Te (fun K => qe_X13_takeBack K x1 z) Q := w_te H
theorem tp_takeBack {a m k : Nat} (ha : a ≤ 18) : ∀ {z : ow_MS} {T E : List Nat}, mgI z a m (T ++ E) → T.length = k → Te (fun K => qe_X13_takeBack K (nI k) z) (fun z1 => mgI z1 a m T ∧ fr gvH z z1) := by
  intro z T E hI hk
  have key : ∀ (d : Nat) (E : List Nat) (y : ow_MS), E.length = d → mgI y a m (T ++ E) → fr gvH z y → Tt (fun K i => q_X13_takeBack K i 0 (nI k) y) (fun z1 => mgI z1 a m T ∧ fr gvH z z1) := by
    intro d
    induction d with
    | zero =>
      intro E y hE hI hf
      have hE : E = [] := List.length_eq_zero_iff.mp hE
      subst hE
      rw [List.append_nil] at hI
      have := mgI_len hI
      refine u_X13_takeBack_0 ?_; unfold qm_X13_takeBack_0
      exact w_rdF hI.1 (w_leT (by omega) (by omega) (w_some ⟨hI, hf⟩))
    | succ d ih =>
      intro E y hE hI hf
      have hlen := mgI_len hI
      rw [List.length_append] at hlen
      obtain ⟨F, b, rfl⟩ : ∃ F b, E = F ++ [b] := by
        rcases List.eq_nil_or_concat E with h9 | ⟨F, b, h9⟩
        · rw [h9] at hE
          cases hE
        · exact ⟨F, b, by rw [h9, List.concat_eq_append]⟩
      rw [List.length_append] at hE hlen
      have hE : F.length + 1 = d + 1 := hE
      have hlen : T.length + (F.length + 1) ≤ a := hlen
      obtain ⟨h1, h2, h3, h4, h5⟩ := hI
      rw [← List.append_assoc] at h1 h2 h3 h4 h5
      have hb : b < a := h3 b (List.mem_append_right _ (List.mem_singleton.mpr rfl))
      have hL : ((T ++ F) ++ [b]).length = T.length + F.length + 1 := by
        rw [List.length_append, List.length_append]
        rfl
      rw [hL] at h1
      have h78 := h4 (T.length + F.length) b (by rw [List.getElem?_append_right (by rw [List.length_append]; exact Nat.le_refl _), List.length_append, Nat.sub_self]; rfl)
      have hnb : b ∉ T ++ F := fun h9 => (List.nodup_append.mp h2).2.2 b h9 b (List.mem_singleton.mpr rfl) rfl
      have e79 : nI (T.length + F.length + 1) - 1 = nI (T.length + F.length) := pk_sub (b := 1) (by omega)
      refine u_X13_takeBack_0 ?_; unfold qm_X13_takeBack_0
      refine w_rdF h1 (w_leF (by omega) (by omega) (w_rdF h1 (w_wrF (w_rdF (x := nI (T.length + F.length)) (po_usF_at.trans e79) (w_rdI ml78 rfl (by omega) h78 (w_wrI ml77 rfl (by omega) (ih F _ (by omega) ⟨?_, (List.nodup_append.mp h2).1, fun c hc => h3 c (List.mem_append_left _ hc), fun i c hc => ?_, fun c hc => ?_⟩ (fr_I2 (fr_F2 hf (by unfold gvH; omega)) (by unfold gvH; omega)))))))))
      · show (usF y 79 (nI (T.length + F.length + 1) - 1)).1 79 = _
        rw [po_usF_at, e79, List.length_append]
      · show (usI (usF y 79 (nI (T.length + F.length + 1) - 1)) 77 b (-1)).2.1 78 i = nI c
        refine rd_ot (by omega) (h4 i c ?_)
        rw [List.getElem?_append_left (List.getElem?_eq_some_iff.mp hc).1]
        exact hc
      · show (c ∉ T ++ F ∧ (usI (usF y 79 (nI (T.length + F.length + 1) - 1)) 77 b (-1)).2.1 77 c = -1) ∨ (c ∈ T ++ F ∧ ∃ q, q < thM m ∧ (usI (usF y 79 (nI (T.length + F.length + 1) - 1)) 77 b (-1)).2.1 77 c = nI q)
        by_cases hcb : c = b
        · rw [hcb]
          exact Or.inl ⟨hnb, po_usI_at⟩
        · rcases h5 c hc with ⟨k1, k2⟩ | ⟨k1, q, k3, k4⟩
          · exact Or.inl ⟨fun h9 => k1 (List.mem_append_left _ h9), rd_ne hcb k2⟩
          · refine Or.inr ⟨?_, q, k3, rd_ne hcb k4⟩
            rcases List.mem_append.mp k1 with h8 | h8
            · exact h8
            · exact absurd (by simpa using h8) hcb
  refine e_X13_takeBack ?_
  exact key E.length E z rfl hI fr_rf
/-- the net, the arcs, the tables while maps are counted -/
def mcI (y : ow_MS) (n : Nat) (A : rn_L) (sg : Nat → Bool) (c a : Nat) : Prop := oNet y n A sg ∧ arcI y c a ∧ XMz y
theorem mcI_fr {n : Nat} {y y1 : ow_MS} {A : rn_L} {sg : Nat → Bool} {c a : Nat} {P : Nat → Prop} (hn : mw_net n) (hf : fr P y y1) (hP : ∀ g, P g → 77 ≤ g ∧ g ≤ 80) (h : mcI y n A sg c a) : mcI y1 n A sg c a := by
  have hmn := net_mod hn
  refine ⟨oNet_fr hf (fun g hg => by have := hP g hg; omega) h.1, ⟨by rw [(hf 58 (fun h9 => by have := hP _ h9; omega)).1]; exact h.2.1.1, fun x hx => ?_⟩, XMz_fr hf (fun g hg => by have := hP g hg; omega) h.2.2⟩
  obtain ⟨k1, k2, k3⟩ := h.2.1.2 x hx
  exact ⟨inR_fr hf (fun h9 => by have := hP _ h9; omega) k1, inR_fr hf (fun h9 => by have := hP _ h9; omega) k2, inR_fr hf (fun h9 => by have := hP _ h9; omega) k3⟩
theorem tb_ix {m o p : Nat} : (576 : Int32) * nI m + 24 * nI o + nI p = nI (576 * m + 24 * o + p) := by
  rw [show (576 : Int32) * nI m = nI (576 * m) from pk_mul 576 m, show (24 : Int32) * nI o = nI (24 * o) from pk_mul 24 o, nI_add, nI_add]
theorem tb_len {r : Nat} (hr : r = 75 ∨ r = 76) : (mX.2 r).2.1 = 2880 := by
  rcases hr with rfl | rfl
  · exact ml75
  · exact ml76
theorem half_V {c : Nat} (hc : c ≤ 40) : nI (2 * c) / 2 = nI c := by
  rw [show nI (2 * c) / 2 = nI (2 * c / 2) from pk_div (d := 2) (by omega) (by omega) (by omega)]
  congr 1
  omega
theorem u_X13_follows_2 {x2 : Int32} {x3 : Int32} {x4 : Int32} {x5 : Int32} {x8 : Int32} {x9 : Int32} {r1 : Nat} {r6 : Nat} {r7 : Nat} {g0 : Nat} {z : ow_MS} {Q : (Int32 × ow_MS) → Prop} (H : Tt (fun K k => qm_X13_follows_2 K (q_X13_follows K k) x2 x3 x4 x5 x8 x9 r1 r6 r7 g0 z) Q) : Tt (fun K k => q_X13_follows K k 2 x2 x3 x4 x5 x8 x9 r1 r6 r7 g0 z) Q := w_un (fun _ _ => rfl) H
theorem u_X13_follows_1 {x2 : Int32} {x3 : Int32} {x4 : Int32} {x5 : Int32} {x8 : Int32} {x9 : Int32} {r1 : Nat} {r6 : Nat} {r7 : Nat} {g0 : Nat} {z : ow_MS} {Q : (Int32 × ow_MS) → Prop} (H : Tt (fun K k => qm_X13_follows_1 K (q_X13_follows K k) x2 x3 x4 x5 x8 x9 r1 r6 r7 g0 z) Q) : Tt (fun K k => q_X13_follows K k 1 x2 x3 x4 x5 x8 x9 r1 r6 r7 g0 z) Q := w_un (fun _ _ => rfl) H
theorem u_X13_follows_7 {x2 : Int32} {x3 : Int32} {x4 : Int32} {x5 : Int32} {x8 : Int32} {x9 : Int32} {r1 : Nat} {r6 : Nat} {r7 : Nat} {g0 : Nat} {z : ow_MS} {Q : (Int32 × ow_MS) → Prop} (H : Tt (fun K k => qm_X13_follows_7 K (q_X13_follows K k) x2 x3 x4 x5 x8 x9 r1 r6 r7 g0 z) Q) : Tt (fun K k => q_X13_follows K k 7 x2 x3 x4 x5 x8 x9 r1 r6 r7 g0 z) Q := w_un (fun _ _ => rfl) H
theorem u_X13_follows_6 {x2 : Int32} {x3 : Int32} {x4 : Int32} {x5 : Int32} {x8 : Int32} {x9 : Int32} {r1 : Nat} {r6 : Nat} {r7 : Nat} {g0 : Nat} {z : ow_MS} {Q : (Int32 × ow_MS) → Prop} (H : Tt (fun K k => qm_X13_follows_6 K (q_X13_follows K k) x2 x3 x4 x5 x8 x9 r1 r6 r7 g0 z) Q) : Tt (fun K k => q_X13_follows K k 6 x2 x3 x4 x5 x8 x9 r1 r6 r7 g0 z) Q := w_un (fun _ _ => rfl) H
theorem u_X13_follows_5 {x2 : Int32} {x3 : Int32} {x4 : Int32} {x5 : Int32} {x8 : Int32} {x9 : Int32} {r1 : Nat} {r6 : Nat} {r7 : Nat} {g0 : Nat} {z : ow_MS} {Q : (Int32 × ow_MS) → Prop} (H : Tt (fun K k => qm_X13_follows_5 K (q_X13_follows K k) x2 x3 x4 x5 x8 x9 r1 r6 r7 g0 z) Q) : Tt (fun K k => q_X13_follows K k 5 x2 x3 x4 x5 x8 x9 r1 r6 r7 g0 z) Q := w_un (fun _ _ => rfl) H
theorem u_X13_follows_4 {x2 : Int32} {x3 : Int32} {x4 : Int32} {x5 : Int32} {x8 : Int32} {x9 : Int32} {r1 : Nat} {r6 : Nat} {r7 : Nat} {g0 : Nat} {z : ow_MS} {Q : (Int32 × ow_MS) → Prop} (H : Tt (fun K k => qm_X13_follows_4 K (q_X13_follows K k) x2 x3 x4 x5 x8 x9 r1 r6 r7 g0 z) Q) : Tt (fun K k => q_X13_follows K k 4 x2 x3 x4 x5 x8 x9 r1 r6 r7 g0 z) Q := w_un (fun _ _ => rfl) H
theorem u_X13_follows_3 {x2 : Int32} {x3 : Int32} {x4 : Int32} {x5 : Int32} {x8 : Int32} {x9 : Int32} {r1 : Nat} {r6 : Nat} {r7 : Nat} {g0 : Nat} {z : ow_MS} {Q : (Int32 × ow_MS) → Prop} (H : Tt (fun K k => qm_X13_follows_3 K (q_X13_follows K k) x2 x3 x4 x5 x8 x9 r1 r6 r7 g0 z) Q) : Tt (fun K k => q_X13_follows K k 3 x2 x3 x4 x5 x8 x9 r1 r6 r7 g0 z) Q := w_un (fun _ _ => rfl) H
theorem e_X13_follows {r1 : Nat} {x2 : Int32} {z : ow_MS} {Q : (Int32 × ow_MS) → Prop} (H : Tt (fun K k => q_X13_follows K k 0 x2 0 0 0 0 0 r1 0 0 0 z) Q) : Te (fun K => qe_X13_follows K r1 x2 z) Q := w_te H
theorem u_X13_follows_0 {x2 : Int32} {x3 : Int32} {x4 : Int32} {x5 : Int32} {x8 : Int32} {x9 : Int32} {r1 : Nat} {r6 : Nat} {r7 : Nat} {g0 : Nat} {z : ow_MS} {Q : (Int32 × ow_MS) → Prop} (H : Tt (fun K k => qm_X13_follows_0 K (q_X13_follows K k) x2 x3 x4 x5 x8 x9 r1 r6 r7 g0 z) Q) : Tt (fun K k => q_X13_follows K k 0 x2 x3 x4 x5 x8 x9 r1 r6 r7 g0 z) Q := w_un (fun _ _ => rfl) H
theorem tp_follows {n m c a : Nat} {A : rn_L} {sg : Nat → Bool} (hn : mw_net n) (hm1 : 1 ≤ m) (hm4 : m ≤ 4) (hV : A.flatten.length = 2 * c) (hc : c ≤ 12) (ha : a ≤ 18) {T : List Nat} (hI : mgI z a m T) (hM : mcI z n A sg c a) : Te (fun K => qe_X13_follows K n (nI m) z) (fun r => (∃ E, mgI r.2 a m (T ++ E)) ∧ fr gvH z r.2) := by
  let Q : Int32 × ow_MS → Prop := fun r => (∃ E, mgI r.2 a m (T ++ E)) ∧ fr gvH z r.2
  have hth := thM_le m
  have mF : ∀ {y : ow_MS}, fr gvH z y → mcI y n A sg c a := fun hf => mcI_fr hn hf (fun g hg => by unfold gvH at hg; omega) hM
  have key : ∀ (k : Nat) (E : List Nat) (y : ow_MS), a - (T ++ E).length ≤ k → mgI y a m (T ++ E) → fr gvH z y → Tt (fun K i => q_X13_follows K i 1 (nI m) 1 0 0 0 0 n 0 0 0 y) Q := by
    intro k
    induction k using Nat.strongRecOn with
    | ind k ih =>
    intro E y hk hI hf
    have pass : ∀ (d x : Nat) (F : List Nat) (x3 : Int32) (y : ow_MS), x + d = c → mgI y a m (T ++ F) → fr gvH z y → (x3 = 0 ∨ x3 = 1 ∧ (T ++ E).length < (T ++ F).length) → (T ++ E).length ≤ (T ++ F).length → Tt (fun K i => q_X13_follows K i 2 (nI m) x3 (nI x) 0 0 0 n 0 0 0 y) Q := by
      intro d
      induction d with
      | zero =>
        intro x F x3 y hx hI hf h3 hle0
        refine u_X13_follows_2 ?_; unfold qm_X13_follows_2
        refine w_rdF (mF hf).1.1.V (w_nzI (by decide) ?_)
        rw [hV, half_V (by omega)]
        refine w_leT (by omega) (by omega) ?_
        rcases h3 with h3 | ⟨h3, h4⟩
        · rw [h3]
          refine u_X13_follows_1 ?_; unfold qm_X13_follows_1
          exact w_ifT rfl (w_okZ (Or.inr rfl) (w_some ⟨⟨F, hI⟩, hf⟩))
        · rw [h3]
          have := mgI_len hI
          exact ih (a - (T ++ F).length) (by omega) F y (Nat.le_refl _) hI hf
      | succ d ihp =>
        intro x F x3 y hx hI hf h3 hle0
        have hMy := mF hf
        obtain ⟨⟨o, ho, eo⟩, ⟨i, hi, ei⟩, ⟨j, hj, ej⟩⟩ := hMy.2.1.2 x (by omega)
        have c7 : ∀ (F : List Nat) (x3 x5 : Int32) (y : ow_MS), mgI y a m (T ++ F) → fr gvH z y → (x3 = 0 ∨ x3 = 1 ∧ (T ++ E).length < (T ++ F).length) → (T ++ E).length ≤ (T ++ F).length → Tt (fun K i => q_X13_follows K i 7 (nI m) x3 (nI x) x5 0 0 n 0 0 0 y) Q := by
          intro F x3 x5 y hI hf h3 hle0
          refine u_X13_follows_7 ?_; unfold qm_X13_follows_7
          rw [nI_1]
          exact ihp (x + 1) F x3 y (by omega) hI hf h3 hle0
        refine u_X13_follows_2 ?_; unfold qm_X13_follows_2
        refine w_rdF hMy.1.1.V (w_nzI (by decide) ?_)
        rw [hV, half_V (by omega)]
        refine w_leF (by omega) (by omega) (w_rdI ml61 rfl (by omega) eo (w_rdI ml77 rfl (by omega) rfl (w_rdI ml80 rfl (by omega) rfl (w_if (fun _ => c7 F x3 _ y hI hf h3 hle0) (fun _ => w_if (fun _ => c7 F x3 _ y hI hf h3 hle0) (fun hne => ?_))))))
        rcases hI.2.2.2.2 o (by omega) with ⟨-, k2⟩ | ⟨hoT, g, hg, eg⟩
        · exact absurd k2 hne
        rw [eg]
        -- the length of what was there when the round began
        have c4 : ∀ (r6 r7 : Nat), (r6 = 75 ∨ r6 = 76) → (r7 = 75 ∨ r7 = 76) → Tt (fun K i => q_X13_follows K i 4 (nI m) x3 (nI x) (nI g) 0 0 n r6 0 r7 y) Q := by
          intro r6 r7 hr6 hr7
          have grow : ∀ b, ((T ++ E).length ≤ (T ++ F).length) → (T ++ E).length < (T ++ (F ++ [b])).length := by
            intro b h9
            rw [← List.append_assoc, List.length_append (as := T ++ F)]
            show _ < _ + 1
            omega
          have hEF : (T ++ E).length ≤ (T ++ F).length ∨ (T ++ F).length < (T ++ E).length := by omega
          have c6 : ∀ (v8 v10 : Int32), ((j ∉ T ++ F ∧ v10 = -1) ∨ (j ∈ T ++ F ∧ ∃ q, q < thM m ∧ v10 = nI q)) → ((i ∉ T ++ F ∧ v8 = -1) ∨ (i ∈ T ++ F ∧ ∃ q, q < thM m ∧ v8 = nI q)) → (T ++ E).length ≤ (T ++ F).length → Tt (fun K i => q_X13_follows K i 6 (nI m) x3 (nI x) (nI g) v8 v10 n r6 r7 0 y) Q := by
            intro v8 v10 h10 h8 hle
            refine u_X13_follows_6 ?_; unfold qm_X13_follows_6
            refine w_if (fun e8 => w_if (fun _ => c7 F x3 _ y hI hf h3 hle0) (fun n10 => ?_)) (fun _ => c7 F x3 _ y hI hf h3 hle0)
            rcases h10 with ⟨-, k2⟩ | ⟨-, q, hq, rfl⟩
            · exact absurd k2 n10
            rcases h8 with ⟨k1, -⟩ | ⟨-, q2, hq2, rfl⟩
            · obtain ⟨t, ht, et⟩ := XMz_tb hMy.2.2 hm1 hm4 hg hq hr7
              have hb : 576 * m + 24 * g + q < 2880 := by omega
              rw [tb_ix]
              refine w_rdI ml62 rfl (by omega) ei (w_rdI (tb_len hr7) rfl hb et (w_cs0 (tp_give ha hI hi k1 ht) (fun y1 ⟨I1, f1⟩ => ?_)))
              rw [List.append_assoc] at I1
              exact c7 (F ++ [i]) 1 _ y1 I1 (fr_tr hf f1) (Or.inr ⟨rfl, grow i hle⟩) (Nat.le_of_lt (grow i hle))
            · exact absurd e8 (rn_neg1 (by omega))
          have c5 : ∀ (v8 v10 : Int32), ((j ∉ T ++ F ∧ v10 = -1) ∨ (j ∈ T ++ F ∧ ∃ q, q < thM m ∧ v10 = nI q)) → ((i ∉ T ++ F ∧ v8 = -1) ∨ (i ∈ T ++ F ∧ ∃ q, q < thM m ∧ v8 = nI q)) → (T ++ E).length ≤ (T ++ F).length → Tt (fun K i => q_X13_follows K i 5 (nI m) x3 (nI x) (nI g) v8 v10 n r6 r7 0 y) Q := by
            intro v8 v10 h10 h8 hle
            refine u_X13_follows_5 ?_; unfold qm_X13_follows_5
            refine w_if (fun _ => c6 v8 v10 h10 h8 hle) (fun n8 => w_if (fun e10 => ?_) (fun _ => c6 v8 v10 h10 h8 hle))
            rcases h8 with ⟨-, k2⟩ | ⟨-, q, hq, rfl⟩
            · exact absurd k2 n8
            rcases h10 with ⟨k1, -⟩ | ⟨-, q2, hq2, rfl⟩
            · obtain ⟨t, ht, et⟩ := XMz_tb hMy.2.2 hm1 hm4 hg hq hr6
              have hb : 576 * m + 24 * g + q < 2880 := by omega
              rw [tb_ix]
              refine w_rdI ml63 rfl (by omega) ej (w_rdI (tb_len hr6) rfl hb et (w_cs0 (tp_give ha hI hj k1 ht) (fun y1 ⟨I1, f1⟩ => ?_)))
              rw [List.append_assoc] at I1
              exact c7 (F ++ [j]) 1 _ y1 I1 (fr_tr hf f1) (Or.inr ⟨rfl, grow j hle⟩) (Nat.le_of_lt (grow j hle))
            · exact absurd e10 (rn_neg1 (by omega))
          have h8 := hI.2.2.2.2 i (by omega)
          have h10 := hI.2.2.2.2 j (by omega)
          rcases hEF with hle | hgt
          · refine u_X13_follows_4 ?_; unfold qm_X13_follows_4
            refine w_rdI ml62 rfl (by omega) ei (w_rdI ml77 rfl (by omega) rfl (w_rdI ml63 rfl (by omega) ej (w_rdI ml77 rfl (by omega) rfl (w_if (fun _ => c5 _ _ h10 h8 hle) (fun n8 => w_if (fun _ => c5 _ _ h10 h8 hle) (fun n10 => ?_))))))
            rcases h8 with ⟨-, k2⟩ | ⟨k1, q, hq, eq⟩
            · exact absurd k2 n8
            obtain ⟨t, ht, et⟩ := XMz_tb hMy.2.2 hm1 hm4 hg hq hr6
            have hb : 576 * m + 24 * g + q < 2880 := by omega
            refine w_rdI (tb_len hr6) (by rw [eq]; exact tb_ix) hb et (w_if (fun _ => c5 _ _ h10 (Or.inr ⟨k1, q, hq, eq⟩) hle) (fun _ => w_okZ (Or.inl rfl) (w_some ⟨⟨F, hI⟩, hf⟩)))
          · exfalso
            omega
        refine w_rdI (pl6 hn) rfl (by omega) rfl (w_if (fun _ => ?_) (fun _ => ?_))
        · refine u_X13_follows_3 ?_; unfold qm_X13_follows_3
          exact w_rdI (pl6 hn) rfl (by omega) rfl (w_if (fun _ => c4 76 75 (Or.inr rfl) (Or.inl rfl)) (fun _ => c4 76 76 (Or.inr rfl) (Or.inr rfl)))
        · refine u_X13_follows_3 ?_; unfold qm_X13_follows_3
          exact w_rdI (pl6 hn) rfl (by omega) rfl (w_if (fun _ => c4 75 75 (Or.inl rfl) (Or.inl rfl)) (fun _ => c4 75 76 (Or.inl rfl) (Or.inr rfl)))
    refine u_X13_follows_1 ?_; unfold qm_X13_follows_1
    exact w_ifF (by decide) (pass c 0 E 0 y (by omega) hI hf (Or.inl rfl) (Nat.le_refl _))
  refine e_X13_follows ?_
  refine u_X13_follows_0 ?_; unfold qm_X13_follows_0
  exact key (a - (T ++ []).length) [] z (Nat.le_refl _) (by rw [List.append_nil]; exact hI) fr_rf
end MAPS
