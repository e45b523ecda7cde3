/-! two kinds of visits: from nets to lists, reversed and mirrored -/
theorem gaA_of {A : rn_L} {sg : Nat → Bool} {f : Nat → Nat} {T : ow_NT} {w : Nat → Bool} (h : isoV A sg f T) (hw : gaO T.1 T.2.2.1 w) : gaA A (fun p => w (gl f p)) := by
  refine ⟨fun L hL p hp => ?_, fun x hx => ?_⟩
  · show w (gl f (sc L p)) = !w (gl f p)
    rw [← (h.2 L hL p hp).1]
    exact (hw _ (gl_lt h (List.mem_flatten.mpr ⟨L, hL, hp⟩))).1
  · show w (gl f (x, 1)) = !w (gl f (x, 0))
    rw [← gl_mt.1]
    exact (hw _ (gl_lt h hx)).2
/-- the kinds go with the net -/
theorem gaA_iso {A A' : rn_L} {sg sg' : Nat → Bool} {f f' : Nat → Nat} {T : ow_NT} {w : vT → Bool} (h : isoV A sg f T) (h' : isoV A' sg' f' T) (hw : gaA A w) : ∃ w', gaA A' w' := by
  obtain ⟨w0, h0⟩ := gaT_of h hw
  exact ⟨_, gaA_of h' h0⟩
theorem sc_rv {L : List vT} {p : vT} (hn : L.Nodup) (hp : p ∈ L) : sc L (sc L.reverse p) = p := by
  have h1 : L.reverse.Nodup := List.pairwise_reverse.mpr (hn.imp (fun h9 e => h9 e.symm))
  have h2 := sc_rev h1 (List.mem_reverse.mpr hp)
  rw [List.reverse_reverse] at h2
  exact h2
theorem gaA_rv {A A' : rn_L} {w : vT → Bool} (hn : A.flatten.Nodup) (h : gaA A w) (hA : ∀ L, L ∈ A' → L ∈ A ∨ L.reverse ∈ A) : gaA A' w := by
  have mem : ∀ L, L ∈ A' → ∀ p, p ∈ L → p ∈ A.flatten := fun L hL p hp => by
    rcases hA L hL with h1 | h1
    · exact List.mem_flatten.mpr ⟨L, h1, hp⟩
    · exact List.mem_flatten.mpr ⟨_, h1, List.mem_reverse.mpr hp⟩
  refine ⟨fun L hL p hp => ?_, fun x hx => ?_⟩
  · rcases hA L hL with h1 | h1
    · exact h.1 L h1 p hp
    · have nL := L_nd hn h1
      have hp' : p ∈ L.reverse := List.mem_reverse.mpr hp
      have nL2 : L.Nodup := by
        have h8 : L.reverse.reverse.Nodup := List.pairwise_reverse.mpr (nL.imp (fun h9 e => h9 e.symm))
        rw [List.reverse_reverse] at h8
        exact h8
      have h2 := sc_in hp nL2
      have e := sc_rv nL hp'
      rw [List.reverse_reverse] at e
      have h3 := h.1 _ h1 (sc L p) (List.mem_reverse.mpr h2)
      rw [e] at h3
      rw [h3, Bool.not_not]
  · obtain ⟨L, hL, hp⟩ := List.mem_flatten.mp hx
    exact h.2 x (mem L hL _ hp)
/-- over and under changed at the crossings of b -/
def swU (b : Nat → Bool) (p : vT) : vT := if b p.1 = true then (p.1, 1 - p.2) else p
theorem gaA_sw {A : rn_L} {w : vT → Bool} (b : Nat → Bool) (hF : wkF A.flatten) (h : gaA A w) : gaA (A.map (List.map (swU b))) (fun p => w (swU b p)) := by
  have lt : ∀ p, p ∈ A.flatten → p.2 < 2 := fun p hp => (hF.2 p hp).2.1
  have inv : ∀ p, p.2 < 2 → swU b (swU b p) = p := by
    intro p hp
    obtain ⟨x, u⟩ := p
    unfold swU
    dsimp only at hp ⊢
    by_cases e : b x = true
    · rw [if_pos e]
      dsimp only
      rw [if_pos e, show 1 - (1 - u) = u by omega]
    · rw [if_neg e]
      dsimp only
      rw [if_neg e]
  refine ⟨fun L' hL' q hq => ?_, fun x hx => ?_⟩
  · obtain ⟨L, hL, rfl⟩ := List.mem_map.mp hL'
    obtain ⟨p, hp, rfl⟩ := List.mem_map.mp hq
    have nL := L_nd hF.1 hL
    have mF : ∀ a, a ∈ L → a ∈ A.flatten := fun a ha => List.mem_flatten.mpr ⟨L, hL, ha⟩
    show w (swU b (sc (L.map (swU b)) (swU b p))) = !w (swU b (swU b p))
    rw [sc_map nL (fun a c ha hc e => by rw [← inv a (lt a (mF a ha)), e, inv c (lt c (mF c hc))]) hp, inv _ (lt _ (mF _ (sc_in hp nL))), inv _ (lt _ (mF _ hp))]
    exact h.1 L hL p hp
  · have hx0 : (x, 0) ∈ A.flatten := by
      rw [← List.map_flatten] at hx
      obtain ⟨p, hp, e⟩ := List.mem_map.mp hx
      have h1 := hF.2 p hp
      have e1 : p = swU b (x, 0) := by rw [← e, inv p h1.2.1]
      unfold swU at e1
      dsimp only at e1
      by_cases e9 : b x = true
      · rw [if_pos e9] at e1
        have h2 := h1.2.2
        rw [e1] at h2
        exact h2
      · rw [if_neg e9] at e1
        rw [← e1]
        exact hp
    have h2 := h.2 x hx0
    show w (swU b (x, 1)) = !w (swU b (x, 0))
    unfold swU
    dsimp only
    by_cases e9 : b x = true
    · rw [if_pos e9, if_pos e9]
      show w (x, 0) = !w (x, 1)
      rw [h2, Bool.not_not]
    · rw [if_neg e9, if_neg e9]
      exact h2
/-- two nets side by side -/
theorem gaA_ap {A B : rn_L} {w v : vT → Bool} (nA : A.flatten.Nodup) (nB : B.flatten.Nodup) (hA : gaA A w) (hB : gaA B v) (hd : ∀ x, (∃ u, (x, u) ∈ A.flatten) → ¬ ∃ u, (x, u) ∈ B.flatten) (b : Nat → Bool) (hb : ∀ x, b x = true ↔ ∃ u, (x, u) ∈ A.flatten) : gaA (A ++ B) (fun p => if b p.1 = true then w p else v p) := by
  have inA : ∀ p, p ∈ A.flatten → b p.1 = true := fun p hp => (hb p.1).mpr ⟨p.2, hp⟩
  have inB : ∀ p, p ∈ B.flatten → ¬ b p.1 = true := fun p hp h9 => hd p.1 ((hb p.1).mp h9) ⟨p.2, hp⟩
  refine ⟨fun L hL p hp => ?_, fun x hx => ?_⟩
  · rcases List.mem_append.mp hL with h1 | h1
    · have a1 := inA p (List.mem_flatten.mpr ⟨L, h1, hp⟩)
      have a2 : b (sc L p).1 = true := inA _ (List.mem_flatten.mpr ⟨L, h1, sc_in hp (L_nd nA h1)⟩)
      dsimp only
      rw [if_pos a1, if_pos a2]
      exact hA.1 L h1 p hp
    · have a1 := inB p (List.mem_flatten.mpr ⟨L, h1, hp⟩)
      have a2 : ¬ b (sc L p).1 = true := inB _ (List.mem_flatten.mpr ⟨L, h1, sc_in hp (L_nd nB h1)⟩)
      dsimp only
      rw [if_neg a1, if_neg a2]
      exact hB.1 L h1 p hp
  · rw [List.flatten_append] at hx
    dsimp only
    rcases List.mem_append.mp hx with h1 | h1
    · rw [if_pos (inA _ h1), if_pos (inA _ h1)]
      exact hA.2 x h1
    · rw [if_neg (inB _ h1), if_neg (inB _ h1)]
      exact hB.2 x h1
