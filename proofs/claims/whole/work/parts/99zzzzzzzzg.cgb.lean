/-! two kinds of visits: components parted and joined -/
def altB (L : List vT) (w bd : vT → Bool) : Prop := ∀ p, p ∈ L → w (sc L p) = if bd p = true then w p else !w p
theorem altB_out {L : List vT} {w bd : vT → Bool} {v : vT} (hn : L.Nodup) (hv : v ∈ L) (hb : bd v = true) (h : altB L w bd) : altB (L.filter (fun q => decide (q ≠ v))) w bd := by
  intro p hp
  obtain ⟨h1, h2⟩ := List.mem_filter.mp hp
  have h2 : p ≠ v := of_decide_eq_true h2
  rw [sc_fil hn h1 h2]
  have h3 := h p h1
  by_cases e : sc L p = v
  · have h4 := h v hv
    rw [if_pos hb] at h4
    rw [if_pos e, h4, ← e]
    exact h3
  · rw [if_neg e]
    exact h3
theorem altB_alt {L : List vT} {w bd : vT → Bool} (h : altB L w bd) (hb : ∀ p, p ∈ L → bd p = false) : ∀ p, p ∈ L → w (sc L p) = !w p := by
  intro p hp
  have := h p hp
  rw [hb p hp] at this
  exact this
/-- a component parted behind v and behind u -/
theorem altB_part {X Y : List vT} {w bd : vT → Bool} {v u : vT} (hn : ((X ++ [v]) ++ (Y ++ [u])).Nodup) (h : ∀ p, p ∈ (X ++ [v]) ++ (Y ++ [u]) → w (sc ((X ++ [v]) ++ (Y ++ [u])) p) = !w p) (hm : w u = !w v) (hb : ∀ p, bd p = true ↔ p = v ∨ p = u) : altB (X ++ [v]) w bd ∧ altB (Y ++ [u]) w bd := by
  have hv : v ∈ (X ++ [v]) ++ (Y ++ [u]) := List.mem_append_left _ (List.mem_append_right _ (List.mem_singleton.mpr rfl))
  have hu : u ∈ (X ++ [v]) ++ (Y ++ [u]) := List.mem_append_right _ (List.mem_append_right _ (List.mem_singleton.mpr rfl))
  have dis : ∀ p, p ∈ X ++ [v] → p ∈ Y ++ [u] → False := fun p h1 h2 => (List.nodup_append.mp hn).2.2 p h1 p h2 rfl
  refine ⟨fun p hp => ?_, fun p hp => ?_⟩
  · rw [sc_spl1 hn hp]
    by_cases e : p = v
    · rw [if_pos e, if_pos ((hb p).mpr (Or.inl e)), h u hu, hm, Bool.not_not, e]
    · have e2 : p ≠ u := fun h9 => dis p hp (by rw [h9]; exact List.mem_append_right _ (List.mem_singleton.mpr rfl))
      rw [if_neg e, if_neg (fun h9 => ((hb p).mp h9).elim e e2)]
      exact h p (List.mem_append_left _ hp)
  · rw [sc_spl2 hn hp]
    by_cases e : p = u
    · rw [if_pos e, if_pos ((hb p).mpr (Or.inr e)), h v hv, e, hm]
    · have e2 : p ≠ v := fun h9 => dis p (by rw [h9]; exact List.mem_append_right _ (List.mem_singleton.mpr rfl)) hp
      rw [if_neg e, if_neg (fun h9 => ((hb p).mp h9).elim e2 e)]
      exact h p (List.mem_append_right _ hp)
/-- two components joined behind v and behind u -/
theorem altB_merge {X Y : List vT} {w bd : vT → Bool} {v u : vT} (hn : ((X ++ [v]) ++ (Y ++ [u])).Nodup) (h1 : ∀ p, p ∈ X ++ [v] → w (sc (X ++ [v]) p) = !w p) (h2 : ∀ p, p ∈ Y ++ [u] → w (sc (Y ++ [u]) p) = !w p) (hm : w u = !w v) (hb : ∀ p, bd p = true ↔ p = v ∨ p = u) : altB ((X ++ [v]) ++ (Y ++ [u])) w bd := by
  have hv : v ∈ X ++ [v] := List.mem_append_right _ (List.mem_singleton.mpr rfl)
  have hu : u ∈ Y ++ [u] := List.mem_append_right _ (List.mem_singleton.mpr rfl)
  have dis : ∀ p, p ∈ X ++ [v] → p ∈ Y ++ [u] → False := fun p g1 g2 => (List.nodup_append.mp hn).2.2 p g1 p g2 rfl
  intro p hp
  rcases List.mem_append.mp hp with hq | hq
  · have e2 : p ≠ u := fun h9 => dis p hq (by rw [h9]; exact hu)
    by_cases e : p = v
    · have := sc_spl2 hn hu
      rw [if_pos rfl] at this
      rw [if_pos ((hb p).mpr (Or.inl e)), e, ← this, h2 u hu, hm, Bool.not_not]
    · have := sc_spl1 hn hq
      rw [if_neg e] at this
      rw [if_neg (fun h9 => ((hb p).mp h9).elim e e2), ← this]
      exact h1 p hq
  · have e2 : p ≠ v := fun h9 => dis p (by rw [h9]; exact hv) hq
    by_cases e : p = u
    · have := sc_spl1 hn hv
      rw [if_pos rfl] at this
      rw [if_pos ((hb p).mpr (Or.inr e)), e, ← this, h1 v hv, hm]
    · have := sc_spl2 hn hq
      rw [if_neg e] at this
      rw [if_neg (fun h9 => ((hb p).mp h9).elim e2 e), ← this]
      exact h2 p hq
