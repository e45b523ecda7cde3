/-! both sides: what was made is the same diagram -/
section XJ
variable {X : (Nat → Nat → Int32) → Prop} {y z : ow_MS} {St : plT}
theorem relR_put {z1 : ow_MS} {e : Nat} {A' : rn_L} {sg' : Nat → Bool} (hR : relR z St) (he : e < 40) (hne : A' ≠ []) (hv : vRow z1 12 (32 * e) A' sg') (hi : ∀ i, i < 32 * e ∨ 32 * e + 32 ≤ i → z1.2.1 12 i = z.2.1 12 i) : relR z1 (upP St e (some (A', sg'))) := by
  intro d hd
  by_cases ed : d = e
  · subst ed
    rw [show upP St d (some (A', sg')) d = some (A', sg') from if_pos rfl]
    refine ⟨(fun h => by cases h), fun A sg h => ?_⟩
    cases h
    exact ⟨hne, hv⟩
  · rw [show upP St e (some (A', sg')) d = St d from if_neg ed]
    obtain ⟨k1, k2⟩ := hR d hd
    refine ⟨fun h => by rw [hi _ (by omega)]; exact k1 h, fun A sg h => ?_⟩
    obtain ⟨q1, ⟨q2, q3, q4, q5⟩, q6⟩ := k2 A sg h
    refine ⟨q1, ⟨q2, q3, by rw [hi _ (by omega)]; exact q4, fun k t hk => ?_⟩, q6⟩
    have := (List.getElem?_eq_some_iff.mp hk).1
    rw [hi _ (by omega)]
    exact q5 k t hk
theorem relC_put {y1 : ow_MS} {e : Nat} {A' : rn_L} {sg' : Nat → Bool} (hN : dgC y) (hC : relC y St) (hS : okS St) (hs : slC y1 1000 e (clC sg' A')) (ho : ∀ d C, d ≠ e → cOK C → slC y 1000 d C → slC y1 1000 d C) : relC y1 (upP St e (some (A', sg'))) := by
  intro d hd
  by_cases ed : d = e
  · subst ed
    rw [show upP St d (some (A', sg')) d = some (A', sg') from if_pos rfl]
    refine ⟨(fun h => by cases h), fun A sg h => ?_⟩
    cases h
    exact hs
  · rw [show upP St e (some (A', sg')) d = St d from if_neg ed]
    obtain ⟨k1, k2⟩ := hC d hd
    refine ⟨fun h => ?_, fun A sg h => ?_⟩
    · have h0 := k1 h
      rcases hN.2 d hd with ⟨c, c1, c2⟩ | ⟨C, c1, c2, c3⟩
      · exact (ho d _ ed ⟨c1, Nat.zero_le _, fun a ha => by cases ha⟩ c2).2.1
      · exfalso
        have h9 : y.2.1 1002 d = nI C.2.length := c1.2.1
        rw [h9] at h0
        have h30 := (okC_ok c2).2.1
        have := nI_inj9 (a := C.2.length) (b := 0) (by omega) (by omega) h0
        omega
    · obtain ⟨-, -, c, q3⟩ := hS d A sg hd h
      exact ho d _ ed (okL_c q3).2 (k2 A sg h)
/-- one diagram on both sides -/
theorem kp_join {e : Nat} {A2 : rn_L} {sg2 : Nat → Bool} {rc rr : Int32 × ow_MS} (hN : dgC y) (hC : relC y St) (hR : relR z St) (hS : okS St) (he : lstF St e) (h6 : A2.length ≤ 6) (hne : A2 ≠ []) (hc : cKp y e A2 sg2 rc) (hr : rKp X z e A2 sg2 rr) : rc.1 = rr.1 ∧ ∃ A' sg', relC rc.2 (upP St e (some (A', sg'))) ∧ relR rr.2 (upP St e (some (A', sg'))) ∧ okS (upP St e (some (A', sg'))) := by
  obtain ⟨c1, c2, c3, ⟨T, f, Cs, os, t1, t2, t3, t4, t5, t6⟩, c4⟩ := hc
  obtain ⟨r1, r2, r3, r4, ⟨m, P, m1, m2⟩, r5⟩ := hr
  obtain ⟨A', sg', p1, p2, p3, p4, f', p5⟩ := enc_iso (isoS_iff.mp t3.1) h6 t1 m1 t5
  have hne' : A' ≠ [] := fun e9 => by
    rw [e9] at p4
    exact hne (List.length_eq_zero_iff.mp p4.symm)
  refine ⟨by rw [c1, r2], A', sg', relC_put hN hC hS (by rw [← p3]; exact t6) c4, relR_put hR he.1 hne' ⟨by rw [← p1]; exact m2, ⟨T.1, p2.1, t1.2.1⟩, by omega⟩ r5, fun d A sg hd h => ?_⟩
  by_cases ed : d = e
  · subst ed
    rw [show upP St d (some (A', sg')) d = some (A', sg') from if_pos rfl] at h
    cases h
    exact ⟨hne', plnA_of p5 t2 t4, T.1, p2⟩
  · rw [show upP St e (some (A', sg')) d = St d from if_neg ed] at h
    exact hS d A sg hd h
end XJ
