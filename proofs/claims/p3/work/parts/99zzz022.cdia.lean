section
/-! 99zzzzzzb.cdia -/
/-! the class: diagram -/
def gT (y : ow_MS) : Prop := ∃ n, n ≤ 400 ∧ y.1 11001 = nI n
def diP (g : Nat) : Prop := uP g ∨ g = 6001 ∨ g = 6002 ∨ 11001 ≤ g ∧ g ≤ 11006
theorem gN_d {P : Nat → Prop} {y y1 : ow_MS} (hf : fr P y y1) (hP : ∀ g, P g → 4001 ≤ g ∧ g ≤ 4011 ∨ g = 6001 ∨ g = 6002 ∨ 11001 ≤ g ∧ g ≤ 11006) (hT : ∃ T, cAt y1 4000 T ∧ ow_b24 T.2.2.1) (hN : gN y) : gN y1 := by
  refine ⟨dgC_fr hf (fun g g1 g2 h9 => by have := hP g h9; omega) hN.1, nsC_put nH4 hf (fun h' hh' hne g hg h9 => ?_) hT hN.2.1, kdC_fr hf (fun g h9 => by have := hP g h9; omega) hN.2.2⟩
  have h7 := hP g h9
  have key : ∀ a, a ∈ nHL → a = 4000 ∨ a = 5000 ∨ 16000 ≤ a := by decide
  have := key h' hh'
  unfold cP at hg
  omega
section CDI
variable {vl : Nat → Nat} {y : ow_MS}
theorem u_X11_diagram_1 {vl : Nat → Nat} {x1 : Int32} {x2 : Int32} {r0 : Nat} {z : ow_MS} {Q : (Nat × Int32 × ow_MS) → Prop} (H : Tt (fun K k => cm_X11_diagram_1 vl K (c_X11_diagram vl K k) x1 x2 r0 z) Q) : Tt (fun K k => c_X11_diagram vl K k 1 x1 x2 r0 z) Q := w_un (fun _ _ => rfl) H
theorem e_X11_diagram {vl : Nat → Nat} {r0 : Nat} {z : ow_MS} {Q : (Nat × Int32 × ow_MS) → Prop} (H : Tt (fun K k => c_X11_diagram vl K k 0 0 0 r0 z) Q) : Te (fun K => ce_X11_diagram vl K r0 z) Q := w_te H
theorem u_X11_diagram_0 {vl : Nat → Nat} {x1 : Int32} {x2 : Int32} {r0 : Nat} {z : ow_MS} {Q : (Nat × Int32 × ow_MS) → Prop} (H : Tt (fun K k => cm_X11_diagram_0 vl K (c_X11_diagram vl K k) x1 x2 r0 z) Q) : Tt (fun K k => c_X11_diagram vl K k 0 x1 x2 r0 z) Q := w_un (fun _ _ => rfl) H
theorem tc_diagram (hN : gM y) (hT : gT y) : Te (fun K => ce_X11_diagram vl K 0 y) (fun r => gM r.2.2 ∧ gT r.2.2 ∧ fr diP y r.2.2) := by
  obtain ⟨n, hn, en⟩ := id hT
  let Q0 : ow_MS → Nat × Int32 × ow_MS → Prop := fun y r => gM r.2.2 ∧ gT r.2.2 ∧ fr diP y r.2.2
  have c1 : ∀ (y0 z : ow_MS) (e : Nat) (x2 : Int32), e < 40 → gM z → fr diP y0 z → (x2 = -1 → ∃ T, cAt z 4000 T ∧ nv T) → Tt (fun K t => c_X11_diagram vl K t 1 (nI e) x2 0 z) (Q0 y0) := by
    intro y0 z e x2 he h1 h2 h3
    refine u_X11_diagram_1 ?_; unfold cm_X11_diagram_1
    have f1 : fr (fun g => g = 11001) z (usF z (0 + 11000 + 1) 0) := fr_F rfl
    have hN1 : gN (usF z (0 + 11000 + 1) 0) := gN_F (g := 11001) (far_cP (by omega)) h1.1
    have hM1 : gM (usF z (0 + 11000 + 1) 0) := ⟨hN1, tbs_fr f1 (fun g hg => by omega) h1.2⟩
    have fd1 : fr diP y0 (usF z (0 + 11000 + 1) 0) := fr_tr h2 (fr_mono (fun g hg => by unfold diP uP; omega) f1)
    have t1 : (usF z (0 + 11000 + 1) 0).1 11001 = nI 0 := po_usF_at
    refine w_wrF (w_if (fun ex => ?_) (fun _ => w_some ⟨hM1, ⟨0, by omega, t1⟩, fd1⟩))
    obtain ⟨T, t2, t3⟩ := h3 ex
    refine w_cs1 (tc_keep hN1 he (cAt_fr f1 (fun g hg h9 => by unfold cP at hg; omega) t2) t3) ?_
    rintro r z2 ⟨-, g1, g2, -⟩
    refine w_some ⟨gM_u g2 g1 hM1, ⟨0, by omega, ?_⟩, fr_tr fd1 (fr_mono (fun g hg => Or.inl hg) g2)⟩
    show z2.1 11001 = nI 0
    rw [(g2 11001 (by unfold uP; omega)).1]
    exact t1
  refine e_X11_diagram ?_
  refine u_X11_diagram_0 ?_; unfold cm_X11_diagram_0
  refine w_tc1 (tc_freeDiagram (dgC_E hN.1.1)) ?_ ?_
  · rintro v y1 ⟨h2, rfl⟩
    rcases h2 with ⟨e, he, -, rfl, h3, h4⟩ | h2
    · refine w_cs1 (tc_readDiagram en hn (hN.1.2.1 4000 nH4)) ?_
      rintro v y2 ⟨f2, hT2, e2⟩
      dsimp only at f2 hT2 e2
      have u2 : ∀ g, rdP g → 4001 ≤ g ∧ g ≤ 4011 ∨ g = 6001 ∨ g = 6002 ∨ 11001 ≤ g ∧ g ≤ 11006 := fun g hg => by unfold rdP cP at hg; omega
      have hM2 : gM y2 := ⟨gN_d f2 u2 hT2 hN.1, tbs_fr f2 (fun g hg => by have := u2 g hg; omega) hN.2⟩
      have fd2 : fr diP y1 y2 := fr_mono (fun g hg => by have := u2 g hg; unfold diP uP; omega) f2
      rcases e2 with ⟨rfl, T, t1, t2⟩ | ⟨b, b1, rfl⟩
      · refine w_ifT rfl (w_cs1 (tc_plane (f := 6000) nH4 (Or.inl rfl) (by omega) t1 t2.2.2.1 t2.1 t2.2.1) ?_)
        rintro w y3 ⟨e3, f3⟩
        dsimp only at e3 f3
        have u3 : ∀ g, (cQ 4000 g ∨ cF 6000 g) → 4001 ≤ g ∧ g ≤ 4011 ∨ g = 6001 ∨ g = 6002 ∨ 11001 ≤ g ∧ g ≤ 11006 := fun g hg => by unfold cQ cF at hg; omega
        have t13 : cAt y3 4000 T := cAt_fr f3 (fun g hg h9 => by unfold cP at hg; unfold cQ cF at h9; omega) t1
        have hM3 : gM y3 := ⟨gN_d f3 u3 ⟨T, t13, t2.2.2.1⟩ hM2.1, tbs_fr f3 (fun g hg => by have := u3 g hg; omega) hM2.2⟩
        have fd3 : fr diP y1 y3 := fr_tr fd2 (fr_mono (fun g hg => by have := u3 g hg; unfold diP uP; omega) f3)
        have en3 : y3.1 11001 = nI n := by
          rw [(f3 11001 (by unfold cQ cF; omega)).1, (f2 11001 (by unfold rdP cP; omega)).1]
          exact en
        refine w_if (fun _ => w_rdF en3 (c1 y1 y3 e (nI n) he hM3 fd3 (fun h9 => absurd h9 (nI_nm1 (by omega))))) (fun _ => c1 y1 y3 e (-1) he hM3 fd3 (fun _ => ⟨T, t13, t2⟩))
      · exact w_ifF (nI_nm1 (by omega)) (c1 y1 y2 e (nI b) he hM2 fd2 (fun h9 => absurd h9 (nI_nm1 (by omega))))
    · exact absurd (show (0 : Nat) = 3 from h2.1) (by decide)
  · rintro a v y1 ha ⟨h2, rfl⟩
    exact w_some ⟨hN, hT, fr_rf⟩
end CDI
end
section
/-! 99zzzzzzc.cbrd -/
/-! the class: braid, product, inverse -/
/-- the letters of a place: below n in number, not 0 -/
def wdB (y : ow_MS) (b n l : Nat) : Prop := ∀ i, i < l → ∃ a : Int, y.2.1 13 (16 * b + i) = iI a ∧ 1 ≤ a.natAbs ∧ a.natAbs < n
/-- the places of the braids -/
def brC (y : ow_MS) : Prop := ∀ b, b < 20 → ∃ n l, n ≤ 5 ∧ n ≠ 1 ∧ y.2.1 15 b = nI n ∧ (0 < n → l ≤ 16 ∧ y.2.1 14 b = nI l ∧ wdB y b n l)
theorem brC_E {y : ow_MS} (h : brC y) : brE y := by
  intro b hb
  obtain ⟨n, l, h1, h2, h3, h4⟩ := h b hb
  exact ⟨n, h1, h3⟩
theorem brC_fr {P : Nat → Prop} {y y1 : ow_MS} (hf : fr P y y1) (hP : ¬ P 13 ∧ ¬ P 14 ∧ ¬ P 15) (h : brC y) : brC y1 := by
  intro b hb
  obtain ⟨n, l, h1, h2, h3, h4⟩ := h b hb
  refine ⟨n, l, h1, h2, by rw [(hf 15 hP.2.2).2.1]; exact h3, fun h0 => ?_⟩
  obtain ⟨q1, q2, q3⟩ := h4 h0
  refine ⟨q1, by rw [(hf 14 hP.2.1).2.1]; exact q2, fun i hi => ?_⟩
  rw [(hf 13 hP.1).2.1]
  exact q3 i hi
theorem lt_c : ∀ k : Fin 9, vp_nar .byte (iI ((k.val : Int) - 4)).toInt8.toInt32 = iI ((k.val : Int) - 4) ∧ fits .byte (.int (iI ((k.val : Int) - 4))) = true ∧ -(iI ((k.val : Int) - 4)) = iI (4 - (k.val : Int)) := by decide +kernel
theorem lt_a {a : Int} (h : a.natAbs ≤ 4) : vp_nar .byte (iI a).toInt8.toInt32 = iI a ∧ fits .byte (.int (iI a)) = true ∧ -(iI a) = iI (-a) := by
  have h1 := lt_c ⟨(a + 4).toNat, by omega⟩
  have e : (((a + 4).toNat : Nat) : Int) - 4 = a := by omega
  have e2 : 4 - (((a + 4).toNat : Nat) : Int) = -a := by omega
  dsimp only at h1
  rw [e, e2] at h1
  exact h1
def bdP (g : Nat) : Prop := 13 ≤ g ∧ g ≤ 15 ∨ g = 11001
section CBR
variable {vl : Nat → Nat} {y : ow_MS} {x x' : Int32}
theorem ch_13 : ((cX vl).2 13).2.1 = 320 := rfl
theorem ch_14 : ((cX vl).2 14).2.1 = 20 := rfl
theorem ltr_of {v : Int32} {n : Nat} (hn : 2 ≤ n) (hn5 : n ≤ 5) (h0 : ¬ v < 0) (h1 : ¬ nI (n - 1) ≤ v) : ∃ s, s < n - 1 ∧ v = nI s := by
  obtain ⟨s, s31, rfl⟩ := nI_of h0
  refine ⟨s, ?_, rfl⟩
  apply Nat.lt_of_not_le
  exact fun h9 => h1 (nI_le h9 s31)
theorem u_X9_readBraid_1 {vl : Nat → Nat} {x1 : Int32} {x3 : Int32} {x4 : Int32} {x5 : Int32} {x6 : Int32} {r0 : Nat} {r2 : Nat} {z : ow_MS} {Q : (Int32 × ow_MS) → Prop} (H : Tt (fun K k => cm_X9_readBraid_1 vl K (c_X9_readBraid vl K k) x1 x3 x4 x5 x6 r0 r2 z) Q) : Tt (fun K k => c_X9_readBraid vl K k 1 x1 x3 x4 x5 x6 r0 r2 z) Q := w_un (fun _ _ => rfl) H
theorem u_X9_readBraid_3 {vl : Nat → Nat} {x1 : Int32} {x3 : Int32} {x4 : Int32} {x5 : Int32} {x6 : Int32} {r0 : Nat} {r2 : Nat} {z : ow_MS} {Q : (Int32 × ow_MS) → Prop} (H : Tt (fun K k => cm_X9_readBraid_3 vl K (c_X9_readBraid vl K k) x1 x3 x4 x5 x6 r0 r2 z) Q) : Tt (fun K k => c_X9_readBraid vl K k 3 x1 x3 x4 x5 x6 r0 r2 z) Q := w_un (fun _ _ => rfl) H
theorem u_X9_readBraid_2 {vl : Nat → Nat} {x1 : Int32} {x3 : Int32} {x4 : Int32} {x5 : Int32} {x6 : Int32} {r0 : Nat} {r2 : Nat} {z : ow_MS} {Q : (Int32 × ow_MS) → Prop} (H : Tt (fun K k => cm_X9_readBraid_2 vl K (c_X9_readBraid vl K k) x1 x3 x4 x5 x6 r0 r2 z) Q) : Tt (fun K k => c_X9_readBraid vl K k 2 x1 x3 x4 x5 x6 r0 r2 z) Q := w_un (fun _ _ => rfl) H
theorem e_X9_readBraid {vl : Nat → Nat} {r0 : Nat} {x1 : Int32} {r2 : Nat} {x3 : Int32} {z : ow_MS} {Q : (Int32 × ow_MS) → Prop} (H : Tt (fun K k => c_X9_readBraid vl K k 0 x1 x3 0 0 0 r0 r2 z) Q) : Te (fun K => ce_X9_readBraid vl K r0 x1 r2 x3 z) Q := w_te H
theorem u_X9_readBraid_0 {vl : Nat → Nat} {x1 : Int32} {x3 : Int32} {x4 : Int32} {x5 : Int32} {x6 : Int32} {r0 : Nat} {r2 : Nat} {z : ow_MS} {Q : (Int32 × ow_MS) → Prop} (H : Tt (fun K k => cm_X9_readBraid_0 vl K (c_X9_readBraid vl K k) x1 x3 x4 x5 x6 r0 r2 z) Q) : Tt (fun K k => c_X9_readBraid vl K k 0 x1 x3 x4 x5 x6 r0 r2 z) Q := w_un (fun _ _ => rfl) H
/-- a braid gets a place -/
theorem brC_put {z1 : ow_MS} {d n l : Nat} (hd : d < 20) (h : brC y) (hk : ∀ k, k < 16 * d ∨ 16 * d + 16 ≤ k → z1.2.1 13 k = y.2.1 13 k) (hk4 : ∀ k, k ≠ d → z1.2.1 14 k = y.2.1 14 k) (hk5 : ∀ k, k ≠ d → z1.2.1 15 k = y.2.1 15 k) (h5 : n ≤ 5 ∧ n ≠ 1) (e5 : z1.2.1 15 d = nI n) (h0 : 0 < n → l ≤ 16 ∧ z1.2.1 14 d = nI l ∧ wdB z1 d n l) : brC z1 := by
  intro b hb
  by_cases e : b = d
  · rw [e]
    exact ⟨n, l, h5.1, h5.2, e5, h0⟩
  · obtain ⟨n', l', q1, q2, q3, q4⟩ := h b hb
    refine ⟨n', l', q1, q2, by rw [hk5 b e]; exact q3, fun hn' => ?_⟩
    obtain ⟨r1, r2, r3⟩ := q4 hn'
    refine ⟨r1, by rw [hk4 b e]; exact r2, fun i hi => ?_⟩
    rw [hk (16 * b + i) (by omega)]
    exact r3 i hi
theorem e_X11_braid {vl : Nat → Nat} {r0 : Nat} {x1 : Int32} {z : ow_MS} {Q : (Nat × Int32 × ow_MS) → Prop} (H : Tt (fun K _ => cm_X11_braid_0 vl K x1 r0 z) Q) : Te (fun K => ce_X11_braid vl K r0 x1 z) Q := w_te0 H
end CBR
end
section
/-! 99zzzzzzd.cprod -/
/-! the class: product, inverse -/
section CPI
variable {vl : Nat → Nat} {y : ow_MS} {x x' : Int32}
theorem m16 {d : Nat} : nI d * 16 = nI (16 * d) := by
  rw [show (16 : Int32) = nI 16 from rfl, pk_mul, Nat.mul_comm]
/-- a braid's place -/
theorem isB_w (hB : brC y) (h : isB y x) : ∃ b n l, b < 20 ∧ x = nI b ∧ 2 ≤ n ∧ n ≤ 5 ∧ y.2.1 15 b = nI n ∧ l ≤ 16 ∧ y.2.1 14 b = nI l ∧ wdB y b n l := by
  obtain ⟨b, n, h1, h2, h3, h4, h5⟩ := h
  obtain ⟨n', l, q1, q2, q3, q4⟩ := hB b h1
  have e : n = n' := nI_inj9 (by omega) (by omega) (h3.symm.trans q3)
  rw [← e] at q2 q4
  obtain ⟨r1, r2, r3⟩ := q4 (by omega)
  exact ⟨b, n, l, h1, h2, by omega, h5, h3, r1, r2, r3⟩
theorem e_X11_inverse {vl : Nat → Nat} {r0 : Nat} {x1 : Int32} {z : ow_MS} {Q : (Nat × Int32 × ow_MS) → Prop} (H : Tt (fun K k => c_X11_inverse vl K k 0 x1 0 0 0 r0 z) Q) : Te (fun K => ce_X11_inverse vl K r0 x1 z) Q := w_te H
theorem u_X11_inverse_0 {vl : Nat → Nat} {x1 : Int32} {x2 : Int32} {x3 : Int32} {x4 : Int32} {r0 : Nat} {z : ow_MS} {Q : (Nat × Int32 × ow_MS) → Prop} (H : Tt (fun K k => cm_X11_inverse_0 vl K (c_X11_inverse vl K k) x1 x2 x3 x4 r0 z) Q) : Tt (fun K k => c_X11_inverse vl K k 0 x1 x2 x3 x4 r0 z) Q := w_un (fun _ _ => rfl) H
theorem u_X11_inverse_1 {vl : Nat → Nat} {x1 : Int32} {x2 : Int32} {x3 : Int32} {x4 : Int32} {r0 : Nat} {z : ow_MS} {Q : (Nat × Int32 × ow_MS) → Prop} (H : Tt (fun K k => cm_X11_inverse_1 vl K (c_X11_inverse vl K k) x1 x2 x3 x4 r0 z) Q) : Tt (fun K k => c_X11_inverse vl K k 1 x1 x2 x3 x4 r0 z) Q := w_un (fun _ _ => rfl) H
theorem e_X11_product {vl : Nat → Nat} {r0 : Nat} {x1 : Int32} {x2 : Int32} {z : ow_MS} {Q : (Nat × Int32 × ow_MS) → Prop} (H : Tt (fun K _ => cm_X11_product_0 vl K x1 x2 r0 z) Q) : Te (fun K => ce_X11_product vl K r0 x1 x2 z) Q := w_te0 H
end CPI
end
section
/-! 99zzzzzze.cclo -/
/-! strands linked, then closed -/
def uO (f : Nat → Option Nat) (k : Nat) (o : Option Nat) : Nat → Option Nat := fun j => if j = k then o else f j
theorem uO_at {f : Nat → Option Nat} {k : Nat} {o : Option Nat} : uO f k o k = o := if_pos rfl
theorem uO_ne {f : Nat → Option Nat} {k j : Nat} {o : Option Nat} (h : j ≠ k) : uO f k o j = f j := if_neg h
/-- open strands: La their last visits, Fi the first ones -/
def oX (D E : Nat → Prop) (s : Nat) (S : ow_NP) (La Fi : Nat → Option Nat) : Prop := (∀ k v, k < s → La k = some v → D v) ∧ (∀ k v, k < s → Fi k = some v → D v) ∧ (∀ k k' v, k < s → k' < s → La k = some v → La k' = some v → k = k') ∧ (∀ k k' v, k < s → k' < s → Fi k = some v → Fi k' = some v → k = k') ∧ (∀ v, D v → (∀ k, k < s → La k ≠ some v) → D (S.1 v) ∧ (v / 2 < S.1 v / 2 ∨ E v) ∧ S.2 (S.1 v) = v ∧ ∀ k, k < s → Fi k ≠ some (S.1 v)) ∧ ∀ v, D v → (∀ k, k < s → Fi k ≠ some v) → D (S.2 v) ∧ S.1 (S.2 v) = v ∧ ∀ k, k < s → La k ≠ some (S.2 v)
section COX
variable {D E : Nat → Prop} {s : Nat} {S : ow_NP} {La Fi : Nat → Option Nat}
theorem oX_new {k v : Nat} (h : oX D E s S La Fi) (hk : k < s) (hv : ¬ D v) (e1 : La k = none) (e2 : Fi k = none) : oX (fun u => D u ∨ u = v) E s S (uO La k (some v)) (uO Fi k (some v)) := by
  obtain ⟨h1, h2, h3, h4, h5, h6⟩ := h
  have old : ∀ {f : Nat → Option Nat} {j w : Nat}, uO f k (some v) j = some w → j = k ∧ w = v ∨ j ≠ k ∧ f j = some w := by
    intro f j w e
    by_cases ej : j = k
    · rw [ej, uO_at] at e
      cases e
      exact Or.inl ⟨ej, rfl⟩
    · rw [uO_ne ej] at e
      exact Or.inr ⟨ej, e⟩
  refine ⟨fun j w hj e => ?_, fun j w hj e => ?_, fun j j' w hj hj' e e' => ?_, fun j j' w hj hj' e e' => ?_, fun w hw hn => ?_, fun w hw hn => ?_⟩
  · rcases old e with ⟨_, q⟩ | ⟨_, q⟩
    · exact Or.inr q
    · exact Or.inl (h1 j w hj q)
  · rcases old e with ⟨_, q⟩ | ⟨_, q⟩
    · exact Or.inr q
    · exact Or.inl (h2 j w hj q)
  · rcases old e with ⟨a, q⟩ | ⟨a, q⟩ <;> rcases old e' with ⟨a', q'⟩ | ⟨a', q'⟩
    · rw [a, a']
    · exact absurd (h1 j' w hj' q') (by rw [q]; exact hv)
    · exact absurd (h1 j w hj q) (by rw [q']; exact hv)
    · exact h3 j j' w hj hj' q q'
  · rcases old e with ⟨a, q⟩ | ⟨a, q⟩ <;> rcases old e' with ⟨a', q'⟩ | ⟨a', q'⟩
    · rw [a, a']
    · exact absurd (h2 j' w hj' q') (by rw [q]; exact hv)
    · exact absurd (h2 j w hj q) (by rw [q']; exact hv)
    · exact h4 j j' w hj hj' q q'
  · have hne : w ≠ v := fun e => hn k hk (by rw [uO_at, e])
    have hD : D w := hw.resolve_right hne
    obtain ⟨q1, q2, q3, q4⟩ := h5 w hD (fun j hj e => by
      by_cases ej : j = k
      · rw [ej, e1] at e
        cases e
      · exact hn j hj (by rw [uO_ne ej]; exact e))
    refine ⟨Or.inl q1, q2, q3, fun j hj e => ?_⟩
    rcases old e with ⟨_, q⟩ | ⟨_, q⟩
    · rw [q] at q1
      exact hv q1
    · exact q4 j hj q
  · have hne : w ≠ v := fun e => hn k hk (by rw [uO_at, e])
    have hD : D w := hw.resolve_right hne
    obtain ⟨q1, q2, q3⟩ := h6 w hD (fun j hj e => by
      by_cases ej : j = k
      · rw [ej, e2] at e
        cases e
      · exact hn j hj (by rw [uO_ne ej]; exact e))
    refine ⟨Or.inl q1, q2, fun j hj e => ?_⟩
    rcases old e with ⟨_, q⟩ | ⟨_, q⟩
    · rw [q] at q1
      exact hv q1
    · exact q3 j hj q
theorem oX_ext {k u v : Nat} (h : oX D E s S La Fi) (hk : k < s) (hv : ¬ D v) (e1 : La k = some u) (huv : u / 2 < v / 2) : oX (fun w => D w ∨ w = v) E s (nl S u v) (uO La k (some v)) Fi := by
  obtain ⟨h1, h2, h3, h4, h5, h6⟩ := h
  have hDu := h1 k u hk e1
  have n1 : ∀ w, w ≠ u → (nl S u v).1 w = S.1 w := fun w hw => if_neg hw
  have n2 : ∀ w, w ≠ v → (nl S u v).2 w = S.2 w := fun w hw => if_neg hw
  have n3 : (nl S u v).1 u = v := if_pos rfl
  have n4 : (nl S u v).2 v = u := if_pos rfl
  have old : ∀ {j w : Nat}, uO La k (some v) j = some w → j = k ∧ w = v ∨ j ≠ k ∧ La j = some w := by
    intro j w e
    by_cases ej : j = k
    · rw [ej, uO_at] at e
      cases e
      exact Or.inl ⟨ej, rfl⟩
    · rw [uO_ne ej] at e
      exact Or.inr ⟨ej, e⟩
  have hne' : ∀ w, D w → w ≠ v := fun w hw e => hv (by rw [← e]; exact hw)
  refine ⟨fun j w hj e => ?_, fun j w hj e => Or.inl (h2 j w hj e), fun j j' w hj hj' e e' => ?_, h4, fun w hw hn => ?_, fun w hw hn => ?_⟩
  · rcases old e with ⟨_, q⟩ | ⟨_, q⟩
    · exact Or.inr q
    · exact Or.inl (h1 j w hj q)
  · rcases old e with ⟨a, q⟩ | ⟨a, q⟩ <;> rcases old e' with ⟨a', q'⟩ | ⟨a', q'⟩
    · rw [a, a']
    · exact absurd (h1 j' w hj' q') (by rw [q]; exact hv)
    · exact absurd (h1 j w hj q) (by rw [q']; exact hv)
    · exact h3 j j' w hj hj' q q'
  · have hne : w ≠ v := fun e => hn k hk (by rw [uO_at, e])
    have hD : D w := hw.resolve_right hne
    by_cases ew : w = u
    · rw [ew, n3, n4]
      exact ⟨Or.inr rfl, Or.inl huv, rfl, fun j hj e => hv (h2 j v hj e)⟩
    · obtain ⟨q1, q2, q3, q4⟩ := h5 w hD (fun j hj e => by
        by_cases ej : j = k
        · rw [ej, e1] at e
          cases e
          exact ew rfl
        · exact hn j hj (by rw [uO_ne ej]; exact e))
      rw [n1 w ew, n2 _ (hne' _ q1)]
      exact ⟨Or.inl q1, q2, q3, q4⟩
  · by_cases ew : w = v
    · rw [ew, n4, n3]
      refine ⟨Or.inl hDu, rfl, fun j hj e => ?_⟩
      rcases old e with ⟨_, q⟩ | ⟨a, q⟩
      · rw [q] at hDu
        exact hv hDu
      · exact a (h3 j k u hj hk q e1)
    · have hD : D w := hw.resolve_right ew
      obtain ⟨q1, q2, q3⟩ := h6 w hD hn
      have hwu : S.2 w ≠ u := fun e => q3 k hk (by rw [e1, e])
      rw [n2 w ew, n1 _ hwu]
      refine ⟨Or.inl q1, q2, fun j hj e => ?_⟩
      rcases old e with ⟨_, q⟩ | ⟨_, q⟩
      · rw [q] at q1
        exact hv q1
      · exact q3 j hj q
/-- places may change with one another -/
theorem oX_swap {j : Nat} {a b : Option Nat} (h : oX D E s S La Fi) (hj : j + 1 < s) (e1 : La j = b) (e2 : La (j + 1) = a) : oX D E s S (uO (uO La j a) (j + 1) b) Fi := by
  obtain ⟨h1, h2, h3, h4, h5, h6⟩ := h
  let σ : Nat → Nat := fun k => if k = j then j + 1 else if k = j + 1 then j else k
  have hσ : ∀ k, uO (uO La j a) (j + 1) b k = La (σ k) := by
    intro k
    show (if k = j + 1 then b else if k = j then a else La k) = La (if k = j then j + 1 else if k = j + 1 then j else k)
    by_cases q1 : k = j
    · rw [if_neg (by omega), if_pos q1, if_pos q1, e2]
    · rw [if_neg q1, if_neg q1]
      by_cases q2 : k = j + 1
      · rw [if_pos q2, if_pos q2, e1]
      · rw [if_neg q2, if_neg q2]
  have hlt : ∀ k, k < s → σ k < s := by
    intro k hk
    show (if k = j then j + 1 else if k = j + 1 then j else k) < s
    split
    · exact hj
    · split <;> omega
  have hσσ : ∀ k, σ (σ k) = k := by
    intro k
    show (if (if k = j then j + 1 else if k = j + 1 then j else k) = j then j + 1 else if (if k = j then j + 1 else if k = j + 1 then j else k) = j + 1 then j else (if k = j then j + 1 else if k = j + 1 then j else k)) = k
    by_cases q1 : k = j
    · rw [if_pos q1, if_neg (by omega), if_pos rfl, q1]
    · rw [if_neg q1]
      by_cases q2 : k = j + 1
      · rw [if_pos q2, if_pos rfl, q2]
      · rw [if_neg q2, if_neg q1, if_neg q2]
  refine ⟨fun k v hk e => h1 _ v (hlt k hk) (by rw [← hσ]; exact e), h2, fun k k' v hk hk' e e' => ?_, h4, fun v hv hn => h5 v hv (fun k hk e => ?_), fun v hv hn => ?_⟩
  · have := h3 _ _ v (hlt k hk) (hlt k' hk') (by rw [← hσ]; exact e) (by rw [← hσ]; exact e')
    rw [← hσσ k, this, hσσ]
  · exact hn (σ k) (hlt k hk) (by rw [hσ, hσσ]; exact e)
  · obtain ⟨q1, q2, q3⟩ := h6 v hv hn
    exact ⟨q1, q2, fun k hk e => q3 (σ k) (hlt k hk) (by rw [← hσ]; exact e)⟩
/-- a strand closed -/
theorem oX_close {k u w : Nat} (h : oX D E s S La Fi) (hk : k < s) (e1 : La k = some u) (e2 : Fi k = some w) (hE : E u) : oX D E s (nl S u w) (uO La k none) (uO Fi k none) := by
  obtain ⟨h1, h2, h3, h4, h5, h6⟩ := h
  have hDu := h1 k u hk e1
  have hDw := h2 k w hk e2
  have n1 : ∀ v, v ≠ u → (nl S u w).1 v = S.1 v := fun v hv => if_neg hv
  have n2 : ∀ v, v ≠ w → (nl S u w).2 v = S.2 v := fun v hv => if_neg hv
  have n3 : (nl S u w).1 u = w := if_pos rfl
  have n4 : (nl S u w).2 w = u := if_pos rfl
  have old : ∀ {f : Nat → Option Nat} {j v : Nat}, uO f k none j = some v → j ≠ k ∧ f j = some v := by
    intro f j v e
    by_cases ej : j = k
    · rw [ej, uO_at] at e
      cases e
    · rw [uO_ne ej] at e
      exact ⟨ej, e⟩
  refine ⟨fun j v hj e => h1 j v hj (old e).2, fun j v hj e => h2 j v hj (old e).2, fun j j' v hj hj' e e' => h3 j j' v hj hj' (old e).2 (old e').2, fun j j' v hj hj' e e' => h4 j j' v hj hj' (old e).2 (old e').2, fun v hv hn => ?_, fun v hv hn => ?_⟩
  · by_cases ev : v = u
    · rw [ev, n3, n4]
      refine ⟨hDw, Or.inr hE, rfl, fun j hj e => ?_⟩
      exact (old e).1 (h4 j k w hj hk (old e).2 e2)
    · obtain ⟨q1, q2, q3, q4⟩ := h5 v hv (fun j hj e => by
        by_cases ej : j = k
        · rw [ej, e1] at e
          cases e
          exact ev rfl
        · exact hn j hj (by rw [uO_ne ej]; exact e))
      have hw : S.1 v ≠ w := fun e => q4 k hk (by rw [e2, e])
      rw [n1 v ev, n2 _ hw]
      exact ⟨q1, q2, q3, fun j hj e => q4 j hj (old e).2⟩
  · by_cases ev : v = w
    · rw [ev, n4, n3]
      refine ⟨hDu, rfl, fun j hj e => ?_⟩
      exact (old e).1 (h3 j k u hj hk (old e).2 e1)
    · obtain ⟨q1, q2, q3⟩ := h6 v hv (fun j hj e => by
        by_cases ej : j = k
        · rw [ej, e2] at e
          cases e
          exact ev rfl
        · exact hn j hj (by rw [uO_ne ej]; exact e))
      have hu : S.2 v ≠ u := fun e => q3 k hk (by rw [e1, e])
      rw [n2 v ev, n1 _ hu]
      exact ⟨q1, q2, fun j hj e => q3 j hj (old e).2⟩
end COX
/-- all strands closed: a valid net, with no more rings than strands that were met -/
theorem oX_vn {c s : Nat} {S : ow_NP} {La0 La Fi : Nat → Option Nat} (hc : c ≤ 12) (h : oX (fun v => v < 2 * c) (fun v => ∃ k, k < s ∧ La0 k = some v) s S La Fi) (e1 : ∀ k, k < s → La k = none) (e2 : ∀ k, k < s → Fi k = none) : vn c S ∧ np_rg c S ≤ cntB (fun k => (La0 k).isSome) s := by
  obtain ⟨h1, h2, h3, h4, h5, h6⟩ := h
  have a1 : ∀ v, v < 2 * c → S.1 v < 2 * c ∧ (v / 2 < S.1 v / 2 ∨ ∃ k, k < s ∧ La0 k = some v) ∧ S.2 (S.1 v) = v := fun v hv => by
    obtain ⟨q1, q2, q3, -⟩ := h5 v hv (fun k hk e => by rw [e1 k hk] at e; cases e)
    exact ⟨q1, q2, q3⟩
  have a2 : ∀ v, v < 2 * c → S.2 v < 2 * c ∧ S.1 (S.2 v) = v := fun v hv => by
    obtain ⟨q1, q2, -⟩ := h6 v hv (fun k hk e => by rw [e2 k hk] at e; cases e)
    exact ⟨q1, q2⟩
  have hv : vn c S := fun v hv => ⟨(a1 v hv).1, (a2 v hv).1, (a1 v hv).2.2, (a2 v hv).2⟩
  refine ⟨hv, ?_⟩
  have hex : ∀ w, w < 2 * c → ∃ k i, k < s ∧ La0 k = some (it S.1 i w) := by
    intro w hw
    apply Classical.byContradiction
    intro hn
    have grow : ∀ i, i ≤ (it S.1 i w) / 2 := by
      intro i
      induction i with
      | zero => exact Nat.zero_le _
      | succ i ih =>
        rcases (a1 _ (it_lt hv hw i)).2.1 with q | ⟨k, k1, k2⟩
        · show i + 1 ≤ S.1 (it S.1 i w) / 2
          omega
        · exact absurd ⟨k, i, k1, k2⟩ hn
    have h9 := grow (c + 1)
    have h8 := it_lt hv hw (c + 1)
    omega
  have hx : ∀ w, ∃ k, w < 2 * c → k < s ∧ ∃ i, La0 k = some (it S.1 i w) := by
    intro w
    by_cases hw : w < 2 * c
    · obtain ⟨k, i, k1, k2⟩ := hex w hw
      exact ⟨k, fun _ => ⟨k1, i, k2⟩⟩
    · exact ⟨0, fun h9 => absurd h9 hw⟩
  let f : Nat → Nat := fun w => Classical.choose (hx w)
  have hf : ∀ w, w < 2 * c → f w < s ∧ ∃ i, La0 (f w) = some (it S.1 i w) := fun w hw => Classical.choose_spec (hx w) hw
  refine cntB_inj (2 * c) (fun k => lst S.1 k 24) (fun k => (La0 k).isSome) f (fun w hw _ => ⟨(hf w hw).1, ?_⟩) (fun w w' hw hw' l1 l2 e => ?_)
  · obtain ⟨i, hi⟩ := (hf w hw).2
    rw [hi]
    rfl
  · obtain ⟨i, hi⟩ := (hf w hw).2
    obtain ⟨j, hj⟩ := (hf w' hw').2
    rw [← e, hi] at hj
    have hij : it S.1 i w = it S.1 j w' := Option.some.inj hj
    have le : ∀ {a b i j : Nat}, a < 2 * c → b < 2 * c → lst S.1 a 24 = true → it S.1 i a = it S.1 j b → a ≤ b := by
      intro a b i j ha hb la e9
      obtain ⟨m, m1, m2⟩ := ring_ex hv hb
      obtain ⟨j', j1, j2⟩ := it_mod m2 j
      have : it S.1 (m - j' + i) a = b := by
        rw [it_add, e9, j2, ← it_add, show m - j' + j' = m by omega]
        exact m2.2.1
      have h9 := (lst_all hv hc ha).mp la (m - j' + i)
      rw [this] at h9
      exact h9
    exact Nat.le_antisymm (le hw hw' l1 hij) (le hw' hw l2 hij.symm)
end
section
/-! 99zzzzzzf.cclo2 -/
/-! the class: Net.close; closure -/
def exS (S : ow_NP) (o : Option Nat) (v : Nat) : ow_NP := match o with
  | none => S
  | some u => nl S u v
def exF (Fi : Nat → Option Nat) (k : Nat) (o : Option Nat) (v : Nat) : Nat → Option Nat := match o with
  | none => uO Fi k (some v)
  | some _ => Fi
theorem oX_D {D D' E E' : Nat → Prop} {s : Nat} {S : ow_NP} {La Fi : Nat → Option Nat} (hD : ∀ v, D v ↔ D' v) (hE : ∀ v, E v → E' v) (h : oX D E s S La Fi) : oX D' E' s S La Fi := by
  obtain ⟨h1, h2, h3, h4, h5, h6⟩ := h
  refine ⟨fun k v hk e => (hD v).mp (h1 k v hk e), fun k v hk e => (hD v).mp (h2 k v hk e), h3, h4, fun v hv hn => ?_, fun v hv hn => ?_⟩
  · obtain ⟨q1, q2, q3, q4⟩ := h5 v ((hD v).mpr hv) hn
    exact ⟨(hD _).mp q1, q2.imp id (hE v), q3, q4⟩
  · obtain ⟨q1, q2, q3⟩ := h6 v ((hD v).mpr hv) hn
    exact ⟨(hD _).mp q1, q2, q3⟩
theorem oX_step {D E : Nat → Prop} {s k v : Nat} {S : ow_NP} {La Fi : Nat → Option Nat} (h : oX D E s S La Fi) (hn : ∀ j, j < s → (La j = none ↔ Fi j = none)) (hk : k < s) (hv : ¬ D v) (hu : ∀ u, La k = some u → u / 2 < v / 2) : oX (fun w => D w ∨ w = v) E s (exS S (La k) v) (uO La k (some v)) (exF Fi k (La k) v) ∧ ∀ j, j < s → (uO La k (some v) j = none ↔ exF Fi k (La k) v j = none) := by
  cases e : La k with
  | none =>
    refine ⟨oX_new h hk hv e ((hn k hk).mp e), fun j hj => ?_⟩
    show uO La k (some v) j = none ↔ uO Fi k (some v) j = none
    by_cases ej : j = k
    · rw [ej, uO_at, uO_at]
    · rw [uO_ne ej, uO_ne ej]
      exact hn j hj
  | some u =>
    refine ⟨oX_ext h hk hv e (hu u e), fun j hj => ?_⟩
    show uO La k (some v) j = none ↔ Fi j = none
    by_cases ej : j = k
    · rw [ej, uO_at, ← hn k hk, e]
      exact ⟨fun h9 => (by cases h9), fun h9 => (by cases h9)⟩
    · rw [uO_ne ej]
      exact hn j hj
theorem lt_d : ∀ k : Fin 9, (if (0 : Int32) ≤ iI ((k.val : Int) - 4) then iI ((k.val : Int) - 4) else 0 - iI ((k.val : Int) - 4)) - 1 = iI ((((k.val : Int) - 4).natAbs : Int) - 1) ∧ (iI ((k.val : Int) - 4) ≤ 0 ↔ k.val ≤ 4) := by decide +kernel
theorem lt_b {a : Int} (h : a.natAbs ≤ 4) (h1 : 1 ≤ a.natAbs) : (if (0 : Int32) ≤ iI a then iI a else 0 - iI a) - 1 = nI (a.natAbs - 1) ∧ (iI a ≤ 0 ↔ a < 0) := by
  have h2 := lt_d ⟨(a + 4).toNat, by omega⟩
  have e : (((a + 4).toNat : Nat) : Int) - 4 = a := by omega
  dsimp only at h2
  rw [e] at h2
  refine ⟨?_, ?_⟩
  · rw [h2.1, nI_iI]
    congr 1
    omega
  · rw [h2.2]
    omega
def clR (g : Nat) : Prop := cP 4000 g ∨ g = 4004 ∨ g = 4007
section CCL
variable {vl : Nat → Nat} {y : ow_MS}
theorem e_X7_extend {vl : Nat → Nat} {r0 : Nat} {r1 : Nat} {r2 : Nat} {x3 : Int32} {x4 : Int32} {z : ow_MS} {Q : ow_MS → Prop} (H : Tt (fun K _ => cm_X7_extend_0 vl K x3 x4 r0 r1 r2 z) Q) : Te (fun K => ce_X7_extend vl K r0 r1 r2 x3 x4 z) Q := w_te0 H
theorem tc_extend {k v : Nat} {T : ow_NT} {La Fi : Nat → Option Nat} {s : Nat} (hy : cAt y 4000 T) (hk : k < s) (hs : s ≤ 5) (hv : v < 24) (h7 : ∀ j, j < s → y.2.1 4007 j = oNI (La j)) (h4 : ∀ j, j < s → y.2.1 4004 j = oNI (Fi j)) (hu : ∀ u, La k = some u → u < 24) : Te (fun K => ce_X7_extend vl K 4000 4004 4007 (nI k) (nI v) y) (fun y1 => cAt y1 4000 (ntS T (exS T.2.2.1 (La k) v)) ∧ (∀ j, j < s → y1.2.1 4004 j = oNI (exF Fi k (La k) v j)) ∧ fr (fun g => cP 4000 g ∨ g = 4004) y y1) := by
  refine e_X7_extend ?_; unfold cm_X7_extend_0
  cases e : La k with
  | none =>
    have e7 : y.2.1 4007 k = -1 := by
      rw [h7 k hk, e]
      rfl
    refine w_crI (nH_7 nH4) rfl (show k < 24 by omega) e7 (w_ifT rfl (w_ctI (nH_4 nH4) rfl (show k < 24 by omega) (w_some ⟨?_, fun j hj => ?_, fr_I (Or.inr rfl)⟩)))
    · exact cAt_fr (P := fun g => g = 4004) (fr_I rfl) (fun g hg h9 => by unfold cP at hg; omega) hy
    · show (usI y 4004 k (nI v)).2.1 4004 j = oNI (uO Fi k (some v) j)
      by_cases ej : j = k
      · rw [ej, uO_at]
        exact po_usI_at
      · rw [uO_ne ej]
        exact rd_ne ej (h4 j hj)
  | some u =>
    have hu24 := hu u e
    have e7 : y.2.1 4007 k = nI u := by
      rw [h7 k hk, e]
      rfl
    refine w_crI (nH_7 nH4) rfl (show k < 24 by omega) e7 (w_ifF (nI_nm1 (by omega)) (w_crI (nH_7 nH4) rfl (show k < 24 by omega) e7 (w_cs0 (tc_link nH4 hy hu24 hv) ?_)))
    rintro y1 ⟨g1, g2⟩
    refine w_some ⟨g1, fun j hj => ?_, fr_mono (fun g hg => Or.inl hg) g2⟩
    rw [(g2 4004 (by unfold cP; omega)).2.1]
    exact h4 j hj
theorem u_X7_close_5 {vl : Nat → Nat} {x2 : Int32} {x3 : Int32} {x4 : Int32} {x7 : Int32} {x8 : Int32} {x9 : Int32} {x10 : Int32} {x11 : Int32} {r0 : Nat} {r1 : Nat} {r5 : Nat} {r6 : Nat} {t0 : Int32} {t1 : Int32} {z : ow_MS} {Q : ow_MS → Prop} (H : Tt (fun K k => cm_X7_close_5 vl K (c_X7_close vl K k) x2 x3 x4 x7 x8 x9 x10 x11 r0 r1 r5 r6 t0 t1 z) Q) : Tt (fun K k => c_X7_close vl K k 5 x2 x3 x4 x7 x8 x9 x10 x11 r0 r1 r5 r6 t0 t1 z) Q := w_un (fun _ _ => rfl) H
theorem u_X7_close_6 {vl : Nat → Nat} {x2 : Int32} {x3 : Int32} {x4 : Int32} {x7 : Int32} {x8 : Int32} {x9 : Int32} {x10 : Int32} {x11 : Int32} {r0 : Nat} {r1 : Nat} {r5 : Nat} {r6 : Nat} {t0 : Int32} {t1 : Int32} {z : ow_MS} {Q : ow_MS → Prop} (H : Tt (fun K k => cm_X7_close_6 vl K (c_X7_close vl K k) x2 x3 x4 x7 x8 x9 x10 x11 r0 r1 r5 r6 t0 t1 z) Q) : Tt (fun K k => c_X7_close vl K k 6 x2 x3 x4 x7 x8 x9 x10 x11 r0 r1 r5 r6 t0 t1 z) Q := w_un (fun _ _ => rfl) H
theorem u_X7_close_1 {vl : Nat → Nat} {x2 : Int32} {x3 : Int32} {x4 : Int32} {x7 : Int32} {x8 : Int32} {x9 : Int32} {x10 : Int32} {x11 : Int32} {r0 : Nat} {r1 : Nat} {r5 : Nat} {r6 : Nat} {t0 : Int32} {t1 : Int32} {z : ow_MS} {Q : ow_MS → Prop} (H : Tt (fun K k => cm_X7_close_1 vl K (c_X7_close vl K k) x2 x3 x4 x7 x8 x9 x10 x11 r0 r1 r5 r6 t0 t1 z) Q) : Tt (fun K k => c_X7_close vl K k 1 x2 x3 x4 x7 x8 x9 x10 x11 r0 r1 r5 r6 t0 t1 z) Q := w_un (fun _ _ => rfl) H
theorem u_X7_close_4 {vl : Nat → Nat} {x2 : Int32} {x3 : Int32} {x4 : Int32} {x7 : Int32} {x8 : Int32} {x9 : Int32} {x10 : Int32} {x11 : Int32} {r0 : Nat} {r1 : Nat} {r5 : Nat} {r6 : Nat} {t0 : Int32} {t1 : Int32} {z : ow_MS} {Q : ow_MS → Prop} (H : Tt (fun K k => cm_X7_close_4 vl K (c_X7_close vl K k) x2 x3 x4 x7 x8 x9 x10 x11 r0 r1 r5 r6 t0 t1 z) Q) : Tt (fun K k => c_X7_close vl K k 4 x2 x3 x4 x7 x8 x9 x10 x11 r0 r1 r5 r6 t0 t1 z) Q := w_un (fun _ _ => rfl) H
theorem u_X7_close_3 {vl : Nat → Nat} {x2 : Int32} {x3 : Int32} {x4 : Int32} {x7 : Int32} {x8 : Int32} {x9 : Int32} {x10 : Int32} {x11 : Int32} {r0 : Nat} {r1 : Nat} {r5 : Nat} {r6 : Nat} {t0 : Int32} {t1 : Int32} {z : ow_MS} {Q : ow_MS → Prop} (H : Tt (fun K k => cm_X7_close_3 vl K (c_X7_close vl K k) x2 x3 x4 x7 x8 x9 x10 x11 r0 r1 r5 r6 t0 t1 z) Q) : Tt (fun K k => c_X7_close vl K k 3 x2 x3 x4 x7 x8 x9 x10 x11 r0 r1 r5 r6 t0 t1 z) Q := w_un (fun _ _ => rfl) H
theorem u_X7_close_2 {vl : Nat → Nat} {x2 : Int32} {x3 : Int32} {x4 : Int32} {x7 : Int32} {x8 : Int32} {x9 : Int32} {x10 : Int32} {x11 : Int32} {r0 : Nat} {r1 : Nat} {r5 : Nat} {r6 : Nat} {t0 : Int32} {t1 : Int32} {z : ow_MS} {Q : ow_MS → Prop} (H : Tt (fun K k => cm_X7_close_2 vl K (c_X7_close vl K k) x2 x3 x4 x7 x8 x9 x10 x11 r0 r1 r5 r6 t0 t1 z) Q) : Tt (fun K k => c_X7_close vl K k 2 x2 x3 x4 x7 x8 x9 x10 x11 r0 r1 r5 r6 t0 t1 z) Q := w_un (fun _ _ => rfl) H
theorem e_X7_close {vl : Nat → Nat} {r0 : Nat} {r1 : Nat} {x2 : Int32} {x3 : Int32} {x4 : Int32} {z : ow_MS} {Q : ow_MS → Prop} (H : Tt (fun K k => c_X7_close vl K k 0 x2 x3 x4 0 0 0 0 0 r0 r1 0 0 0 0 z) Q) : Te (fun K => ce_X7_close vl K r0 r1 x2 x3 x4 z) Q := w_te H
theorem u_X7_close_0 {vl : Nat → Nat} {x2 : Int32} {x3 : Int32} {x4 : Int32} {x7 : Int32} {x8 : Int32} {x9 : Int32} {x10 : Int32} {x11 : Int32} {r0 : Nat} {r1 : Nat} {r5 : Nat} {r6 : Nat} {t0 : Int32} {t1 : Int32} {z : ow_MS} {Q : ow_MS → Prop} (H : Tt (fun K k => cm_X7_close_0 vl K (c_X7_close vl K k) x2 x3 x4 x7 x8 x9 x10 x11 r0 r1 r5 r6 t0 t1 z) Q) : Tt (fun K k => c_X7_close vl K k 0 x2 x3 x4 x7 x8 x9 x10 x11 r0 r1 r5 r6 t0 t1 z) Q := w_un (fun _ _ => rfl) H
theorem tc_close {T : ow_NT} {b n l : Nat} (hT : cAt y 4000 T) (hb : ow_b24 T.2.2.1) (hb20 : b < 20) (hn : 2 ≤ n) (hn5 : n ≤ 5) (hl : l ≤ 12) (hw : wdB y b n l) : Te (fun K => ce_X7_close vl K 4000 13 (nI (16 * b)) (nI l) (nI n) y) (fun y1 => (∃ T1, cAt y1 4000 T1 ∧ nv T1) ∧ fr clR y y1) := by
  let Q : ow_MS → Prop := fun y1 => (∃ T1, cAt y1 4000 T1 ∧ nv T1) ∧ fr clR y y1
  have hw2 : ∀ {z : ow_MS}, fr clR y z → wdB z b n l := fun hf i hi => by
    rw [(hf 13 (by unfold clR cP; omega)).2.1]
    exact hw i hi
  -- the strands closed
  have c5 : ∀ (La0 : Nat → Option Nat) (d k : Nat) (z : ow_MS) (S : ow_NP) (G : Nat → Int32) (ci : Nat) (La Fi : Nat → Option Nat), k + d = n → fr clR y z → cAt z 4000 (l, ci, S, G) → ow_b24 S → oX (fun v => v < 2 * l) (fun v => ∃ k, k < n ∧ La0 k = some v) n S La Fi → (∀ j, j < n → (La j = none ↔ Fi j = none)) → (∀ j, j < k → La j = none) → (∀ j, k ≤ j → La j = La0 j) → (∀ j, k ≤ j → j < n → z.2.1 4007 j = oNI (La j)) → (∀ j, k ≤ j → j < n → z.2.1 4004 j = oNI (Fi j)) → ci + cntB (fun k => (La0 k).isSome) k = k → Tt (fun K t => c_X7_close vl K t 5 (nI (16 * b)) (nI l) (nI n) (nI k) 0 0 0 0 4000 13 4004 4007 0 0 z) Q := by
    intro La0 d
    induction d with
    | zero =>
      intro k z S G ci La Fi hk hf h1 h2 h3 h4 h5 h6 h7 h8 h9
      have e : k = n := by omega
      subst e
      obtain ⟨q1, q2⟩ := oX_vn hl h3 h5 (fun j hj => (h4 j hj).mp (h5 j hj))
      refine u_X7_close_5 ?_; unfold cm_X7_close_5
      refine w_leT (by omega) (by omega) (w_some ⟨⟨_, h1, q1, hl, h2, ?_⟩, hf⟩)
      show np_rg l S + ci ≤ 6
      omega
    | succ d ih =>
      intro k z S G ci La Fi hk hf h1 h2 h3 h4 h5 h6 h7 h8 h9
      have hcs : cntB (fun k => (La0 k).isSome) (k + 1) = cntB (fun k => (La0 k).isSome) k + (if (La0 k).isSome = true then 1 else 0) := rfl
      refine u_X7_close_5 ?_; unfold cm_X7_close_5
      refine w_leF (by omega) (by omega) ?_
      cases e : La k with
      | none =>
        have e7 : z.2.1 4007 k = -1 := by
          rw [h7 k (Nat.le_refl _) (by omega), e]
          rfl
        have e0 : La0 k = none := by rw [← h6 k (Nat.le_refl _)]; exact e
        refine w_crI (nH_7 nH4) rfl (show k < 24 by omega) e7 (w_ifT rfl (w_rdF h1.2.1 (w_wrF ?_)))
        refine u_X7_close_6 ?_; unfold cm_X7_close_6
        rw [nI_1 k]
        refine ih (k + 1) _ S G (ci + 1) La Fi (by omega) (fr_F2 hf (by unfold clR cP; omega)) ⟨rf_ot (by omega) h1.1, po_usF_at.trans (nI_1 _), h1.2.2⟩ h2 h3 h4 (fun j hj => ?_) (fun j hj => h6 j (by omega)) (fun j hj => h7 j (by omega)) (fun j hj => h8 j (by omega)) ?_
        · by_cases ej : j = k
          · rw [ej]
            exact e
          · exact h5 j (by omega)
        · rw [hcs, e0]
          show ci + 1 + (_ + 0) = k + 1
          omega
      | some u =>
        have e7 : z.2.1 4007 k = nI u := by
          rw [h7 k (Nat.le_refl _) (by omega), e]
          rfl
        have e0 : La0 k = some u := by rw [← h6 k (Nat.le_refl _)]; exact e
        obtain ⟨w, ew⟩ : ∃ w, Fi k = some w := by
          cases e9 : Fi k with
          | none =>
            have := (h4 k (by omega)).mpr e9
            rw [e] at this
            cases this
          | some w => exact ⟨w, rfl⟩
        have e4 : z.2.1 4004 k = nI w := by
          rw [h8 k (Nat.le_refl _) (by omega), ew]
          rfl
        have hu : u < 2 * l := h3.1 k u (by omega) e
        have hw9 : w < 2 * l := h3.2.1 k w (by omega) ew
        refine w_crI (nH_7 nH4) rfl (show k < 24 by omega) e7 (w_ifF (nI_nm1 (by omega)) (w_crI (nH_7 nH4) rfl (show k < 24 by omega) e7 (w_crI (nH_4 nH4) rfl (show k < 24 by omega) e4 (w_cs0 (tc_link nH4 h1 (show u < 24 by omega) (show w < 24 by omega)) ?_))))
        rintro z1 ⟨g1, g2⟩
        refine u_X7_close_6 ?_; unfold cm_X7_close_6
        rw [nI_1 k]
        refine ih (k + 1) z1 (nl S u w) G ci (uO La k none) (uO Fi k none) (by omega) (fr_tr hf (fr_mono (fun g hg => Or.inl hg) g2)) g1 (nl_b24 h2 (by omega) (by omega)) (oX_close h3 (by omega) e ew ⟨k, by omega, e0⟩) (fun j hj => ?_) (fun j hj => ?_) (fun j hj => ?_) (fun j hj hj2 => ?_) (fun j hj hj2 => ?_) ?_
        · by_cases ej : j = k
          · rw [ej, uO_at, uO_at]
          · rw [uO_ne ej, uO_ne ej]
            exact h4 j hj
        · by_cases ej : j = k
          · rw [ej, uO_at]
          · rw [uO_ne ej]
            exact h5 j (by omega)
        · rw [uO_ne (by omega)]
          exact h6 j (by omega)
        · rw [uO_ne (by omega), (g2 4007 (by unfold cP; omega)).2.1]
          exact h7 j (by omega) hj2
        · rw [uO_ne (by omega), (g2 4004 (by unfold cP; omega)).2.1]
          exact h8 j (by omega) hj2
        · rw [hcs, e0]
          show ci + (_ + 1) = k + 1
          omega
  -- letter after letter
  have c1 : ∀ (d i : Nat) (z : ow_MS) (S : ow_NP) (G : Nat → Int32) (La Fi : Nat → Option Nat), i + d = l → fr clR y z → cAt z 4000 (i, 0, S, G) → ow_b24 S → oX (fun v => v < 2 * i) (fun _ => False) n S La Fi → (∀ j, j < n → (La j = none ↔ Fi j = none)) → (∀ j, j < n → z.2.1 4007 j = oNI (La j)) → (∀ j, j < n → z.2.1 4004 j = oNI (Fi j)) → Tt (fun K t => c_X7_close vl K t 1 (nI (16 * b)) (nI l) (nI n) (nI i) 0 0 0 0 4000 13 4004 4007 0 0 z) Q := by
    intro d
    induction d with
    | zero =>
      intro i z S G La Fi hi hf h1 h2 h3 h4 h5 h6
      have e : i = l := by omega
      subst e
      refine u_X7_close_1 ?_; unfold cm_X7_close_1
      refine w_leT (by omega) (by omega) ?_
      refine u_X7_close_4 ?_; unfold cm_X7_close_4
      exact c5 La n 0 z S G 0 La Fi (by omega) hf h1 h2 (oX_D (fun _ => Iff.rfl) (fun _ h => h.elim) h3) h4 (fun j hj => absurd hj (Nat.not_lt_zero _)) (fun _ _ => rfl) (fun j _ hj => h5 j hj) (fun j _ hj => h6 j hj) rfl
    | succ d ih =>
      intro i z S G La Fi hi hf h1 h2 h3 h4 h5 h6
      obtain ⟨a, a1, a2, a3⟩ := hw2 hf i (by omega)
      obtain ⟨p1, p2⟩ := lt_b (a := a) (by omega) a2
      have c3 : ∀ (z1 : ow_MS) (S1 : ow_NP) (La1 Fi1 : Nat → Option Nat) (x8 x9 x10 x11 t0 : Int32), fr clR y z1 → cAt z1 4000 (i, 0, S1, G) → ow_b24 S1 → oX (fun v => v < 2 * (i + 1)) (fun _ => False) n S1 La1 Fi1 → (∀ j, j < n → (La1 j = none ↔ Fi1 j = none)) → (∀ j, j < n → z1.2.1 4007 j = oNI (La1 j)) → (∀ j, j < n → z1.2.1 4004 j = oNI (Fi1 j)) → Tt (fun K t => c_X7_close vl K t 3 (nI (16 * b)) (nI l) (nI n) (nI i) x8 x9 x10 x11 4000 13 4004 4007 t0 (nI i) z1) Q := by
        intro z1 S1 La1 Fi1 x8 x9 x10 x11 t0 q1 q2 q3 q4 q5 q6 q7
        obtain ⟨s1, s2, s3, s4, s5⟩ := q2
        refine u_X7_close_3 ?_; unfold cm_X7_close_3
        refine w_ctI (nH_3 nH4) rfl (show i < 12 by omega) (w_rdF (x := nI i) s1 (w_wrF ?_))
        rw [nI_1]
        refine ih (i + 1) _ S1 (su G i t0) La1 Fi1 (by omega) (fr_F2 (fr_I2 q1 (by unfold clR cP; omega)) (by unfold clR cP; omega)) ⟨po_usF_at, ?_, fun v => ?_, fun v => ?_, fun v => ?_⟩ q3 q4 q5 (fun j hj => ?_) (fun j hj => ?_)
        · exact rf_ot (by omega) s2
        · exact rd_ot (by omega) (s3 v)
        · exact rd_ot (by omega) (s4 v)
        · show (usI z1 4003 i t0).2.1 4003 v = su G i t0 v
          by_cases ev : v = i
          · rw [ev]
            exact po_usI_at.trans (if_pos rfl).symm
          · rw [show su G i t0 v = G v from if_neg ev]
            exact rd_ne ev (s5 v)
        · exact rd_ot (by omega) (q6 j hj)
        · exact rd_ot (by omega) (q7 j hj)
      have c2 : ∀ r : Nat, (r = 2 * i ∨ r = 2 * i + 1) → Tt (fun K t => c_X7_close vl K t 2 (nI (16 * b)) (nI l) (nI n) (nI i) (iI a) (nI (a.natAbs - 1)) 0 0 4000 13 4004 4007 (nI r) 0 z) Q := by
        intro r hr
        have hr24 : r < 24 := by omega
        have hm : (r = 2 * i ∧ mt r = 2 * i + 1) ∨ (r = 2 * i + 1 ∧ mt r = 2 * i) := by
          unfold mt
          rcases hr with e | e
          · exact Or.inl ⟨e, by rw [if_pos (by omega)]; omega⟩
          · exact Or.inr ⟨e, by rw [if_neg (by omega)]; omega⟩
        have hm24 : mt r < 24 := by omega
        generalize hj : a.natAbs - 1 = j
        have hjn : j + 1 < n := by omega
        have hlt : ∀ k u, k < n → La k = some u → u < 2 * i := fun k u hk e => h3.1 k u hk e
        obtain ⟨o1, o2⟩ := oX_step (k := j) (v := r) h3 h4 (by omega) (by omega) (fun u e => by have := hlt j u (by omega) e; omega)
        have eL : uO La j (some r) (j + 1) = La (j + 1) := uO_ne (by omega)
        obtain ⟨o3, o4⟩ := oX_step (k := j + 1) (v := mt r) o1 o2 hjn (by intro h9; rcases h9 with h9 | h9 <;> omega) (fun u e => by
          rw [eL] at e
          have := hlt (j + 1) u hjn e
          omega)
        rw [eL] at o3 o4
        have hb1 : ow_b24 (exS S (La j) r) := by
          cases e : La j with
          | none => exact h2
          | some u => exact nl_b24 h2 (by have := hlt j u (by omega) e; omega) hr24
        have hb2 : ow_b24 (exS (exS S (La j) r) (La (j + 1)) (mt r)) := by
          cases e : La (j + 1) with
          | none => exact hb1
          | some u => exact nl_b24 hb1 (by have := hlt (j + 1) u hjn e; omega) hm24
        refine u_X7_close_2 ?_; unfold cm_X7_close_2
        rw [nI_1, xor1 ⟨r, hr24⟩]
        refine w_cs0 (tc_extend (s := n) h1 (show j < n by omega) hn5 hr24 h5 h6 (fun u e => by have := hlt j u (by omega) e; omega)) ?_
        rintro z1 ⟨g1, g2, g3⟩
        have h51 : ∀ k, k < n → z1.2.1 4007 k = oNI (La k) := fun k hk => by
          rw [(g3 4007 (by unfold cP; omega)).2.1]
          exact h5 k hk
        refine w_cs0 (tc_extend (s := n) g1 hjn hn5 hm24 h51 g2 (fun u e => by have := hlt (j + 1) u hjn e; omega)) ?_
        rintro z2 ⟨g4, g5, g6⟩
        have hf2 : fr clR y z2 := fr_tr hf (fr_tr (fr_mono (fun g hg => hg.elim Or.inl (fun h9 => Or.inr (Or.inl h9))) g3) (fr_mono (fun g hg => hg.elim Or.inl (fun h9 => Or.inr (Or.inl h9))) g6))
        have h52 : ∀ k, k < n → z2.2.1 4007 k = oNI (La k) := fun k hk => by
          rw [(g6 4007 (by unfold cP; omega)).2.1]
          exact h51 k hk
        have hsw := oX_swap (j := j) (a := some (mt r)) (b := some r) o3 hjn (by rw [uO_ne (by omega), uO_at]) uO_at
        refine w_ctI (nH_7 nH4) rfl (show j < 24 by omega) (w_ctI (nH_7 nH4) rfl (show j + 1 < 24 by omega) ?_)
        have fin : ∀ t0 : Int32, Tt (fun K t => c_X7_close vl K t 3 (nI (16 * b)) (nI l) (nI n) (nI i) (iI a) (nI j) (nI r) (nI (mt r)) 4000 13 4004 4007 t0 (nI i) (usI (usI z2 4007 j (nI (mt r))) 4007 (j + 1) (nI r))) Q := by
          intro t0
          refine c3 _ (exS (exS S (La j) r) (La (j + 1)) (mt r)) _ _ _ _ _ _ t0 (fr_I2 (fr_I2 hf2 (by unfold clR; omega)) (by unfold clR; omega)) ?_ hb2 (oX_D (fun v => ?_) (fun _ h => h) hsw) (fun k hk => ?_) (fun k hk => ?_) (fun k hk => ?_)
          · exact cAt_fr (P := fun g => g = 4007) (fr_I2 (fr_I rfl) rfl) (fun g hg h9 => by unfold cP at hg; omega) g4
          · show ((v < 2 * i ∨ v = r) ∨ v = mt r) ↔ v < 2 * (i + 1)
            omega
          · have := o4 k hk
            by_cases e1 : k = j + 1
            · rw [e1, uO_at]
              have h9 := o4 (j + 1) hjn
              rw [uO_at] at h9
              exact ⟨fun h => (by cases h), fun h => absurd (h9.mpr h) (by intro h; cases h)⟩
            · rw [uO_ne e1]
              by_cases e2 : k = j
              · rw [e2, uO_at]
                have h9 := o4 j (by omega)
                rw [uO_ne (by omega), uO_at] at h9
                exact ⟨fun h => (by cases h), fun h => absurd (h9.mpr h) (by intro h; cases h)⟩
              · rw [uO_ne e2]
                exact this
          · by_cases e1 : k = j + 1
            · rw [e1, uO_at]
              exact po_usI_at
            · rw [uO_ne e1]
              by_cases e2 : k = j
              · rw [e2, uO_at]
                exact rd_ne (by omega) po_usI_at
              · rw [uO_ne e2, uO_ne e1, uO_ne e2]
                exact rd_ne e1 (rd_ne e2 (h52 k hk))
          · exact rd_ot (by omega) (rd_ot (by omega) (g5 k hk))
        exact w_if (fun _ => fin (-1)) (fun _ => fin 1)
      refine u_X7_close_1 ?_; unfold cm_X7_close_1
      rw [nI_add, show (2 : Int32) * nI i = nI (2 * i) from pk_mul 2 _, nI_1]
      refine w_leF (by omega) (by omega) (w_leF (a := 12) (by omega) (by omega) (w_crI ch_13 rfl (show 16 * b + i < 320 by omega) a1 ?_))
      rw [p1]
      exact w_if (fun _ => c2 (2 * i + 1) (Or.inr rfl)) (fun _ => c2 (2 * i) (Or.inl rfl))
  refine e_X7_close ?_
  refine u_X7_close_0 ?_; unfold cm_X7_close_0
  refine w_cs0 (tc_fill (a := 0) (b := n) (nH_4 nH4) (Nat.zero_le _) (show n ≤ 24 by omega) (by omega)) ?_
  rintro z1 ⟨a1, a2⟩
  refine w_cs0 (tc_fill (a := 0) (b := n) (nH_7 nH4) (Nat.zero_le _) (show n ≤ 24 by omega) (by omega)) ?_
  rintro z2 ⟨b1, b2⟩
  have t2 : cAt z2 4000 T := cAt_fr b2 (fun g hg h9 => by unfold cP at hg; omega) (cAt_fr a2 (fun g hg h9 => by unfold cP at hg; omega) hT)
  refine w_cs0 (tc_empty t2) ?_
  rintro z3 ⟨d1, d2⟩
  refine c1 l 0 z3 T.2.2.1 T.2.2.2 (fun _ => none) (fun _ => none) (by omega) (fr_tr (fr_mono (fun g hg => by rw [hg]; unfold clR; omega) a2) (fr_tr (fr_mono (fun g hg => by rw [hg]; unfold clR; omega) b2) (fr_mono (fun g hg => Or.inl hg) d2))) d1 hb ⟨fun k v _ e => (by cases e), fun k v _ e => (by cases e), fun k k' v _ _ e => (by cases e), fun k k' v _ _ e => (by cases e), fun v hv => absurd hv (Nat.not_lt_zero _), fun v hv => absurd hv (Nat.not_lt_zero _)⟩ (fun _ _ => Iff.rfl) (fun j hj => ?_) (fun j hj => ?_)
  · rw [(d2 4007 (by unfold cP; omega)).2.1, b1 j, if_pos ⟨Nat.zero_le _, hj⟩]
    rfl
  · rw [(d2 4004 (by unfold cP; omega)).2.1, (b2 4004 (by omega)).2.1, a1 j, if_pos ⟨Nat.zero_le _, hj⟩]
    rfl
theorem e_X11_closure {vl : Nat → Nat} {r0 : Nat} {x1 : Int32} {z : ow_MS} {Q : (Nat × Int32 × ow_MS) → Prop} (H : Tt (fun K _ => cm_X11_closure_0 vl K x1 r0 z) Q) : Te (fun K => ce_X11_closure vl K r0 x1 z) Q := w_te0 H
end CCL
end
section
/-! 99zzzzzzg.cform -/
/-! the class: Form, simple braids as numbers -/
def foJ (x j : Int32) : Int32 := (x >>> (((4 * j) : Int32) &&& 31)) &&& 15
def foV (x : Int32) : Nat → Int32
  | 0 => 0
  | i + 1 => foV x i ||| (nI i <<< (((4 * foJ x (nI i)) : Int32) &&& 31))
def foE : Nat → Int32
  | 0 => 0
  | i + 1 => foE i ||| (nI i <<< (((4 * nI i) : Int32) &&& 31))
def foD (n : Nat) : Nat → Int32
  | 0 => 0
  | i + 1 => foD n i ||| ((((nI n - 1) - nI i) : Int32) <<< (((4 * nI i) : Int32) &&& 31))
def foU (x : Int32) (n : Nat) : Nat → Int32
  | 0 => 0
  | i + 1 => foU x n i ||| ((((nI n - 1) - foJ x ((nI n - 1) - nI i)) : Int32) <<< (((4 * nI i) : Int32) &&& 31))
def foX (x p : Int32) : Int32 := (x ^^^ (((foJ x p ^^^ foJ x (p + 1)) : Int32) <<< (((4 * p) : Int32) &&& 31))) ^^^ (((foJ x p ^^^ foJ x (p + 1)) : Int32) <<< (((4 * (p + 1)) : Int32) &&& 31))
/-- the forms -/
def fO (h : Nat) : Prop := h = 46000 ∨ h = 47000 ∨ h = 49000 ∨ h = 51000
theorem fO_4 {vl : Nat → Nat} {h : Nat} (hh : fO h) : ((cX vl).2 (h + 4)).2.1 = 24 := by
  rcases hh with rfl | rfl | rfl | rfl <;> rfl
section CFO
variable {vl : Nat → Nat} {y : ow_MS} {h n : Nat} {x x' p : Int32}
theorem e_X5_image {vl : Nat → Nat} {x0 : Int32} {x1 : Int32} {z : ow_MS} {Q : (Int32 × ow_MS) → Prop} (H : Tt (fun K _ => cm_X5_image_0 vl K x0 x1 z) Q) : Te (fun K => ce_X5_image vl K x0 x1 z) Q := w_te0 H
theorem tc_image : Te (fun K => ce_X5_image vl K x p y) (fun r => r.1 = foJ x p ∧ r.2 = y) := by
  refine e_X5_image ?_; unfold cm_X5_image_0
  exact w_some ⟨rfl, rfl⟩
theorem u_X5_invert_1 {vl : Nat → Nat} {x0 : Int32} {x1 : Int32} {x2 : Int32} {x3 : Int32} {z : ow_MS} {Q : (Int32 × ow_MS) → Prop} (H : Tt (fun K k => cm_X5_invert_1 vl K (c_X5_invert vl K k) x0 x1 x2 x3 z) Q) : Tt (fun K k => c_X5_invert vl K k 1 x0 x1 x2 x3 z) Q := w_un (fun _ _ => rfl) H
theorem e_X5_invert {vl : Nat → Nat} {x0 : Int32} {x1 : Int32} {z : ow_MS} {Q : (Int32 × ow_MS) → Prop} (H : Tt (fun K k => c_X5_invert vl K k 0 x0 x1 0 0 z) Q) : Te (fun K => ce_X5_invert vl K x0 x1 z) Q := w_te H
theorem u_X5_invert_0 {vl : Nat → Nat} {x0 : Int32} {x1 : Int32} {x2 : Int32} {x3 : Int32} {z : ow_MS} {Q : (Int32 × ow_MS) → Prop} (H : Tt (fun K k => cm_X5_invert_0 vl K (c_X5_invert vl K k) x0 x1 x2 x3 z) Q) : Tt (fun K k => c_X5_invert vl K k 0 x0 x1 x2 x3 z) Q := w_un (fun _ _ => rfl) H
theorem tc_invert (hn : n ≤ 5) : Te (fun K => ce_X5_invert vl K x (nI n) y) (fun r => r.1 = foV x n ∧ r.2 = y) := by
  have c1 : ∀ (d i : Nat), i + d = n → Tt (fun K t => c_X5_invert vl K t 1 x (nI n) (foV x i) (nI i) y) (fun r => r.1 = foV x n ∧ r.2 = y) := by
    intro d
    induction d with
    | zero =>
      intro i hi
      have e : i = n := by omega
      subst e
      refine u_X5_invert_1 ?_; unfold cm_X5_invert_1
      exact w_leT (by omega) (by omega) (w_some ⟨rfl, rfl⟩)
    | succ d ih =>
      intro i hi
      refine u_X5_invert_1 ?_; unfold cm_X5_invert_1
      refine w_leF (by omega) (by omega) (w_cs1 tc_image ?_)
      rintro v y1 ⟨e1, e2⟩
      dsimp only at e1 e2
      rw [e1, e2, nI_1]
      exact ih (i + 1) (by omega)
  refine e_X5_invert ?_
  refine u_X5_invert_0 ?_; unfold cm_X5_invert_0
  exact c1 n 0 (by omega)
theorem u_X5_identityOf_1 {vl : Nat → Nat} {x0 : Int32} {x1 : Int32} {x2 : Int32} {z : ow_MS} {Q : (Int32 × ow_MS) → Prop} (H : Tt (fun K k => cm_X5_identityOf_1 vl K (c_X5_identityOf vl K k) x0 x1 x2 z) Q) : Tt (fun K k => c_X5_identityOf vl K k 1 x0 x1 x2 z) Q := w_un (fun _ _ => rfl) H
theorem e_X5_identityOf {vl : Nat → Nat} {x0 : Int32} {z : ow_MS} {Q : (Int32 × ow_MS) → Prop} (H : Tt (fun K k => c_X5_identityOf vl K k 0 x0 0 0 z) Q) : Te (fun K => ce_X5_identityOf vl K x0 z) Q := w_te H
theorem u_X5_identityOf_0 {vl : Nat → Nat} {x0 : Int32} {x1 : Int32} {x2 : Int32} {z : ow_MS} {Q : (Int32 × ow_MS) → Prop} (H : Tt (fun K k => cm_X5_identityOf_0 vl K (c_X5_identityOf vl K k) x0 x1 x2 z) Q) : Tt (fun K k => c_X5_identityOf vl K k 0 x0 x1 x2 z) Q := w_un (fun _ _ => rfl) H
theorem tc_identityOf (hn : n ≤ 5) : Te (fun K => ce_X5_identityOf vl K (nI n) y) (fun r => r.1 = foE n ∧ r.2 = y) := by
  have c1 : ∀ (d i : Nat), i + d = n → Tt (fun K t => c_X5_identityOf vl K t 1 (nI n) (foE i) (nI i) y) (fun r => r.1 = foE n ∧ r.2 = y) := by
    intro d
    induction d with
    | zero =>
      intro i hi
      have e : i = n := by omega
      subst e
      refine u_X5_identityOf_1 ?_; unfold cm_X5_identityOf_1
      exact w_leT (by omega) (by omega) (w_some ⟨rfl, rfl⟩)
    | succ d ih =>
      intro i hi
      refine u_X5_identityOf_1 ?_; unfold cm_X5_identityOf_1
      rw [nI_1]
      exact w_leF (by omega) (by omega) (ih (i + 1) (by omega))
  refine e_X5_identityOf ?_
  refine u_X5_identityOf_0 ?_; unfold cm_X5_identityOf_0
  exact c1 n 0 (by omega)
theorem u_X5_deltaOf_1 {vl : Nat → Nat} {x0 : Int32} {x1 : Int32} {x2 : Int32} {z : ow_MS} {Q : (Int32 × ow_MS) → Prop} (H : Tt (fun K k => cm_X5_deltaOf_1 vl K (c_X5_deltaOf vl K k) x0 x1 x2 z) Q) : Tt (fun K k => c_X5_deltaOf vl K k 1 x0 x1 x2 z) Q := w_un (fun _ _ => rfl) H
theorem e_X5_deltaOf {vl : Nat → Nat} {x0 : Int32} {z : ow_MS} {Q : (Int32 × ow_MS) → Prop} (H : Tt (fun K k => c_X5_deltaOf vl K k 0 x0 0 0 z) Q) : Te (fun K => ce_X5_deltaOf vl K x0 z) Q := w_te H
theorem u_X5_deltaOf_0 {vl : Nat → Nat} {x0 : Int32} {x1 : Int32} {x2 : Int32} {z : ow_MS} {Q : (Int32 × ow_MS) → Prop} (H : Tt (fun K k => cm_X5_deltaOf_0 vl K (c_X5_deltaOf vl K k) x0 x1 x2 z) Q) : Tt (fun K k => c_X5_deltaOf vl K k 0 x0 x1 x2 z) Q := w_un (fun _ _ => rfl) H
theorem tc_deltaOf (hn : n ≤ 5) : Te (fun K => ce_X5_deltaOf vl K (nI n) y) (fun r => r.1 = foD n n ∧ r.2 = y) := by
  have c1 : ∀ (d i : Nat), i + d = n → Tt (fun K t => c_X5_deltaOf vl K t 1 (nI n) (foD n i) (nI i) y) (fun r => r.1 = foD n n ∧ r.2 = y) := by
    intro d
    induction d with
    | zero =>
      intro i hi
      have e : i = n := by omega
      subst e
      refine u_X5_deltaOf_1 ?_; unfold cm_X5_deltaOf_1
      exact w_leT (by omega) (by omega) (w_some ⟨rfl, rfl⟩)
    | succ d ih =>
      intro i hi
      refine u_X5_deltaOf_1 ?_; unfold cm_X5_deltaOf_1
      rw [nI_1]
      exact w_leF (by omega) (by omega) (ih (i + 1) (by omega))
  refine e_X5_deltaOf ?_
  refine u_X5_deltaOf_0 ?_; unfold cm_X5_deltaOf_0
  exact c1 n 0 (by omega)
theorem u_X5_turned_1 {vl : Nat → Nat} {x0 : Int32} {x1 : Int32} {x2 : Int32} {x3 : Int32} {z : ow_MS} {Q : (Int32 × ow_MS) → Prop} (H : Tt (fun K k => cm_X5_turned_1 vl K (c_X5_turned vl K k) x0 x1 x2 x3 z) Q) : Tt (fun K k => c_X5_turned vl K k 1 x0 x1 x2 x3 z) Q := w_un (fun _ _ => rfl) H
theorem e_X5_turned {vl : Nat → Nat} {x0 : Int32} {x1 : Int32} {z : ow_MS} {Q : (Int32 × ow_MS) → Prop} (H : Tt (fun K k => c_X5_turned vl K k 0 x0 x1 0 0 z) Q) : Te (fun K => ce_X5_turned vl K x0 x1 z) Q := w_te H
theorem u_X5_turned_0 {vl : Nat → Nat} {x0 : Int32} {x1 : Int32} {x2 : Int32} {x3 : Int32} {z : ow_MS} {Q : (Int32 × ow_MS) → Prop} (H : Tt (fun K k => cm_X5_turned_0 vl K (c_X5_turned vl K k) x0 x1 x2 x3 z) Q) : Tt (fun K k => c_X5_turned vl K k 0 x0 x1 x2 x3 z) Q := w_un (fun _ _ => rfl) H
theorem tc_turned (hn : n ≤ 5) : Te (fun K => ce_X5_turned vl K x (nI n) y) (fun r => r.1 = foU x n n ∧ r.2 = y) := by
  have c1 : ∀ (d i : Nat), i + d = n → Tt (fun K t => c_X5_turned vl K t 1 x (nI n) (foU x n i) (nI i) y) (fun r => r.1 = foU x n n ∧ r.2 = y) := by
    intro d
    induction d with
    | zero =>
      intro i hi
      have e : i = n := by omega
      subst e
      refine u_X5_turned_1 ?_; unfold cm_X5_turned_1
      exact w_leT (by omega) (by omega) (w_some ⟨rfl, rfl⟩)
    | succ d ih =>
      intro i hi
      refine u_X5_turned_1 ?_; unfold cm_X5_turned_1
      refine w_leF (by omega) (by omega) (w_cs1 tc_image ?_)
      rintro v y1 ⟨e1, e2⟩
      dsimp only at e1 e2
      rw [e1, e2, nI_1]
      exact ih (i + 1) (by omega)
  refine e_X5_turned ?_
  refine u_X5_turned_0 ?_; unfold cm_X5_turned_0
  exact c1 n 0 (by omega)
theorem e_X5_exchanged {vl : Nat → Nat} {x0 : Int32} {x1 : Int32} {z : ow_MS} {Q : (Int32 × ow_MS) → Prop} (H : Tt (fun K _ => cm_X5_exchanged_0 vl K x0 x1 z) Q) : Te (fun K => ce_X5_exchanged vl K x0 x1 z) Q := w_te0 H
theorem tc_exchanged : Te (fun K => ce_X5_exchanged vl K x p y) (fun r => r.1 = foX x p ∧ r.2 = y) := by
  refine e_X5_exchanged ?_; unfold cm_X5_exchanged_0
  refine w_cs1 tc_image ?_
  rintro v y1 ⟨e1, e2⟩
  dsimp only at e1 e2
  rw [e1, e2]
  refine w_cs1 tc_image ?_
  rintro v2 y2 ⟨e3, e4⟩
  dsimp only at e3 e4
  rw [e3, e4]
  exact w_some ⟨rfl, rfl⟩
theorem e_X5_exchangedBehind {vl : Nat → Nat} {x0 : Int32} {x1 : Int32} {x2 : Int32} {z : ow_MS} {Q : (Int32 × ow_MS) → Prop} (H : Tt (fun K _ => cm_X5_exchangedBehind_0 vl K x0 x1 x2 z) Q) : Te (fun K => ce_X5_exchangedBehind vl K x0 x1 x2 z) Q := w_te0 H
theorem tc_exchangedBehind (hn : n ≤ 5) : Te (fun K => ce_X5_exchangedBehind vl K x p (nI n) y) (fun r => r.1 = foV (foX (foV x n) p) n ∧ r.2 = y) := by
  refine e_X5_exchangedBehind ?_; unfold cm_X5_exchangedBehind_0
  refine w_cs1 (tc_invert hn) ?_
  rintro v y1 ⟨e1, e2⟩
  dsimp only at e1 e2
  rw [e1, e2]
  refine w_cs1 tc_exchanged ?_
  rintro v2 y2 ⟨e3, e4⟩
  dsimp only at e3 e4
  rw [e3, e4]
  refine w_cs1 (tc_invert hn) ?_
  rintro v3 y3 ⟨e5, e6⟩
  dsimp only at e5 e6
  rw [e5, e6]
  exact w_some ⟨rfl, rfl⟩
/-- a form: strands, power, factors -/
def foA (y : ow_MS) (h n : Nat) (w : Int32) (L : List Int32) : Prop := y.1 (h + 1) = nI n ∧ y.1 (h + 2) = w ∧ y.1 (h + 3) = nI L.length ∧ L.length ≤ 24 ∧ (∀ i a, L[i]? = some a → y.2.1 (h + 4) i = a) ∧ y.1 (h + 5) = foE n ∧ y.1 (h + 6) = foD n n
def foP (h g : Nat) : Prop := h + 1 ≤ g ∧ g ≤ h + 6
theorem e_X5_begin {vl : Nat → Nat} {r0 : Nat} {x1 : Int32} {z : ow_MS} {Q : ow_MS → Prop} (H : Tt (fun K _ => cm_X5_begin_0 vl K x1 r0 z) Q) : Te (fun K => ce_X5_begin vl K r0 x1 z) Q := w_te0 H
theorem tc_begin (hn : n ≤ 5) : Te (fun K => ce_X5_begin vl K h (nI n) y) (fun y1 => foA y1 h n 0 [] ∧ fr (foP h) y y1) := by
  refine e_X5_begin ?_; unfold cm_X5_begin_0
  refine w_wrF (w_wrF (w_wrF (w_cs1 (tc_identityOf hn) ?_)))
  rintro v y1 ⟨e1, e2⟩
  dsimp only at e1 e2
  rw [e1, e2]
  refine w_wrF (w_cs1 (tc_deltaOf hn) ?_)
  rintro v2 y2 ⟨e3, e4⟩
  dsimp only at e3 e4
  rw [e3, e4]
  refine w_wrF (w_some ⟨⟨?_, ?_, ?_, Nat.zero_le _, fun i a e => (by rw [List.getElem?_nil] at e; cases e), rf_ot (by omega) po_usF_at, po_usF_at⟩, fr_F2 (fr_F2 (fr_F2 (fr_F2 (fr_F (by unfold foP; omega)) (by unfold foP; omega)) (by unfold foP; omega)) (by unfold foP; omega)) (by unfold foP; omega)⟩)
  · exact rf_ot (by omega) (rf_ot (by omega) (rf_ot (by omega) (rf_ot (by omega) po_usF_at)))
  · exact rf_ot (by omega) (rf_ot (by omega) (rf_ot (by omega) po_usF_at))
  · exact rf_ot (by omega) (rf_ot (by omega) po_usF_at)
/-- the first letter that may go from the second to the first -/
def foM (n : Nat) (a b : Int32) : Nat → Nat → Option Nat
  | 0, _ => none
  | d + 1, i => if foJ b (nI i + 1) < foJ b (nI i) ∧ foJ a (nI i) < foJ a (nI i + 1) then some i else foM n a b d (i + 1)
theorem u_X5_movable_1 {vl : Nat → Nat} {x1 : Int32} {x2 : Int32} {x3 : Int32} {r0 : Nat} {z : ow_MS} {Q : (Int32 × ow_MS) → Prop} (H : Tt (fun K k => cm_X5_movable_1 vl K (c_X5_movable vl K k) x1 x2 x3 r0 z) Q) : Tt (fun K k => c_X5_movable vl K k 1 x1 x2 x3 r0 z) Q := w_un (fun _ _ => rfl) H
theorem u_X5_movable_2 {vl : Nat → Nat} {x1 : Int32} {x2 : Int32} {x3 : Int32} {r0 : Nat} {z : ow_MS} {Q : (Int32 × ow_MS) → Prop} (H : Tt (fun K k => cm_X5_movable_2 vl K (c_X5_movable vl K k) x1 x2 x3 r0 z) Q) : Tt (fun K k => c_X5_movable vl K k 2 x1 x2 x3 r0 z) Q := w_un (fun _ _ => rfl) H
theorem e_X5_movable {vl : Nat → Nat} {r0 : Nat} {x1 : Int32} {x2 : Int32} {z : ow_MS} {Q : (Int32 × ow_MS) → Prop} (H : Tt (fun K k => c_X5_movable vl K k 0 x1 x2 0 r0 z) Q) : Te (fun K => ce_X5_movable vl K r0 x1 x2 z) Q := w_te H
theorem u_X5_movable_0 {vl : Nat → Nat} {x1 : Int32} {x2 : Int32} {x3 : Int32} {r0 : Nat} {z : ow_MS} {Q : (Int32 × ow_MS) → Prop} (H : Tt (fun K k => cm_X5_movable_0 vl K (c_X5_movable vl K k) x1 x2 x3 r0 z) Q) : Tt (fun K k => c_X5_movable vl K k 0 x1 x2 x3 r0 z) Q := w_un (fun _ _ => rfl) H
theorem tc_movable {a b : Int32} (h1 : y.1 (h + 1) = nI n) (hn1 : 1 ≤ n) (hn : n ≤ 5) : Te (fun K => ce_X5_movable vl K h a b y) (fun r => r.1 = oNI (foM n a b (n - 1) 0) ∧ r.2 = y) := by
  have c1 : ∀ (d i : Nat), i + d = n - 1 → foM n a b d i = foM n a b (n - 1) 0 → Tt (fun K t => c_X5_movable vl K t 1 a b (nI i) h y) (fun r => r.1 = oNI (foM n a b (n - 1) 0) ∧ r.2 = y) := by
    intro d
    induction d with
    | zero =>
      intro i hi e0
      refine u_X5_movable_1 ?_; unfold cm_X5_movable_1
      refine w_rdF h1 ?_
      rw [show nI n - 1 = nI (n - 1) from pk_sub (b := 1) hn1]
      exact w_leT (by omega) (by omega) (w_some ⟨by rw [← e0]; rfl, rfl⟩)
    | succ d ih =>
      intro i hi e0
      have c2 : ¬ (foJ b (nI i + 1) < foJ b (nI i) ∧ foJ a (nI i) < foJ a (nI i + 1)) → Tt (fun K t => c_X5_movable vl K t 2 a b (nI i) h y) (fun r => r.1 = oNI (foM n a b (n - 1) 0) ∧ r.2 = y) := by
        intro hno
        refine u_X5_movable_2 ?_; unfold cm_X5_movable_2
        rw [nI_1]
        refine ih (i + 1) (by omega) ?_
        rw [← e0]
        show _ = if _ then _ else _
        rw [if_neg hno]
      refine u_X5_movable_1 ?_; unfold cm_X5_movable_1
      refine w_rdF h1 ?_
      rw [show nI n - 1 = nI (n - 1) from pk_sub (b := 1) hn1]
      refine w_leF (by omega) (by omega) (w_cs1 tc_image ?_)
      rintro v y1 ⟨e1, e2⟩
      dsimp only at e1 e2
      rw [e1, e2]
      refine w_cs1 tc_image ?_
      rintro v2 y2 ⟨e3, e4⟩
      dsimp only at e3 e4
      rw [e3, e4]
      refine w_if (fun q => c2 (fun h9 => Int32.not_le.mpr h9.1 q)) (fun q => w_cs1 tc_image ?_)
      rintro v3 y3 ⟨e5, e6⟩
      dsimp only at e5 e6
      rw [e5, e6]
      refine w_cs1 tc_image ?_
      rintro v4 y4 ⟨e7, e8⟩
      dsimp only at e7 e8
      rw [e7, e8]
      refine w_if (fun q2 => c2 (fun h9 => Int32.not_le.mpr h9.2 q2)) (fun q2 => w_some ⟨?_, rfl⟩)
      rw [← e0]
      show nI i = oNI (if _ then _ else _)
      rw [if_pos ⟨Int32.not_le.mp q, Int32.not_le.mp q2⟩]
      rfl
  refine e_X5_movable ?_
  refine u_X5_movable_0 ?_; unfold cm_X5_movable_0
  exact c1 (n - 1) 0 (by omega) rfl
end CFO
end
section
/-! 99zzzzzzh.cform2 -/
/-! the class: Form goes on; normal, factor, equal have an answer -/
section CF2
variable {vl : Nat → Nat} {y : ow_MS} {h n l : Nat}
theorem u_X5_weigh_2 {vl : Nat → Nat} {x1 : Int32} {x2 : Int32} {x3 : Int32} {x4 : Int32} {x5 : Int32} {r0 : Nat} {z : ow_MS} {Q : (Int32 × ow_MS) → Prop} (H : Tt (fun K k => cm_X5_weigh_2 vl K (c_X5_weigh vl K k) x1 x2 x3 x4 x5 r0 z) Q) : Tt (fun K k => c_X5_weigh vl K k 2 x1 x2 x3 x4 x5 r0 z) Q := w_un (fun _ _ => rfl) H
theorem u_X5_weigh_1 {vl : Nat → Nat} {x1 : Int32} {x2 : Int32} {x3 : Int32} {x4 : Int32} {x5 : Int32} {r0 : Nat} {z : ow_MS} {Q : (Int32 × ow_MS) → Prop} (H : Tt (fun K k => cm_X5_weigh_1 vl K (c_X5_weigh vl K k) x1 x2 x3 x4 x5 r0 z) Q) : Tt (fun K k => c_X5_weigh vl K k 1 x1 x2 x3 x4 x5 r0 z) Q := w_un (fun _ _ => rfl) H
theorem e_X5_weigh {vl : Nat → Nat} {r0 : Nat} {x1 : Int32} {z : ow_MS} {Q : (Int32 × ow_MS) → Prop} (H : Tt (fun K k => c_X5_weigh vl K k 0 x1 0 0 0 0 r0 z) Q) : Te (fun K => ce_X5_weigh vl K r0 x1 z) Q := w_te H
theorem u_X5_weigh_0 {vl : Nat → Nat} {x1 : Int32} {x2 : Int32} {x3 : Int32} {x4 : Int32} {x5 : Int32} {r0 : Nat} {z : ow_MS} {Q : (Int32 × ow_MS) → Prop} (H : Tt (fun K k => cm_X5_weigh_0 vl K (c_X5_weigh vl K k) x1 x2 x3 x4 x5 r0 z) Q) : Tt (fun K k => c_X5_weigh vl K k 0 x1 x2 x3 x4 x5 r0 z) Q := w_un (fun _ _ => rfl) H
theorem u_X5_strip_3 {vl : Nat → Nat} {x1 : Int32} {r0 : Nat} {z : ow_MS} {Q : ow_MS → Prop} (H : Tt (fun K k => cm_X5_strip_3 vl K (c_X5_strip vl K k) x1 r0 z) Q) : Tt (fun K k => c_X5_strip vl K k 3 x1 r0 z) Q := w_un (fun _ _ => rfl) H
theorem u_X5_strip_2 {vl : Nat → Nat} {x1 : Int32} {r0 : Nat} {z : ow_MS} {Q : ow_MS → Prop} (H : Tt (fun K k => cm_X5_strip_2 vl K (c_X5_strip vl K k) x1 r0 z) Q) : Tt (fun K k => c_X5_strip vl K k 2 x1 r0 z) Q := w_un (fun _ _ => rfl) H
theorem u_X5_strip_1 {vl : Nat → Nat} {x1 : Int32} {r0 : Nat} {z : ow_MS} {Q : ow_MS → Prop} (H : Tt (fun K k => cm_X5_strip_1 vl K (c_X5_strip vl K k) x1 r0 z) Q) : Tt (fun K k => c_X5_strip vl K k 1 x1 r0 z) Q := w_un (fun _ _ => rfl) H
theorem e_X5_strip {vl : Nat → Nat} {r0 : Nat} {z : ow_MS} {Q : ow_MS → Prop} (H : Tt (fun K k => c_X5_strip vl K k 0 0 r0 z) Q) : Te (fun K => ce_X5_strip vl K r0 z) Q := w_te H
theorem u_X5_strip_0 {vl : Nat → Nat} {x1 : Int32} {r0 : Nat} {z : ow_MS} {Q : ow_MS → Prop} (H : Tt (fun K k => cm_X5_strip_0 vl K (c_X5_strip vl K k) x1 r0 z) Q) : Tt (fun K k => c_X5_strip vl K k 0 x1 r0 z) Q := w_un (fun _ _ => rfl) H
theorem u_X5_putBehind_2 {vl : Nat → Nat} {x1 : Int32} {x2 : Int32} {x3 : Int32} {r0 : Nat} {z : ow_MS} {Q : ow_MS → Prop} (H : Tt (fun K k => cm_X5_putBehind_2 vl K (c_X5_putBehind vl K k) x1 x2 x3 r0 z) Q) : Tt (fun K k => c_X5_putBehind vl K k 2 x1 x2 x3 r0 z) Q := w_un (fun _ _ => rfl) H
theorem u_X5_putBehind_1 {vl : Nat → Nat} {x1 : Int32} {x2 : Int32} {x3 : Int32} {r0 : Nat} {z : ow_MS} {Q : ow_MS → Prop} (H : Tt (fun K k => cm_X5_putBehind_1 vl K (c_X5_putBehind vl K k) x1 x2 x3 r0 z) Q) : Tt (fun K k => c_X5_putBehind vl K k 1 x1 x2 x3 r0 z) Q := w_un (fun _ _ => rfl) H
theorem e_X5_putBehind {vl : Nat → Nat} {r0 : Nat} {x1 : Int32} {z : ow_MS} {Q : ow_MS → Prop} (H : Tt (fun K k => c_X5_putBehind vl K k 0 x1 0 0 r0 z) Q) : Te (fun K => ce_X5_putBehind vl K r0 x1 z) Q := w_te H
theorem u_X5_putBehind_0 {vl : Nat → Nat} {x1 : Int32} {x2 : Int32} {x3 : Int32} {r0 : Nat} {z : ow_MS} {Q : ow_MS → Prop} (H : Tt (fun K k => cm_X5_putBehind_0 vl K (c_X5_putBehind vl K k) x1 x2 x3 r0 z) Q) : Tt (fun K k => c_X5_putBehind vl K k 0 x1 x2 x3 r0 z) Q := w_un (fun _ _ => rfl) H
theorem u_X5_takeLetter_1 {vl : Nat → Nat} {x1 : Int32} {x2 : Int32} {x3 : Int32} {r0 : Nat} {z : ow_MS} {Q : ow_MS → Prop} (H : Tt (fun K k => cm_X5_takeLetter_1 vl K (c_X5_takeLetter vl K k) x1 x2 x3 r0 z) Q) : Tt (fun K k => c_X5_takeLetter vl K k 1 x1 x2 x3 r0 z) Q := w_un (fun _ _ => rfl) H
theorem e_X5_takeLetter {vl : Nat → Nat} {r0 : Nat} {x1 : Int32} {z : ow_MS} {Q : ow_MS → Prop} (H : Tt (fun K k => c_X5_takeLetter vl K k 0 x1 0 0 r0 z) Q) : Te (fun K => ce_X5_takeLetter vl K r0 x1 z) Q := w_te H
theorem u_X5_takeLetter_0 {vl : Nat → Nat} {x1 : Int32} {x2 : Int32} {x3 : Int32} {r0 : Nat} {z : ow_MS} {Q : ow_MS → Prop} (H : Tt (fun K k => cm_X5_takeLetter_0 vl K (c_X5_takeLetter vl K k) x1 x2 x3 r0 z) Q) : Tt (fun K k => c_X5_takeLetter vl K k 0 x1 x2 x3 r0 z) Q := w_un (fun _ _ => rfl) H
theorem u_X11_write_1 {vl : Nat → Nat} {x2 : Int32} {x3 : Int32} {r0 : Nat} {r1 : Nat} {z : ow_MS} {Q : ow_MS → Prop} (H : Tt (fun K k => cm_X11_write_1 vl K (c_X11_write vl K k) x2 x3 r0 r1 z) Q) : Tt (fun K k => c_X11_write vl K k 1 x2 x3 r0 r1 z) Q := w_un (fun _ _ => rfl) H
theorem e_X11_write {vl : Nat → Nat} {r0 : Nat} {r1 : Nat} {x2 : Int32} {z : ow_MS} {Q : ow_MS → Prop} (H : Tt (fun K k => c_X11_write vl K k 0 x2 0 r0 r1 z) Q) : Te (fun K => ce_X11_write vl K r0 r1 x2 z) Q := w_te H
theorem u_X11_write_0 {vl : Nat → Nat} {x2 : Int32} {x3 : Int32} {r0 : Nat} {r1 : Nat} {z : ow_MS} {Q : ow_MS → Prop} (H : Tt (fun K k => cm_X11_write_0 vl K (c_X11_write vl K k) x2 x3 r0 r1 z) Q) : Tt (fun K k => c_X11_write vl K k 0 x2 x3 r0 r1 z) Q := w_un (fun _ _ => rfl) H
end CF2
end
section
/-! 99zzzzzzi.cnorm -/
/-! the class: normal, factor, equal have an answer -/
section CNR
variable {vl : Nat → Nat} {y : ow_MS} {x x' : Int32}
theorem fo46 : fO 46000 := Or.inl rfl
theorem fo47 : fO 47000 := Or.inr (Or.inl rfl)
theorem e_X11_normal {vl : Nat → Nat} {r0 : Nat} {x1 : Int32} {x2 : Int32} {z : ow_MS} {Q : (Nat × Int32 × ow_MS) → Prop} (H : Tt (fun K _ => cm_X11_normal_0 vl K x1 x2 r0 z) Q) : Te (fun K => ce_X11_normal vl K r0 x1 x2 z) Q := w_te0 H
theorem e_X11_factor {vl : Nat → Nat} {r0 : Nat} {x1 : Int32} {x2 : Int32} {x3 : Int32} {z : ow_MS} {Q : (Nat × Int32 × ow_MS) → Prop} (H : Tt (fun K _ => cm_X11_factor_0 vl K x1 x2 x3 r0 z) Q) : Te (fun K => ce_X11_factor vl K r0 x1 x2 x3 z) Q := w_te0 H
theorem u_X5_sameAs_1 {vl : Nat → Nat} {x2 : Int32} {r0 : Nat} {r1 : Nat} {z : ow_MS} {Q : (Int32 × ow_MS) → Prop} (H : Tt (fun K k => cm_X5_sameAs_1 vl K (c_X5_sameAs vl K k) x2 r0 r1 z) Q) : Tt (fun K k => c_X5_sameAs vl K k 1 x2 r0 r1 z) Q := w_un (fun _ _ => rfl) H
theorem e_X5_sameAs {vl : Nat → Nat} {r0 : Nat} {r1 : Nat} {z : ow_MS} {Q : (Int32 × ow_MS) → Prop} (H : Tt (fun K k => c_X5_sameAs vl K k 0 0 r0 r1 z) Q) : Te (fun K => ce_X5_sameAs vl K r0 r1 z) Q := w_te H
theorem u_X5_sameAs_0 {vl : Nat → Nat} {x2 : Int32} {r0 : Nat} {r1 : Nat} {z : ow_MS} {Q : (Int32 × ow_MS) → Prop} (H : Tt (fun K k => cm_X5_sameAs_0 vl K (c_X5_sameAs vl K k) x2 r0 r1 z) Q) : Tt (fun K k => c_X5_sameAs vl K k 0 x2 r0 r1 z) Q := w_un (fun _ _ => rfl) H
theorem e_X11_equal {vl : Nat → Nat} {r0 : Nat} {x1 : Int32} {x2 : Int32} {z : ow_MS} {Q : (Int32 × ow_MS) → Prop} (H : Tt (fun K _ => cm_X11_equal_0 vl K x1 x2 r0 z) Q) : Te (fun K => ce_X11_equal vl K r0 x1 x2 z) Q := w_te0 H
end CNR
end
section
/-! 99zzzzzzj.crank -/
/-! the class: rank has an answer -/
section CRK
variable {vl : Nat → Nat} {y : ow_MS} {x x' : Int32}
theorem ch_43018 : ((cX vl).2 43018).2.1 = 504 := rfl
theorem u_X1_rankAt_1 {vl : Nat → Nat} {x1 : Int32} {x2 : Int32} {w3 : Int64} {w5 : Int64} {r0 : Nat} {z : ow_MS} {Q : (Int32 × ow_MS) → Prop} (H : Tt (fun K k => cm_X1_rankAt_1 vl K (c_X1_rankAt vl K k) x1 x2 w3 w5 r0 z) Q) : Tt (fun K k => c_X1_rankAt vl K k 1 x1 x2 w3 w5 r0 z) Q := w_un (fun _ _ => rfl) H
theorem e_X1_rankAt {vl : Nat → Nat} {r0 : Nat} {x1 : Int32} {x2 : Int32} {z : ow_MS} {Q : (Int32 × ow_MS) → Prop} (H : Tt (fun K k => c_X1_rankAt vl K k 0 x1 x2 0 0 r0 z) Q) : Te (fun K => ce_X1_rankAt vl K r0 x1 x2 z) Q := w_te H
theorem u_X1_rankAt_0 {vl : Nat → Nat} {x1 : Int32} {x2 : Int32} {w3 : Int64} {w5 : Int64} {r0 : Nat} {z : ow_MS} {Q : (Int32 × ow_MS) → Prop} (H : Tt (fun K k => cm_X1_rankAt_0 vl K (c_X1_rankAt vl K k) x1 x2 w3 w5 r0 z) Q) : Tt (fun K k => c_X1_rankAt vl K k 0 x1 x2 w3 w5 r0 z) Q := w_un (fun _ _ => rfl) H
theorem e_X11_rank {vl : Nat → Nat} {r0 : Nat} {x1 : Int32} {x2 : Int32} {z : ow_MS} {Q : (Int32 × ow_MS) → Prop} (H : Tt (fun K _ => cm_X11_rank_0 vl K x1 x2 r0 z) Q) : Te (fun K => ce_X11_rank vl K r0 x1 x2 z) Q := w_te0 H
end CRK
end
section
/-! 99zzzzzzk.cform3 -/
/-! the class: Form's copy, putBefore, cycle, decycle, conjugateBy have an answer -/
section CF3
variable {vl : Nat → Nat} {y : ow_MS} {h g n : Nat} {x : Int32}
theorem e_X5_copy {vl : Nat → Nat} {r0 : Nat} {r1 : Nat} {z : ow_MS} {Q : ow_MS → Prop} (H : Tt (fun K _ => cm_X5_copy_0 vl K r0 r1 z) Q) : Te (fun K => ce_X5_copy vl K r0 r1 z) Q := w_te0 H
theorem u_X5_putBefore_2 {vl : Nat → Nat} {x1 : Int32} {x2 : Int32} {x3 : Int32} {r0 : Nat} {z : ow_MS} {Q : ow_MS → Prop} (H : Tt (fun K k => cm_X5_putBefore_2 vl K (c_X5_putBefore vl K k) x1 x2 x3 r0 z) Q) : Tt (fun K k => c_X5_putBefore vl K k 2 x1 x2 x3 r0 z) Q := w_un (fun _ _ => rfl) H
theorem u_X5_putBefore_1 {vl : Nat → Nat} {x1 : Int32} {x2 : Int32} {x3 : Int32} {r0 : Nat} {z : ow_MS} {Q : ow_MS → Prop} (H : Tt (fun K k => cm_X5_putBefore_1 vl K (c_X5_putBefore vl K k) x1 x2 x3 r0 z) Q) : Tt (fun K k => c_X5_putBefore vl K k 1 x1 x2 x3 r0 z) Q := w_un (fun _ _ => rfl) H
theorem e_X5_putBefore {vl : Nat → Nat} {r0 : Nat} {x1 : Int32} {z : ow_MS} {Q : ow_MS → Prop} (H : Tt (fun K k => c_X5_putBefore vl K k 0 x1 0 0 r0 z) Q) : Te (fun K => ce_X5_putBefore vl K r0 x1 z) Q := w_te H
theorem u_X5_putBefore_0 {vl : Nat → Nat} {x1 : Int32} {x2 : Int32} {x3 : Int32} {r0 : Nat} {z : ow_MS} {Q : ow_MS → Prop} (H : Tt (fun K k => cm_X5_putBefore_0 vl K (c_X5_putBefore vl K k) x1 x2 x3 r0 z) Q) : Tt (fun K k => c_X5_putBefore vl K k 0 x1 x2 x3 r0 z) Q := w_un (fun _ _ => rfl) H
theorem u_X5_cycle_1 {vl : Nat → Nat} {r0 : Nat} {t0 : Int32} {z : ow_MS} {Q : ow_MS → Prop} (H : Tt (fun K k => cm_X5_cycle_1 vl K (c_X5_cycle vl K k) r0 t0 z) Q) : Tt (fun K k => c_X5_cycle vl K k 1 r0 t0 z) Q := w_un (fun _ _ => rfl) H
theorem e_X5_cycle {vl : Nat → Nat} {r0 : Nat} {z : ow_MS} {Q : ow_MS → Prop} (H : Tt (fun K k => c_X5_cycle vl K k 0 r0 0 z) Q) : Te (fun K => ce_X5_cycle vl K r0 z) Q := w_te H
theorem u_X5_cycle_0 {vl : Nat → Nat} {r0 : Nat} {t0 : Int32} {z : ow_MS} {Q : ow_MS → Prop} (H : Tt (fun K k => cm_X5_cycle_0 vl K (c_X5_cycle vl K k) r0 t0 z) Q) : Tt (fun K k => c_X5_cycle vl K k 0 r0 t0 z) Q := w_un (fun _ _ => rfl) H
theorem u_X5_decycle_1 {vl : Nat → Nat} {x1 : Int32} {r0 : Nat} {t0 : Int32} {z : ow_MS} {Q : ow_MS → Prop} (H : Tt (fun K k => cm_X5_decycle_1 vl K (c_X5_decycle vl K k) x1 r0 t0 z) Q) : Tt (fun K k => c_X5_decycle vl K k 1 x1 r0 t0 z) Q := w_un (fun _ _ => rfl) H
theorem e_X5_decycle {vl : Nat → Nat} {r0 : Nat} {z : ow_MS} {Q : ow_MS → Prop} (H : Tt (fun K k => c_X5_decycle vl K k 0 0 r0 0 z) Q) : Te (fun K => ce_X5_decycle vl K r0 z) Q := w_te H
theorem u_X5_decycle_0 {vl : Nat → Nat} {x1 : Int32} {r0 : Nat} {t0 : Int32} {z : ow_MS} {Q : ow_MS → Prop} (H : Tt (fun K k => cm_X5_decycle_0 vl K (c_X5_decycle vl K k) x1 r0 t0 z) Q) : Tt (fun K k => c_X5_decycle vl K k 0 x1 r0 t0 z) Q := w_un (fun _ _ => rfl) H
theorem u_X5_conjugateBy_2 {vl : Nat → Nat} {x1 : Int32} {x2 : Int32} {x3 : Int32} {x4 : Int32} {r0 : Nat} {t0 : Int32} {z : ow_MS} {Q : ow_MS → Prop} (H : Tt (fun K k => cm_X5_conjugateBy_2 vl K (c_X5_conjugateBy vl K k) x1 x2 x3 x4 r0 t0 z) Q) : Tt (fun K k => c_X5_conjugateBy vl K k 2 x1 x2 x3 x4 r0 t0 z) Q := w_un (fun _ _ => rfl) H
theorem u_X5_conjugateBy_1 {vl : Nat → Nat} {x1 : Int32} {x2 : Int32} {x3 : Int32} {x4 : Int32} {r0 : Nat} {t0 : Int32} {z : ow_MS} {Q : ow_MS → Prop} (H : Tt (fun K k => cm_X5_conjugateBy_1 vl K (c_X5_conjugateBy vl K k) x1 x2 x3 x4 r0 t0 z) Q) : Tt (fun K k => c_X5_conjugateBy vl K k 1 x1 x2 x3 x4 r0 t0 z) Q := w_un (fun _ _ => rfl) H
theorem e_X5_conjugateBy {vl : Nat → Nat} {r0 : Nat} {x1 : Int32} {z : ow_MS} {Q : ow_MS → Prop} (H : Tt (fun K k => c_X5_conjugateBy vl K k 0 x1 0 0 0 r0 0 z) Q) : Te (fun K => ce_X5_conjugateBy vl K r0 x1 z) Q := w_te H
theorem u_X5_conjugateBy_0 {vl : Nat → Nat} {x1 : Int32} {x2 : Int32} {x3 : Int32} {x4 : Int32} {r0 : Nat} {t0 : Int32} {z : ow_MS} {Q : ow_MS → Prop} (H : Tt (fun K k => cm_X5_conjugateBy_0 vl K (c_X5_conjugateBy vl K k) x1 x2 x3 x4 r0 t0 z) Q) : Tt (fun K k => c_X5_conjugateBy vl K k 0 x1 x2 x3 x4 r0 t0 z) Q := w_un (fun _ _ => rfl) H
end CF3
end
section
/-! 99zzzzzzl.csmt -/
/-! the class: Summit has an answer -/
/-- the two summits: their work form lies 1000 behind -/
def sO (h : Nat) : Prop := h = 48000 ∨ h = 50000
theorem sO_f {h : Nat} (hh : sO h) : fO (h + 1000) := by
  rcases hh with rfl | rfl
  · exact Or.inr (Or.inr (Or.inl rfl))
  · exact Or.inr (Or.inr (Or.inr rfl))
theorem sO_5 {vl : Nat → Nat} {h : Nat} (hh : sO h) : ((cX vl).2 (h + 5)).2.1 = 4020 := by
  rcases hh with rfl | rfl <;> rfl
theorem sO_6 {vl : Nat → Nat} {h : Nat} (hh : sO h) : ((cX vl).2 (h + 6)).2.1 = 201 := by
  rcases hh with rfl | rfl <;> rfl
theorem sO_8 {vl : Nat → Nat} {h : Nat} (hh : sO h) : ((cX vl).2 (h + 8)).2.1 = 24 := by
  rcases hh with rfl | rfl <;> rfl
theorem sO_9 {vl : Nat → Nat} {h : Nat} (hh : sO h) : ((cX vl).2 (h + 9)).2.1 = 24 := by
  rcases hh with rfl | rfl <;> rfl
theorem sO_10 {vl : Nat → Nat} {h : Nat} (hh : sO h) : ((cX vl).2 (h + 10)).2.1 = 24 := by
  rcases hh with rfl | rfl <;> rfl
def suP (h g : Nat) : Prop := h + 1 ≤ g ∧ g ≤ h + 11 ∨ h + 1001 ≤ g ∧ g ≤ h + 1006
section CSU
variable {vl : Nat → Nat} {y : ow_MS} {h n l m : Nat}
theorem m20 {d : Nat} : nI d * 20 = nI (20 * d) := by
  rw [show (20 : Int32) = nI 20 from rfl, pk_mul, Nat.mul_comm]
theorem u_X10_compare_1 {vl : Nat → Nat} {x2 : Int32} {x4 : Int32} {x5 : Int32} {r0 : Nat} {r1 : Nat} {r3 : Nat} {z : ow_MS} {Q : (Int32 × ow_MS) → Prop} (H : Tt (fun K k => cm_X10_compare_1 vl K (c_X10_compare vl K k) x2 x4 x5 r0 r1 r3 z) Q) : Tt (fun K k => c_X10_compare vl K k 1 x2 x4 x5 r0 r1 r3 z) Q := w_un (fun _ _ => rfl) H
theorem e_X10_compare {vl : Nat → Nat} {r0 : Nat} {r1 : Nat} {x2 : Int32} {r3 : Nat} {x4 : Int32} {z : ow_MS} {Q : (Int32 × ow_MS) → Prop} (H : Tt (fun K k => c_X10_compare vl K k 0 x2 x4 0 r0 r1 r3 z) Q) : Te (fun K => ce_X10_compare vl K r0 r1 x2 r3 x4 z) Q := w_te H
theorem u_X10_compare_0 {vl : Nat → Nat} {x2 : Int32} {x4 : Int32} {x5 : Int32} {r0 : Nat} {r1 : Nat} {r3 : Nat} {z : ow_MS} {Q : (Int32 × ow_MS) → Prop} (H : Tt (fun K k => cm_X10_compare_0 vl K (c_X10_compare vl K k) x2 x4 x5 r0 r1 r3 z) Q) : Tt (fun K k => c_X10_compare vl K k 0 x2 x4 x5 r0 r1 r3 z) Q := w_un (fun _ _ => rfl) H
theorem u_X10_add_3 {vl : Nat → Nat} {x1 : Int32} {x2 : Int32} {x3 : Int32} {x4 : Int32} {x5 : Int32} {r0 : Nat} {z : ow_MS} {Q : ow_MS → Prop} (H : Tt (fun K k => cm_X10_add_3 vl K (c_X10_add vl K k) x1 x2 x3 x4 x5 r0 z) Q) : Tt (fun K k => c_X10_add vl K k 3 x1 x2 x3 x4 x5 r0 z) Q := w_un (fun _ _ => rfl) H
theorem u_X10_add_1 {vl : Nat → Nat} {x1 : Int32} {x2 : Int32} {x3 : Int32} {x4 : Int32} {x5 : Int32} {r0 : Nat} {z : ow_MS} {Q : ow_MS → Prop} (H : Tt (fun K k => cm_X10_add_1 vl K (c_X10_add vl K k) x1 x2 x3 x4 x5 r0 z) Q) : Tt (fun K k => c_X10_add vl K k 1 x1 x2 x3 x4 x5 r0 z) Q := w_un (fun _ _ => rfl) H
theorem u_X10_add_2 {vl : Nat → Nat} {x1 : Int32} {x2 : Int32} {x3 : Int32} {x4 : Int32} {x5 : Int32} {r0 : Nat} {z : ow_MS} {Q : ow_MS → Prop} (H : Tt (fun K k => cm_X10_add_2 vl K (c_X10_add vl K k) x1 x2 x3 x4 x5 r0 z) Q) : Tt (fun K k => c_X10_add vl K k 2 x1 x2 x3 x4 x5 r0 z) Q := w_un (fun _ _ => rfl) H
theorem e_X10_add {vl : Nat → Nat} {r0 : Nat} {z : ow_MS} {Q : ow_MS → Prop} (H : Tt (fun K k => c_X10_add vl K k 0 0 0 0 0 0 r0 z) Q) : Te (fun K => ce_X10_add vl K r0 z) Q := w_te H
theorem u_X10_add_0 {vl : Nat → Nat} {x1 : Int32} {x2 : Int32} {x3 : Int32} {x4 : Int32} {x5 : Int32} {r0 : Nat} {z : ow_MS} {Q : ow_MS → Prop} (H : Tt (fun K k => cm_X10_add_0 vl K (c_X10_add vl K k) x1 x2 x3 x4 x5 r0 z) Q) : Tt (fun K k => c_X10_add vl K k 0 x1 x2 x3 x4 x5 r0 z) Q := w_un (fun _ _ => rfl) H
theorem u_X10_goesOn_1 {vl : Nat → Nat} {x1 : Int32} {x2 : Int32} {x3 : Int32} {r0 : Nat} {z : ow_MS} {Q : (Int32 × ow_MS) → Prop} (H : Tt (fun K k => cm_X10_goesOn_1 vl K (c_X10_goesOn vl K k) x1 x2 x3 r0 z) Q) : Tt (fun K k => c_X10_goesOn vl K k 1 x1 x2 x3 r0 z) Q := w_un (fun _ _ => rfl) H
theorem e_X10_goesOn {vl : Nat → Nat} {r0 : Nat} {x1 : Int32} {x2 : Int32} {z : ow_MS} {Q : (Int32 × ow_MS) → Prop} (H : Tt (fun K k => c_X10_goesOn vl K k 0 x1 x2 0 r0 z) Q) : Te (fun K => ce_X10_goesOn vl K r0 x1 x2 z) Q := w_te H
theorem u_X10_goesOn_0 {vl : Nat → Nat} {x1 : Int32} {x2 : Int32} {x3 : Int32} {r0 : Nat} {z : ow_MS} {Q : (Int32 × ow_MS) → Prop} (H : Tt (fun K k => cm_X10_goesOn_0 vl K (c_X10_goesOn vl K k) x1 x2 x3 r0 z) Q) : Tt (fun K k => c_X10_goesOn vl K k 0 x1 x2 x3 r0 z) Q := w_un (fun _ _ => rfl) H
end CSU
end
section
/-! 99zzzzzzm.csmt2 -/
/-! the class: Summit.find; summit has an answer -/
section CS2
variable {vl : Nat → Nat} {y : ow_MS} {h n l m : Nat}
theorem u_X10_gather_1 {vl : Nat → Nat} {x1 : Int32} {x2 : Int32} {x3 : Int32} {r0 : Nat} {z : ow_MS} {Q : (Int32 × ow_MS) → Prop} (H : Tt (fun K k => cm_X10_gather_1 vl K (c_X10_gather vl K k) x1 x2 x3 r0 z) Q) : Tt (fun K k => c_X10_gather vl K k 1 x1 x2 x3 r0 z) Q := w_un (fun _ _ => rfl) H
theorem u_X10_gather_2 {vl : Nat → Nat} {x1 : Int32} {x2 : Int32} {x3 : Int32} {r0 : Nat} {z : ow_MS} {Q : (Int32 × ow_MS) → Prop} (H : Tt (fun K k => cm_X10_gather_2 vl K (c_X10_gather vl K k) x1 x2 x3 r0 z) Q) : Tt (fun K k => c_X10_gather vl K k 2 x1 x2 x3 r0 z) Q := w_un (fun _ _ => rfl) H
theorem u_X10_gather_5 {vl : Nat → Nat} {x1 : Int32} {x2 : Int32} {x3 : Int32} {r0 : Nat} {z : ow_MS} {Q : (Int32 × ow_MS) → Prop} (H : Tt (fun K k => cm_X10_gather_5 vl K (c_X10_gather vl K k) x1 x2 x3 r0 z) Q) : Tt (fun K k => c_X10_gather vl K k 5 x1 x2 x3 r0 z) Q := w_un (fun _ _ => rfl) H
theorem u_X10_gather_4 {vl : Nat → Nat} {x1 : Int32} {x2 : Int32} {x3 : Int32} {r0 : Nat} {z : ow_MS} {Q : (Int32 × ow_MS) → Prop} (H : Tt (fun K k => cm_X10_gather_4 vl K (c_X10_gather vl K k) x1 x2 x3 r0 z) Q) : Tt (fun K k => c_X10_gather vl K k 4 x1 x2 x3 r0 z) Q := w_un (fun _ _ => rfl) H
theorem u_X10_gather_3 {vl : Nat → Nat} {x1 : Int32} {x2 : Int32} {x3 : Int32} {r0 : Nat} {z : ow_MS} {Q : (Int32 × ow_MS) → Prop} (H : Tt (fun K k => cm_X10_gather_3 vl K (c_X10_gather vl K k) x1 x2 x3 r0 z) Q) : Tt (fun K k => c_X10_gather vl K k 3 x1 x2 x3 r0 z) Q := w_un (fun _ _ => rfl) H
theorem e_X10_gather {vl : Nat → Nat} {r0 : Nat} {z : ow_MS} {Q : (Int32 × ow_MS) → Prop} (H : Tt (fun K k => c_X10_gather vl K k 0 0 0 0 r0 z) Q) : Te (fun K => ce_X10_gather vl K r0 z) Q := w_te H
theorem u_X10_gather_0 {vl : Nat → Nat} {x1 : Int32} {x2 : Int32} {x3 : Int32} {r0 : Nat} {z : ow_MS} {Q : (Int32 × ow_MS) → Prop} (H : Tt (fun K k => cm_X10_gather_0 vl K (c_X10_gather vl K k) x1 x2 x3 r0 z) Q) : Tt (fun K k => c_X10_gather vl K k 0 x1 x2 x3 r0 z) Q := w_un (fun _ _ => rfl) H
theorem u_X10_climb_4 {vl : Nat → Nat} {x1 : Int32} {x2 : Int32} {x3 : Int32} {r0 : Nat} {t0 : Int32} {z : ow_MS} {Q : ow_MS → Prop} (H : Tt (fun K k => cm_X10_climb_4 vl K (c_X10_climb vl K k) x1 x2 x3 r0 t0 z) Q) : Tt (fun K k => c_X10_climb vl K k 4 x1 x2 x3 r0 t0 z) Q := w_un (fun _ _ => rfl) H
theorem u_X10_climb_5 {vl : Nat → Nat} {x1 : Int32} {x2 : Int32} {x3 : Int32} {r0 : Nat} {t0 : Int32} {z : ow_MS} {Q : ow_MS → Prop} (H : Tt (fun K k => cm_X10_climb_5 vl K (c_X10_climb vl K k) x1 x2 x3 r0 t0 z) Q) : Tt (fun K k => c_X10_climb vl K k 5 x1 x2 x3 r0 t0 z) Q := w_un (fun _ _ => rfl) H
theorem u_X10_climb_3 {vl : Nat → Nat} {x1 : Int32} {x2 : Int32} {x3 : Int32} {r0 : Nat} {t0 : Int32} {z : ow_MS} {Q : ow_MS → Prop} (H : Tt (fun K k => cm_X10_climb_3 vl K (c_X10_climb vl K k) x1 x2 x3 r0 t0 z) Q) : Tt (fun K k => c_X10_climb vl K k 3 x1 x2 x3 r0 t0 z) Q := w_un (fun _ _ => rfl) H
theorem u_X10_climb_1 {vl : Nat → Nat} {x1 : Int32} {x2 : Int32} {x3 : Int32} {r0 : Nat} {t0 : Int32} {z : ow_MS} {Q : ow_MS → Prop} (H : Tt (fun K k => cm_X10_climb_1 vl K (c_X10_climb vl K k) x1 x2 x3 r0 t0 z) Q) : Tt (fun K k => c_X10_climb vl K k 1 x1 x2 x3 r0 t0 z) Q := w_un (fun _ _ => rfl) H
theorem u_X10_climb_2 {vl : Nat → Nat} {x1 : Int32} {x2 : Int32} {x3 : Int32} {r0 : Nat} {t0 : Int32} {z : ow_MS} {Q : ow_MS → Prop} (H : Tt (fun K k => cm_X10_climb_2 vl K (c_X10_climb vl K k) x1 x2 x3 r0 t0 z) Q) : Tt (fun K k => c_X10_climb vl K k 2 x1 x2 x3 r0 t0 z) Q := w_un (fun _ _ => rfl) H
theorem e_X10_climb {vl : Nat → Nat} {r0 : Nat} {z : ow_MS} {Q : ow_MS → Prop} (H : Tt (fun K k => c_X10_climb vl K k 0 0 0 0 r0 0 z) Q) : Te (fun K => ce_X10_climb vl K r0 z) Q := w_te H
theorem u_X10_climb_0 {vl : Nat → Nat} {x1 : Int32} {x2 : Int32} {x3 : Int32} {r0 : Nat} {t0 : Int32} {z : ow_MS} {Q : ow_MS → Prop} (H : Tt (fun K k => cm_X10_climb_0 vl K (c_X10_climb vl K k) x1 x2 x3 r0 t0 z) Q) : Tt (fun K k => c_X10_climb vl K k 0 x1 x2 x3 r0 t0 z) Q := w_un (fun _ _ => rfl) H
end CS2
end
section
/-! 99zzzzzzn.csmt3 -/
/-! the class: summit, conjugate have an answer -/
section CS3
variable {vl : Nat → Nat} {y : ow_MS} {h n : Nat}
theorem u_X10_changesOf_1 {vl : Nat → Nat} {x1 : Int32} {x2 : Int32} {x3 : Int32} {x4 : Int32} {r0 : Nat} {t0 : Int32} {t1 : Int32} {z : ow_MS} {Q : (Int32 × ow_MS) → Prop} (H : Tt (fun K k => cm_X10_changesOf_1 vl K (c_X10_changesOf vl K k) x1 x2 x3 x4 r0 t0 t1 z) Q) : Tt (fun K k => c_X10_changesOf vl K k 1 x1 x2 x3 x4 r0 t0 t1 z) Q := w_un (fun _ _ => rfl) H
theorem u_X10_changesOf_2 {vl : Nat → Nat} {x1 : Int32} {x2 : Int32} {x3 : Int32} {x4 : Int32} {r0 : Nat} {t0 : Int32} {t1 : Int32} {z : ow_MS} {Q : (Int32 × ow_MS) → Prop} (H : Tt (fun K k => cm_X10_changesOf_2 vl K (c_X10_changesOf vl K k) x1 x2 x3 x4 r0 t0 t1 z) Q) : Tt (fun K k => c_X10_changesOf vl K k 2 x1 x2 x3 x4 r0 t0 t1 z) Q := w_un (fun _ _ => rfl) H
theorem u_X10_changesOf_3 {vl : Nat → Nat} {x1 : Int32} {x2 : Int32} {x3 : Int32} {x4 : Int32} {r0 : Nat} {t0 : Int32} {t1 : Int32} {z : ow_MS} {Q : (Int32 × ow_MS) → Prop} (H : Tt (fun K k => cm_X10_changesOf_3 vl K (c_X10_changesOf vl K k) x1 x2 x3 x4 r0 t0 t1 z) Q) : Tt (fun K k => c_X10_changesOf vl K k 3 x1 x2 x3 x4 r0 t0 t1 z) Q := w_un (fun _ _ => rfl) H
theorem e_X10_changesOf {vl : Nat → Nat} {r0 : Nat} {x1 : Int32} {z : ow_MS} {Q : (Int32 × ow_MS) → Prop} (H : Tt (fun K k => c_X10_changesOf vl K k 0 x1 0 0 0 r0 0 0 z) Q) : Te (fun K => ce_X10_changesOf vl K r0 x1 z) Q := w_te H
theorem u_X10_changesOf_0 {vl : Nat → Nat} {x1 : Int32} {x2 : Int32} {x3 : Int32} {x4 : Int32} {r0 : Nat} {t0 : Int32} {t1 : Int32} {z : ow_MS} {Q : (Int32 × ow_MS) → Prop} (H : Tt (fun K k => cm_X10_changesOf_0 vl K (c_X10_changesOf vl K k) x1 x2 x3 x4 r0 t0 t1 z) Q) : Tt (fun K k => c_X10_changesOf vl K k 0 x1 x2 x3 x4 r0 t0 t1 z) Q := w_un (fun _ _ => rfl) H
theorem sh_n : ∀ k : Fin 5, (1 : Int32) <<< (((2 * nI k.val) : Int32) &&& 31) = nI (4 ^ k.val) := by decide +kernel
def lsP (h g : Nat) : Prop := h + 8 ≤ g ∧ g ≤ h + 11
theorem u_X10_listSimples_1 {vl : Nat → Nat} {x1 : Int32} {x2 : Int32} {x3 : Int32} {x4 : Int32} {x5 : Int32} {r0 : Nat} {t0 : Int32} {z : ow_MS} {Q : ow_MS → Prop} (H : Tt (fun K k => cm_X10_listSimples_1 vl K (c_X10_listSimples vl K k) x1 x2 x3 x4 x5 r0 t0 z) Q) : Tt (fun K k => c_X10_listSimples vl K k 1 x1 x2 x3 x4 x5 r0 t0 z) Q := w_un (fun _ _ => rfl) H
theorem u_X10_listSimples_2 {vl : Nat → Nat} {x1 : Int32} {x2 : Int32} {x3 : Int32} {x4 : Int32} {x5 : Int32} {r0 : Nat} {t0 : Int32} {z : ow_MS} {Q : ow_MS → Prop} (H : Tt (fun K k => cm_X10_listSimples_2 vl K (c_X10_listSimples vl K k) x1 x2 x3 x4 x5 r0 t0 z) Q) : Tt (fun K k => c_X10_listSimples vl K k 2 x1 x2 x3 x4 x5 r0 t0 z) Q := w_un (fun _ _ => rfl) H
theorem u_X10_listSimples_6 {vl : Nat → Nat} {x1 : Int32} {x2 : Int32} {x3 : Int32} {x4 : Int32} {x5 : Int32} {r0 : Nat} {t0 : Int32} {z : ow_MS} {Q : ow_MS → Prop} (H : Tt (fun K k => cm_X10_listSimples_6 vl K (c_X10_listSimples vl K k) x1 x2 x3 x4 x5 r0 t0 z) Q) : Tt (fun K k => c_X10_listSimples vl K k 6 x1 x2 x3 x4 x5 r0 t0 z) Q := w_un (fun _ _ => rfl) H
theorem u_X10_listSimples_5 {vl : Nat → Nat} {x1 : Int32} {x2 : Int32} {x3 : Int32} {x4 : Int32} {x5 : Int32} {r0 : Nat} {t0 : Int32} {z : ow_MS} {Q : ow_MS → Prop} (H : Tt (fun K k => cm_X10_listSimples_5 vl K (c_X10_listSimples vl K k) x1 x2 x3 x4 x5 r0 t0 z) Q) : Tt (fun K k => c_X10_listSimples vl K k 5 x1 x2 x3 x4 x5 r0 t0 z) Q := w_un (fun _ _ => rfl) H
theorem u_X10_listSimples_4 {vl : Nat → Nat} {x1 : Int32} {x2 : Int32} {x3 : Int32} {x4 : Int32} {x5 : Int32} {r0 : Nat} {t0 : Int32} {z : ow_MS} {Q : ow_MS → Prop} (H : Tt (fun K k => cm_X10_listSimples_4 vl K (c_X10_listSimples vl K k) x1 x2 x3 x4 x5 r0 t0 z) Q) : Tt (fun K k => c_X10_listSimples vl K k 4 x1 x2 x3 x4 x5 r0 t0 z) Q := w_un (fun _ _ => rfl) H
theorem u_X10_listSimples_3 {vl : Nat → Nat} {x1 : Int32} {x2 : Int32} {x3 : Int32} {x4 : Int32} {x5 : Int32} {r0 : Nat} {t0 : Int32} {z : ow_MS} {Q : ow_MS → Prop} (H : Tt (fun K k => cm_X10_listSimples_3 vl K (c_X10_listSimples vl K k) x1 x2 x3 x4 x5 r0 t0 z) Q) : Tt (fun K k => c_X10_listSimples vl K k 3 x1 x2 x3 x4 x5 r0 t0 z) Q := w_un (fun _ _ => rfl) H
theorem e_X10_listSimples {vl : Nat → Nat} {r0 : Nat} {z : ow_MS} {Q : ow_MS → Prop} (H : Tt (fun K k => c_X10_listSimples vl K k 0 0 0 0 0 0 r0 0 z) Q) : Te (fun K => ce_X10_listSimples vl K r0 z) Q := w_te H
theorem u_X10_listSimples_0 {vl : Nat → Nat} {x1 : Int32} {x2 : Int32} {x3 : Int32} {x4 : Int32} {x5 : Int32} {r0 : Nat} {t0 : Int32} {z : ow_MS} {Q : ow_MS → Prop} (H : Tt (fun K k => cm_X10_listSimples_0 vl K (c_X10_listSimples vl K k) x1 x2 x3 x4 x5 r0 t0 z) Q) : Tt (fun K k => c_X10_listSimples vl K k 0 x1 x2 x3 x4 x5 r0 t0 z) Q := w_un (fun _ _ => rfl) H
end CS3
end
section
/-! 99zzzzzzo.cfind -/
/-! the class: Summit.find; summit, conjugate have an answer -/
section CFI
variable {vl : Nat → Nat} {y : ow_MS} {h g n l m : Nat}
theorem e_X10_begin {vl : Nat → Nat} {r0 : Nat} {z : ow_MS} {Q : ow_MS → Prop} (H : Tt (fun K _ => cm_X10_begin_0 vl K r0 z) Q) : Te (fun K => ce_X10_begin vl K r0 z) Q := w_te0 H
theorem u_X10_find_1 {vl : Nat → Nat} {x2 : Int32} {r0 : Nat} {r1 : Nat} {z : ow_MS} {Q : (Int32 × ow_MS) → Prop} (H : Tt (fun K k => cm_X10_find_1 vl K (c_X10_find vl K k) x2 r0 r1 z) Q) : Tt (fun K k => c_X10_find vl K k 1 x2 r0 r1 z) Q := w_un (fun _ _ => rfl) H
theorem e_X10_find {vl : Nat → Nat} {r0 : Nat} {r1 : Nat} {z : ow_MS} {Q : (Int32 × ow_MS) → Prop} (H : Tt (fun K k => c_X10_find vl K k 0 0 r0 r1 z) Q) : Te (fun K => ce_X10_find vl K r0 r1 z) Q := w_te H
theorem u_X10_find_0 {vl : Nat → Nat} {x2 : Int32} {r0 : Nat} {r1 : Nat} {z : ow_MS} {Q : (Int32 × ow_MS) → Prop} (H : Tt (fun K k => cm_X10_find_0 vl K (c_X10_find vl K k) x2 r0 r1 z) Q) : Tt (fun K k => c_X10_find vl K k 0 x2 r0 r1 z) Q := w_un (fun _ _ => rfl) H
theorem u_X10_sameAs_1 {vl : Nat → Nat} {x2 : Int32} {r0 : Nat} {r1 : Nat} {z : ow_MS} {Q : (Int32 × ow_MS) → Prop} (H : Tt (fun K k => cm_X10_sameAs_1 vl K (c_X10_sameAs vl K k) x2 r0 r1 z) Q) : Tt (fun K k => c_X10_sameAs vl K k 1 x2 r0 r1 z) Q := w_un (fun _ _ => rfl) H
theorem e_X10_sameAs {vl : Nat → Nat} {r0 : Nat} {r1 : Nat} {z : ow_MS} {Q : (Int32 × ow_MS) → Prop} (H : Tt (fun K k => c_X10_sameAs vl K k 0 0 r0 r1 z) Q) : Te (fun K => ce_X10_sameAs vl K r0 r1 z) Q := w_te H
theorem u_X10_sameAs_0 {vl : Nat → Nat} {x2 : Int32} {r0 : Nat} {r1 : Nat} {z : ow_MS} {Q : (Int32 × ow_MS) → Prop} (H : Tt (fun K k => cm_X10_sameAs_0 vl K (c_X10_sameAs vl K k) x2 r0 r1 z) Q) : Tt (fun K k => c_X10_sameAs vl K k 0 x2 r0 r1 z) Q := w_un (fun _ _ => rfl) H
end CFI
def smP (g : Nat) : Prop := 46001 ≤ g ∧ g ≤ 51006
section CSM
variable {vl : Nat → Nat} {y : ow_MS} {x x' : Int32}
theorem e_X11_needFewStrands {vl : Nat → Nat} {r0 : Nat} {x1 : Int32} {z : ow_MS} {Q : (Nat × ow_MS) → Prop} (H : Tt (fun K _ => cm_X11_needFewStrands_0 vl K x1 r0 z) Q) : Te (fun K => ce_X11_needFewStrands vl K r0 x1 z) Q := w_te0 H
theorem so48 : sO 48000 := Or.inl rfl
theorem so50 : sO 50000 := Or.inr rfl
theorem e_X11_summit {vl : Nat → Nat} {r0 : Nat} {x1 : Int32} {z : ow_MS} {Q : (Nat × Int32 × ow_MS) → Prop} (H : Tt (fun K _ => cm_X11_summit_0 vl K x1 r0 z) Q) : Te (fun K => ce_X11_summit vl K r0 x1 z) Q := w_te0 H
theorem e_X11_conjugate {vl : Nat → Nat} {r0 : Nat} {x1 : Int32} {x2 : Int32} {z : ow_MS} {Q : (Nat × Int32 × ow_MS) → Prop} (H : Tt (fun K _ => cm_X11_conjugate_0 vl K x1 x2 r0 z) Q) : Te (fun K => ce_X11_conjugate vl K r0 x1 x2 z) Q := w_te0 H
end CSM
end
section
/-! 99zzzzzzp.cskn -/
/-! the class: the skein polynomial has an answer -/
section CSK
variable {vl : Nat → Nat} {y : ow_MS}
theorem w_crX {O : Type} {Q : O → Prop} {n j : Nat} {i : Int32} {E : Nat → Nat → Nat → Option O} (hi : i = nI j) (hj : j < n) (H : Tt (E j) Q) (hn : n < 2 ^ 31 := by omega) : Tt (fun K k => crX n i (fun v => E v K k)) Q := by
  have e : ∀ K k, crX n i (fun v => E v K k) = E j K k := fun K k => by
    unfold crX
    rw [hi, nI_clamp (by omega), if_neg (fun h9 => h9.elim (nI_pos (by omega)) (by omega))]
  obtain ⟨r, ⟨b, hb⟩, hr⟩ := H
  exact ⟨r, ⟨b, fun K k h1 h2 => (e K k).trans (hb K k h1 h2)⟩, hr⟩
theorem ch_24003 : ((cX vl).2 24003).2.1 = 13 := rfl
theorem ch_24004 : ((cX vl).2 24004).2.1 = 5289 := rfl
theorem ch_choose {j : Nat} (hj : j < 24) : ((cX vl).2 (24000 + 15001 + j)).2.1 = 24 := by
  have key : ∀ j, j < 24 → dynL.contains (24000 + 15001 + j) = false ∧ (cX_f (24000 + 15001 + j)).2.1 = 24 := by decide +kernel
  obtain ⟨k1, k2⟩ := key j hj
  show (if dynL.contains (24000 + 15001 + j) = true then (0, vl (24000 + 15001 + j), []) else cX_f (24000 + 15001 + j)).2.1 = 24
  rw [if_neg (by rw [k1]; decide)]
  exact k2
/-- the place of a term, or none -/
def tIx (a b : Int64) (r : Int32) : Prop := (r = -1 ∨ ∃ k, k < 5289 ∧ r = nI k)
theorem ti_c {x w : Int64} (h1 : ¬ lg_cmp x 0 < 0) (h2 : ¬ 0 ≤ lg_cmp x 129) (h3 : ¬ lg_cmp w 0 < 0) (h4 : lg_cmp w 41 < 0) : ∃ i, i < 5289 ∧ (x * 41 + w).toInt32 = nI i := by
  obtain ⟨a, ha, rfl⟩ := pk_lOf (fun h => h1 ((lg_cmp_lt _ _).mpr h))
  obtain ⟨b, hb, rfl⟩ := pk_lOf (fun h => h3 ((lg_cmp_lt _ _).mpr h))
  have h6 : a < 129 := by
    rcases Nat.lt_or_ge a 129 with q | q
    · exact q
    · exact absurd ((lg_cmp_ge _ _).mpr (Int64.not_lt.mp (fun h => by have := (pk_lLT ha (by decide : 129 < 2 ^ 63)).mp h; omega))) h2
  have h7 : b < 41 := (pk_lLT hb (by decide : 41 < 2 ^ 63)).mp ((lg_cmp_lt _ _).mp h4)
  refine ⟨a * 41 + b, by omega, ?_⟩
  have key : ∀ (a : Fin 129) (b : Fin 41), (lN a.val * 41 + lN b.val).toInt32 = nI (a.val * 41 + b.val) := by decide +kernel
  exact key ⟨a, by omega⟩ ⟨b, h7⟩
theorem u_X8_twoIndex_1 {vl : Nat → Nat} {w0 : Int64} {w2 : Int64} {w4 : Int64} {w6 : Int64} {z : ow_MS} {Q : (Int32 × ow_MS) → Prop} (H : Tt (fun K k => cm_X8_twoIndex_1 vl K (c_X8_twoIndex vl K k) w0 w2 w4 w6 z) Q) : Tt (fun K k => c_X8_twoIndex vl K k 1 w0 w2 w4 w6 z) Q := w_un (fun _ _ => rfl) H
theorem e_X8_twoIndex {vl : Nat → Nat} {w0 : Int64} {w2 : Int64} {z : ow_MS} {Q : (Int32 × ow_MS) → Prop} (H : Tt (fun K k => c_X8_twoIndex vl K k 0 w0 w2 0 0 z) Q) : Te (fun K => ce_X8_twoIndex vl K w0 w2 z) Q := w_te H
theorem u_X8_twoIndex_0 {vl : Nat → Nat} {w0 : Int64} {w2 : Int64} {w4 : Int64} {w6 : Int64} {z : ow_MS} {Q : (Int32 × ow_MS) → Prop} (H : Tt (fun K k => cm_X8_twoIndex_0 vl K (c_X8_twoIndex vl K k) w0 w2 w4 w6 z) Q) : Tt (fun K k => c_X8_twoIndex vl K k 0 w0 w2 w4 w6 z) Q := w_un (fun _ _ => rfl) H
theorem tc_twoIndex {a b : Int64} : Te (fun K => ce_X8_twoIndex vl K a b y) (fun r => tIx a b r.1 ∧ r.2 = y) := by
  have c1 : ∀ a b c d : Int64, Tt (fun K t => c_X8_twoIndex vl K t 1 a b c d y) (fun r => tIx a b r.1 ∧ r.2 = y) := by
    intro a b c d
    refine u_X8_twoIndex_1 ?_; unfold cm_X8_twoIndex_1
    exact w_some ⟨Or.inl rfl, rfl⟩
  refine e_X8_twoIndex ?_
  refine u_X8_twoIndex_0 ?_; unfold cm_X8_twoIndex_0
  refine w_if (fun _ => c1 _ _ _ _) (fun a1 => w_if (fun _ => c1 _ _ _ _) (fun a2 => w_if (fun _ => c1 _ _ _ _) (fun a3 => w_if (fun a4 => ?_) (fun _ => c1 _ _ _ _))))
  obtain ⟨k, hk, e⟩ := ti_c a1 a2 a3 a4
  exact w_some ⟨Or.inr ⟨k, hk, e⟩, rfl⟩
def acP (g : Nat) : Prop := g = 24003 ∨ g = 24004
theorem u_X8_addCircles_2 {vl : Nat → Nat} {x1 : Int32} {x2 : Int32} {x3 : Int32} {x4 : Int32} {x5 : Int32} {x6 : Int32} {x7 : Int32} {r0 : Nat} {t0 : Int32} {t1 : Int32} {t2 : Int32} {t3 : Int32} {z : ow_MS} {Q : ow_MS → Prop} (H : Tt (fun K k => cm_X8_addCircles_2 vl K (c_X8_addCircles vl K k) x1 x2 x3 x4 x5 x6 x7 r0 t0 t1 t2 t3 z) Q) : Tt (fun K k => c_X8_addCircles vl K k 2 x1 x2 x3 x4 x5 x6 x7 r0 t0 t1 t2 t3 z) Q := w_un (fun _ _ => rfl) H
theorem u_X8_addCircles_4 {vl : Nat → Nat} {x1 : Int32} {x2 : Int32} {x3 : Int32} {x4 : Int32} {x5 : Int32} {x6 : Int32} {x7 : Int32} {r0 : Nat} {t0 : Int32} {t1 : Int32} {t2 : Int32} {t3 : Int32} {z : ow_MS} {Q : ow_MS → Prop} (H : Tt (fun K k => cm_X8_addCircles_4 vl K (c_X8_addCircles vl K k) x1 x2 x3 x4 x5 x6 x7 r0 t0 t1 t2 t3 z) Q) : Tt (fun K k => c_X8_addCircles vl K k 4 x1 x2 x3 x4 x5 x6 x7 r0 t0 t1 t2 t3 z) Q := w_un (fun _ _ => rfl) H
theorem u_X8_addCircles_3 {vl : Nat → Nat} {x1 : Int32} {x2 : Int32} {x3 : Int32} {x4 : Int32} {x5 : Int32} {x6 : Int32} {x7 : Int32} {r0 : Nat} {t0 : Int32} {t1 : Int32} {t2 : Int32} {t3 : Int32} {z : ow_MS} {Q : ow_MS → Prop} (H : Tt (fun K k => cm_X8_addCircles_3 vl K (c_X8_addCircles vl K k) x1 x2 x3 x4 x5 x6 x7 r0 t0 t1 t2 t3 z) Q) : Tt (fun K k => c_X8_addCircles vl K k 3 x1 x2 x3 x4 x5 x6 x7 r0 t0 t1 t2 t3 z) Q := w_un (fun _ _ => rfl) H
theorem u_X8_addCircles_1 {vl : Nat → Nat} {x1 : Int32} {x2 : Int32} {x3 : Int32} {x4 : Int32} {x5 : Int32} {x6 : Int32} {x7 : Int32} {r0 : Nat} {t0 : Int32} {t1 : Int32} {t2 : Int32} {t3 : Int32} {z : ow_MS} {Q : ow_MS → Prop} (H : Tt (fun K k => cm_X8_addCircles_1 vl K (c_X8_addCircles vl K k) x1 x2 x3 x4 x5 x6 x7 r0 t0 t1 t2 t3 z) Q) : Tt (fun K k => c_X8_addCircles vl K k 1 x1 x2 x3 x4 x5 x6 x7 r0 t0 t1 t2 t3 z) Q := w_un (fun _ _ => rfl) H
theorem e_X8_addCircles {vl : Nat → Nat} {r0 : Nat} {x1 : Int32} {x2 : Int32} {x3 : Int32} {x4 : Int32} {z : ow_MS} {Q : ow_MS → Prop} (H : Tt (fun K k => c_X8_addCircles vl K k 0 x1 x2 x3 x4 0 0 0 r0 0 0 0 0 z) Q) : Te (fun K => ce_X8_addCircles vl K r0 x1 x2 x3 x4 z) Q := w_te H
theorem u_X8_addCircles_0 {vl : Nat → Nat} {x1 : Int32} {x2 : Int32} {x3 : Int32} {x4 : Int32} {x5 : Int32} {x6 : Int32} {x7 : Int32} {r0 : Nat} {t0 : Int32} {t1 : Int32} {t2 : Int32} {t3 : Int32} {z : ow_MS} {Q : ow_MS → Prop} (H : Tt (fun K k => cm_X8_addCircles_0 vl K (c_X8_addCircles vl K k) x1 x2 x3 x4 x5 x6 x7 r0 t0 t1 t2 t3 z) Q) : Tt (fun K k => c_X8_addCircles vl K k 0 x1 x2 x3 x4 x5 x6 x7 r0 t0 t1 t2 t3 z) Q := w_un (fun _ _ => rfl) H
theorem tc_addCircles {q z : Nat} {f xp : Int32} (hq : q < 100) (hz : z ≤ 12) : Te (fun K => ce_X8_addCircles vl K 24000 (nI q) f xp (nI z) y) (fun y1 => fr acP y y1) := by
  let Q : ow_MS → Prop := fun y1 => fr acP y y1
  have c2 : ∀ (d j : Nat) (y1 : ow_MS), j + d = q → fr acP y y1 → Tt (fun K t => c_X8_addCircles vl K t 2 (nI q) f xp (nI z) (nI q - 1) (nI j) 0 24000 0 0 0 0 y1) Q := by
    intro d
    induction d with
    | zero =>
      intro j y1 hj hf
      have e : nI q - 1 < nI j := by
        rw [show j = q by omega]
        rcases Nat.eq_zero_or_pos q with h0 | h0
        · rw [h0]
          decide
        · rw [show nI q - 1 = nI (q - 1) from pk_sub (b := 1) h0]
          exact nI_lt (by omega) (by omega)
      refine u_X8_addCircles_2 ?_; unfold cm_X8_addCircles_2
      exact w_ifT e (w_some hf)
    | succ d ih =>
      intro j y1 hj hf
      have e5 : nI q - 1 = nI (q - 1) := pk_sub (b := 1) (by omega)
      have c4 : ∀ (x7 : Int32) (y2 : ow_MS), fr acP y y2 → Tt (fun K t => c_X8_addCircles vl K t 4 (nI q) f xp (nI z) (nI q - 1) (nI j) x7 24000 0 0 0 0 y2) Q := by
        intro x7 y2 hf2
        refine u_X8_addCircles_4 ?_; unfold cm_X8_addCircles_4
        rw [nI_1]
        exact ih (j + 1) y2 (by omega) hf2
      refine u_X8_addCircles_2 ?_; unfold cm_X8_addCircles_2
      rw [e5]
      rw [e5] at c4
      refine w_ltF (by omega) (by omega) (w_le (a := 24) (by omega) (by omega) (fun _ => w_some hf) (fun h24 => w_cs1 tc_twoIndex ?_))
      rintro v y2 ⟨h2, e2⟩
      dsimp only at h2 e2
      rw [e2]
      refine w_if (fun _ => c4 _ _ hf) (fun hv => ?_)
      rcases h2 with h2 | ⟨k, hk, rfl⟩
      · exact absurd h2 hv
      · have c3 : ∀ (t0 t1 t2 : Int32), Tt (fun K t => c_X8_addCircles vl K t 3 (nI q) f xp (nI z) (nI (q - 1)) (nI j) (nI k) 24000 t0 t1 t2 (nI k) y1) Q := by
          intro t0 t1 t2
          refine u_X8_addCircles_3 ?_; unfold cm_X8_addCircles_3
          exact w_ctI ch_24004 rfl hk (c4 _ _ (fr_I2 hf (Or.inr rfl)))
        exact w_crI ch_24004 rfl hk rfl (w_crX rfl (show q - 1 < 24 by omega) (w_crI (ch_choose (show q - 1 < 24 by omega)) rfl (show j < 24 by omega) rfl (w_if (fun _ => c3 _ _ _) (fun _ => c3 _ _ _))))
  have c1 : ∀ (y1 : ow_MS), fr acP y y1 → Tt (fun K t => c_X8_addCircles vl K t 1 (nI q) f xp (nI z) (nI q - 1) 0 0 24000 0 0 0 0 y1) Q := by
    intro y1 hf
    refine u_X8_addCircles_1 ?_; unfold cm_X8_addCircles_1
    exact c2 q 0 y1 (by omega) hf
  refine e_X8_addCircles ?_
  refine u_X8_addCircles_0 ?_; unfold cm_X8_addCircles_0
  rw [show uw_len (cX vl) y (24000 + 3) = 13 from rfl]
  exact w_if (fun _ => w_le (a := 13) (by omega) (by omega) (fun _ => c1 y fr_rf) (fun _ => w_crI ch_24003 rfl (show z < 13 by omega) rfl (w_ctI ch_24003 rfl (show z < 13 by omega) (c1 _ (fr_I (Or.inl rfl)))))) (fun _ => c1 y fr_rf)
end CSK
end
section
/-! 99zzzzzzq.cunf -/
/-! the class: unfold has an answer -/
abbrev lv (L : Nat) : Nat := 24000 + 2000 + 1000 * L
theorem lv_nH {L : Nat} (h : L ≤ 12) : nH (lv L) := by
  have key : ∀ L, L < 13 → lv L ∈ nHL := by decide
  exact key L (by omega)
theorem uf_bits : ∀ v : Fin 24, (nI v.val >>> ((1 : Int32) &&& 31)) = nI (v.val / 2) ∧ nI v.val ^^^ 1 = nI (mt v.val) := by decide +kernel
def nvL (L : Nat) (T : ow_NT) : Prop := vn T.1 T.2.2.1 ∧ T.1 ≤ 12 ∧ ow_b24 T.2.2.1 ∧ T.2.1 ≤ 6 + 2 * L
theorem nvL_flip {L x : Nat} {T : ow_NT} {G : Nat → Int32} (h : nvL L T) (hx : x < T.1) : nvL L (T.1, T.2.1, np_swap T.2.2.1 (2 * x) (2 * x + 1), G) := by
  obtain ⟨h1, h2, h3, h4⟩ := h
  exact ⟨vD_vn.mp (vD_swap (vD_vn.mpr h1) (by omega) (by omega)), h2, np_swap_b24 h3 (by omega) (by omega), h4⟩
theorem nvL_sm {L x : Nat} {Q R : ow_NT} (h : nvL L R) (hQ : ow_b24 Q.2.2.1) (hx : x < R.1) : nvL (L + 1) (nt_rm (ntS (nt_copy Q R) (np_exchange (nt_copy Q R).2.2.1 (2 * x) (2 * x + 1))) x) := by
  obtain ⟨h1, h2, h3, h4⟩ := h
  have v1 := vn_copy (Q := Q) h1
  have b1 := nt_copy_b24 hQ h3
  have v2 := vn_exchange v1 (show 2 * x < 2 * R.1 by omega) (show 2 * x + 1 < 2 * R.1 by omega)
  have b2 := b24_exchange b1 (show 2 * x < 24 by omega) (show 2 * x + 1 < 24 by omega)
  generalize hS : np_exchange (nt_copy Q R).2.2.1 (2 * x) (2 * x + 1) = S at *
  obtain ⟨c1, hc1⟩ : ∃ c1, R.1 = c1 + 1 := ⟨R.1 - 1, by omega⟩
  refine ⟨?_, ?_, np_rmS_b24 b2 (by omega), ?_⟩
  · show vn (R.1 - 1) (np_rmS S x (R.1 - 1))
    rw [hc1] at v2 ⊢
    exact vn_rm v2 (by omega)
  · show R.1 - 1 ≤ 12
    omega
  · show np_rmN S x R.2.1 ≤ 6 + 2 * (L + 1)
    unfold np_rmN np_cutN
    split <;> split <;> omega
def lvS (z : ow_MS) : Prop := ∀ j, j ≤ 12 → ∃ T, cAt z (lv j) T ∧ ow_b24 T.2.2.1
def unP (L g : Nat) : Prop := g = 24003 ∨ g = 24004 ∨ 26001 + 1000 * L ≤ g ∧ g ≤ 38011
theorem lvS_fr {P : Nat → Prop} {y z : ow_MS} {L : Nat} (hf : fr P y z) (hP : ∀ g, P g → lv L + 1 ≤ g ∧ g ≤ lv L + 11 ∨ g < 26000) (hT : ∃ T, cAt z (lv L) T ∧ ow_b24 T.2.2.1) (h : lvS y) : lvS z := by
  intro j hj
  by_cases e : j = L
  · rw [e]
    exact hT
  · obtain ⟨T, t1, t2⟩ := h j hj
    refine ⟨T, cAt_fr hf (fun g hg h9 => ?_) t1, t2⟩
    have := hP g h9
    unfold cP at hg
    unfold lv at hg this
    omega
theorem cP_in {h g : Nat} (hg : cP h g) : h + 1 ≤ g ∧ g ≤ h + 11 := by
  unfold cP at hg
  omega
section CUN
variable {vl : Nat → Nat} {y : ow_MS} {f xp : Int32}
theorem w_cdU {dd r0 : Nat} {x1 x2 x3 x4 : Int32} {z : ow_MS} {Q : ow_MS → Prop} (H : Tt (fun K k => c_X8_unfold vl K (cd0_X8_unfold vl K dd) k 0 x1 x2 x3 x4 0 0 0 0 0 0 0 0 0 0 r0 0 z) Q) : Te (fun K => cd0_X8_unfold vl K (dd + 1) r0 x1 x2 x3 x4 z) Q := w_te H
theorem u_X8_unfold_1 {dd : Nat} {vl : Nat → Nat} {x1 : Int32} {x2 : Int32} {x3 : Int32} {x4 : Int32} {x6 : Int32} {x7 : Int32} {x8 : Int32} {x9 : Int32} {x10 : Int32} {x11 : Int32} {x12 : Int32} {x13 : Int32} {x14 : Int32} {x15 : Int32} {r0 : Nat} {r5 : Nat} {z : ow_MS} {Q : ow_MS → Prop} (H : Tt (fun K k => cm_X8_unfold_1 vl K (cd0_X8_unfold vl K dd) (c_X8_unfold vl K (cd0_X8_unfold vl K dd) k) x1 x2 x3 x4 x6 x7 x8 x9 x10 x11 x12 x13 x14 x15 r0 r5 z) Q) : Tt (fun K k => c_X8_unfold vl K (cd0_X8_unfold vl K dd) k 1 x1 x2 x3 x4 x6 x7 x8 x9 x10 x11 x12 x13 x14 x15 r0 r5 z) Q := w_un (fun _ _ => rfl) H
theorem u_X8_unfold_5 {dd : Nat} {vl : Nat → Nat} {x1 : Int32} {x2 : Int32} {x3 : Int32} {x4 : Int32} {x6 : Int32} {x7 : Int32} {x8 : Int32} {x9 : Int32} {x10 : Int32} {x11 : Int32} {x12 : Int32} {x13 : Int32} {x14 : Int32} {x15 : Int32} {r0 : Nat} {r5 : Nat} {z : ow_MS} {Q : ow_MS → Prop} (H : Tt (fun K k => cm_X8_unfold_5 vl K (cd0_X8_unfold vl K dd) (c_X8_unfold vl K (cd0_X8_unfold vl K dd) k) x1 x2 x3 x4 x6 x7 x8 x9 x10 x11 x12 x13 x14 x15 r0 r5 z) Q) : Tt (fun K k => c_X8_unfold vl K (cd0_X8_unfold vl K dd) k 5 x1 x2 x3 x4 x6 x7 x8 x9 x10 x11 x12 x13 x14 x15 r0 r5 z) Q := w_un (fun _ _ => rfl) H
theorem u_X8_unfold_2 {dd : Nat} {vl : Nat → Nat} {x1 : Int32} {x2 : Int32} {x3 : Int32} {x4 : Int32} {x6 : Int32} {x7 : Int32} {x8 : Int32} {x9 : Int32} {x10 : Int32} {x11 : Int32} {x12 : Int32} {x13 : Int32} {x14 : Int32} {x15 : Int32} {r0 : Nat} {r5 : Nat} {z : ow_MS} {Q : ow_MS → Prop} (H : Tt (fun K k => cm_X8_unfold_2 vl K (cd0_X8_unfold vl K dd) (c_X8_unfold vl K (cd0_X8_unfold vl K dd) k) x1 x2 x3 x4 x6 x7 x8 x9 x10 x11 x12 x13 x14 x15 r0 r5 z) Q) : Tt (fun K k => c_X8_unfold vl K (cd0_X8_unfold vl K dd) k 2 x1 x2 x3 x4 x6 x7 x8 x9 x10 x11 x12 x13 x14 x15 r0 r5 z) Q := w_un (fun _ _ => rfl) H
theorem u_X8_unfold_4 {dd : Nat} {vl : Nat → Nat} {x1 : Int32} {x2 : Int32} {x3 : Int32} {x4 : Int32} {x6 : Int32} {x7 : Int32} {x8 : Int32} {x9 : Int32} {x10 : Int32} {x11 : Int32} {x12 : Int32} {x13 : Int32} {x14 : Int32} {x15 : Int32} {r0 : Nat} {r5 : Nat} {z : ow_MS} {Q : ow_MS → Prop} (H : Tt (fun K k => cm_X8_unfold_4 vl K (cd0_X8_unfold vl K dd) (c_X8_unfold vl K (cd0_X8_unfold vl K dd) k) x1 x2 x3 x4 x6 x7 x8 x9 x10 x11 x12 x13 x14 x15 r0 r5 z) Q) : Tt (fun K k => c_X8_unfold vl K (cd0_X8_unfold vl K dd) k 4 x1 x2 x3 x4 x6 x7 x8 x9 x10 x11 x12 x13 x14 x15 r0 r5 z) Q := w_un (fun _ _ => rfl) H
theorem u_X8_unfold_3 {dd : Nat} {vl : Nat → Nat} {x1 : Int32} {x2 : Int32} {x3 : Int32} {x4 : Int32} {x6 : Int32} {x7 : Int32} {x8 : Int32} {x9 : Int32} {x10 : Int32} {x11 : Int32} {x12 : Int32} {x13 : Int32} {x14 : Int32} {x15 : Int32} {r0 : Nat} {r5 : Nat} {z : ow_MS} {Q : ow_MS → Prop} (H : Tt (fun K k => cm_X8_unfold_3 vl K (cd0_X8_unfold vl K dd) (c_X8_unfold vl K (cd0_X8_unfold vl K dd) k) x1 x2 x3 x4 x6 x7 x8 x9 x10 x11 x12 x13 x14 x15 r0 r5 z) Q) : Tt (fun K k => c_X8_unfold vl K (cd0_X8_unfold vl K dd) k 3 x1 x2 x3 x4 x6 x7 x8 x9 x10 x11 x12 x13 x14 x15 r0 r5 z) Q := w_un (fun _ _ => rfl) H
theorem u_X8_unfold_0 {dd : Nat} {vl : Nat → Nat} {x1 : Int32} {x2 : Int32} {x3 : Int32} {x4 : Int32} {x6 : Int32} {x7 : Int32} {x8 : Int32} {x9 : Int32} {x10 : Int32} {x11 : Int32} {x12 : Int32} {x13 : Int32} {x14 : Int32} {x15 : Int32} {r0 : Nat} {r5 : Nat} {z : ow_MS} {Q : ow_MS → Prop} (H : Tt (fun K k => cm_X8_unfold_0 vl K (cd0_X8_unfold vl K dd) (c_X8_unfold vl K (cd0_X8_unfold vl K dd) k) x1 x2 x3 x4 x6 x7 x8 x9 x10 x11 x12 x13 x14 x15 r0 r5 z) Q) : Tt (fun K k => c_X8_unfold vl K (cd0_X8_unfold vl K dd) k 0 x1 x2 x3 x4 x6 x7 x8 x9 x10 x11 x12 x13 x14 x15 r0 r5 z) Q := w_un (fun _ _ => rfl) H
theorem tc_unfS {L dd : Nat} {T : ow_NT} (hL : L ≤ 12) (hself : L < 12 → ∀ (R : ow_NT) (f xp : Int32) (z : ow_MS), lvS z → cAt z (lv (L + 1)) R → nvL (L + 1) R → Te (fun K => cd0_X8_unfold vl K dd 24000 (nI (L + 1)) f xp (nI (L + 1)) z) (fun z1 => lvS z1 ∧ fr (unP (L + 1)) z z1)) (h0 : lvS y) (hT : cAt y (lv L) T) (hv : nvL L T) : Te (fun K => cd0_X8_unfold vl K (dd + 1) 24000 (nI L) f xp (nI L) y) (fun z1 => lvS z1 ∧ fr (unP L) y z1) := by
  have hh := lv_nH hL
  obtain ⟨c, hc⟩ : ∃ c, T.1 = c := ⟨_, rfl⟩
  have c12 : c ≤ 12 := hc ▸ hv.2.1
  let Q : ow_MS → Prop := fun z1 => lvS z1 ∧ fr (unP L) y z1
  let J : ow_MS → ow_NT → Prop := fun z R => lvS z ∧ cAt z (lv L) R ∧ nvL L R ∧ R.1 = c ∧ fr (unP L) y z
  have c1 : ∀ (d s r : Nat) (pw me go : Int32) (z : ow_MS) (R : ow_NT), s + d = 2 * c → r ≤ s → J z R → Tt (fun K t => c_X8_unfold vl K (cd0_X8_unfold vl K dd) t 1 (nI L) f xp (nI L) (nI (2 * c)) pw me go (nI r) (nI s) 0 0 0 0 24000 (lv L) z) Q := by
    intro d
    induction d with
    | zero =>
      rintro s r pw me go z R hs hr ⟨j1, j2, j3, j4, j5⟩
      have jc := j3.2.2.2
      refine u_X8_unfold_1 ?_; unfold cm_X8_unfold_1
      refine w_leT (by omega) (by omega) (w_rdF j2.2.1 ?_)
      rw [nI_add]
      refine w_cs0 (tc_addCircles (show r + R.2.1 < 100 by omega) hL) ?_
      rintro z1 f1
      exact w_some ⟨fun j hj => by
        obtain ⟨T1, t1, t2⟩ := j1 j hj
        exact ⟨T1, cAt_fr f1 (fun g hg h9 => by unfold cP lv at hg; unfold acP at h9; omega) t1, t2⟩, fr_tr j5 (fr_mono (fun g hg => by unfold acP at hg; unfold unP; omega) f1)⟩
    | succ d ih =>
      rintro s r pw me go z R hs hr hJ
      have c5 : ∀ (r : Nat) (pw me go : Int32) (z : ow_MS) (R : ow_NT), r ≤ s + 1 → J z R → Tt (fun K t => c_X8_unfold vl K (cd0_X8_unfold vl K dd) t 5 (nI L) f xp (nI L) (nI (2 * c)) pw me go (nI r) (nI s) 0 0 0 0 24000 (lv L) z) Q := by
        intro r pw me go z R hr hJ
        refine u_X8_unfold_5 ?_; unfold cm_X8_unfold_5
        rw [nI_1]
        exact ih (s + 1) r pw me go z R (by omega) hr hJ
      have c2 : ∀ (e i v : Nat) (pw me go : Int32) (z : ow_MS) (R : ow_NT), i + e = 2 * c → v < 2 * c → J z R → Tt (fun K t => c_X8_unfold vl K (cd0_X8_unfold vl K dd) t 2 (nI L) f xp (nI L) (nI (2 * c)) pw me go (nI (r + 1)) (nI s) (nI v) (nI i) 0 0 24000 (lv L) z) Q := by
        intro e
        induction e with
        | zero =>
          rintro i v pw me go z R hi hv2 hJ
          refine u_X8_unfold_2 ?_; unfold cm_X8_unfold_2
          exact w_leT (by omega) (by omega) (c5 (r + 1) pw me go z R (by omega) hJ)
        | succ e ihe =>
          rintro i v pw me go z R hi hv2 hJ
          obtain ⟨j1, j2, j3, j4, j5⟩ := id hJ
          obtain ⟨b1, b2⟩ := uf_bits ⟨v, by omega⟩
          dsimp only at b1 b2
          have c4 : ∀ (v' : Nat) (pw x14 : Int32) (z : ow_MS) (R : ow_NT), v' < 2 * c → J z R → Tt (fun K t => c_X8_unfold vl K (cd0_X8_unfold vl K dd) t 4 (nI L) f xp (nI L) (nI (2 * c)) pw me go (nI (r + 1)) (nI s) (nI v') (nI i) x14 0 24000 (lv L) z) Q := by
            rintro v' pw x14 z R hv' hJ
            have hn := (hJ.2.2.1.1 v' (by rw [hJ.2.2.2.1]; exact hv')).1
            rw [hJ.2.2.2.1] at hn
            refine u_X8_unfold_4 ?_; unfold cm_X8_unfold_4
            rw [nI_1]
            exact w_crI (nH_1 hh) rfl (show v' < 24 by omega) (hJ.2.1.2.2.1 v') (ihe (i + 1) _ pw _ _ z R (by omega) hn hJ)
          have c3 : ∀ (x15 : Int32) (z : ow_MS) (R : ow_NT), J z R → Tt (fun K t => c_X8_unfold vl K (cd0_X8_unfold vl K dd) t 3 (nI L) f xp (nI L) (nI (2 * c)) pw me go (nI (r + 1)) (nI s) (nI v) (nI i) (nI (v / 2)) x15 24000 (lv L) z) Q := by
            rintro x15 z R ⟨j1, j2, j3, j4, j5⟩
            refine u_X8_unfold_3 ?_; unfold cm_X8_unfold_3
            rw [b2]
            refine w_cs0 (tc_flipCrossing hh j2 j3.2.2.1 (show v / 2 < 12 by omega)) ?_
            rintro z1 ⟨g1, g2⟩
            have n1 := nvL_flip (x := v / 2) (G := su R.2.2.2 (v / 2) (- R.2.2.2 (v / 2))) j3 (by omega)
            exact c4 (mt v) _ _ z1 _ (mt_lt hv2) ⟨lvS_fr (L := L) g2 (fun g hg => Or.inl (cP_in hg)) ⟨_, g1, n1.2.2.1⟩ j1, g1, n1, j4, fr_tr j5 (fr_mono (fun g hg => by unfold cP lv at hg; unfold unP; omega) g2)⟩
          refine u_X8_unfold_2 ?_; unfold cm_X8_unfold_2
          rw [b1, show Int32.ofNat ((cX vl).2 (24000 + 2)).2.1 = nI 13 from rfl]
          refine w_leF (by omega) (by omega) (w_if (fun _ => w_if (fun _ => w_if (fun _ => w_crI (nH_3 hh) rfl (show v / 2 < 12 by omega) rfl ?_) (fun _ => c4 v _ _ z R hv2 hJ)) (fun _ => c4 v _ _ z R hv2 hJ)) (fun _ => c5 (r + 1) pw me go z R (by omega) hJ))
          rw [nI_1 L]
          refine w_le (by omega) (by omega) (fun _ => c3 _ z R hJ) (fun h13 => ?_)
          have hh1 := lv_nH (show L + 1 ≤ 12 by omega)
          obtain ⟨T', t1, t2⟩ := j1 (L + 1) (by omega)
          refine w_crX rfl (show L + 1 < 13 by omega) (w_cs0 (tc_copy hh1 hh (by unfold nDj lv; omega) t1 j2 j3.2.1) ?_)
          rintro z1 ⟨g1, g2⟩
          refine w_crX rfl (show L + 1 < 13 by omega) (w_cs0 (tc_smoothCrossing hh1 g1 (nt_copy_b24 t2 j3.2.2.1) (show v / 2 < R.1 by omega) j3.2.1) ?_)
          rintro z2 ⟨g3, g4⟩
          have n2 := nvL_sm (Q := T') (x := v / 2) j3 t2 (by omega)
          have f2 : fr (cP (lv (L + 1))) z z2 := fr_tr g2 g4
          have l2 : lvS z2 := lvS_fr (L := L + 1) f2 (fun g hg => Or.inl (cP_in hg)) ⟨_, g3, n2.2.2.1⟩ j1
          refine w_cs0 (hself (by omega) _ _ _ z2 l2 g3 n2) ?_
          rintro z3 ⟨l3, f3⟩
          have f23 : fr (unP (L + 1)) z z3 := fr_tr (fr_mono (fun g hg => by unfold cP lv at hg; unfold unP; omega) f2) f3
          exact c3 _ z3 R ⟨l3, cAt_fr f23 (fun g hg h9 => by unfold cP lv at hg; unfold unP at h9; omega) j2, j3, j4, fr_tr j5 (fr_mono (fun g hg => by unfold unP at hg ⊢; omega) f23)⟩
      refine u_X8_unfold_1 ?_; unfold cm_X8_unfold_1
      refine w_leF (by omega) (by omega) (w_if (fun _ => ?_) (fun _ => c5 r pw me go z R (by omega) hJ))
      rw [nI_1]
      exact c2 (2 * c) 0 s pw me go z R (by omega) (by omega) hJ
  refine w_cdU ?_
  refine u_X8_unfold_0 ?_; unfold cm_X8_unfold_0
  refine w_crX rfl (show L < 13 by omega) (w_rdF hT.1 ?_)
  rw [hc, rn_mul2]
  exact c1 (2 * c) 0 0 _ _ _ y T (by omega) (by omega) ⟨h0, hT, hv, hc, fr_rf⟩
theorem tc_unfD : ∀ (d L : Nat), L + d = 12 → ∀ (R : ow_NT) (f xp : Int32) (z : ow_MS), lvS z → cAt z (lv L) R → nvL L R → Te (fun K => cd0_X8_unfold vl K (d + 3) 24000 (nI L) f xp (nI L) z) (fun z1 => lvS z1 ∧ fr (unP L) z z1) := by
  intro d
  induction d with
  | zero =>
    intro L hL R f xp z h0 hT hv
    exact tc_unfS (dd := 2) (by omega) (fun h => absurd h (by omega)) h0 hT hv
  | succ d ih =>
    intro L hL R f xp z h0 hT hv
    exact tc_unfS (dd := d + 3) (by omega) (fun _ => ih (L + 1) (by omega)) h0 hT hv
theorem tc_unfold {R : ow_NT} (h0 : lvS y) (hT : cAt y (lv 0) R) (hv : nvL 0 R) : Te (fun K => ce_X8_unfold vl K 24000 0 f xp 0 y) (fun z1 => lvS z1 ∧ fr (unP 0) y z1) := tc_unfD 12 0 rfl R f xp y h0 hT hv
end CUN
end
