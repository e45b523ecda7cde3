/-! the moves: oneComes, twoAt, twoCome, twoGo -/
theorem okF_app {A : rn_L} {B : List (Nat × Nat)} {c d : Nat} (hA : okF A.flatten c) (hB : okB B c d) : okF (A ++ [B]).flatten (c + d) := by
  have h1 : okB A.flatten 0 c := ⟨hA.1, fun p => by rw [hA.2]; omega⟩
  have h3 := okB_app h1 (by rw [Nat.zero_add]; exact hB)
  rw [List.flatten_append]
  have e : [B].flatten = B := by simp
  rw [e]
  exact ⟨h3.1, fun p => by rw [h3.2]; omega⟩
theorem app_l {A : rn_L} {B : List (Nat × Nat)} {i : Nat} (hi : i < A.flatten.length) : vAt (A ++ [B]) i = vAt A i := by
  refine vAt_eq ?_
  rw [List.flatten_append, List.getElem?_append_left hi]
  exact vAt_of hi
theorem app_r {A : rn_L} {B : List (Nat × Nat)} {i : Nat} {p : Nat × Nat} (hi : B[i]? = some p) : vAt (A ++ [B]) (A.flatten.length + i) = p := by
  refine vAt_eq ?_
  rw [List.flatten_append, List.getElem?_append_right (by omega), Nat.add_sub_cancel_left]
  have e : [B].flatten = B := by simp
  rw [e]
  exact hi
theorem app_len {A : rn_L} {B : List (Nat × Nat)} : (A ++ [B]).flatten.length = A.flatten.length + B.length := by
  rw [List.flatten_append, List.length_append]
  simp
section MV2
variable {X : (Nat → Nat → Int32) → Prop} {bb m L n : Nat} {z : ow_MS} {A : rn_L} {sg : Nat → Bool}
/-- the signs of a net with crossings more -/
theorem sg_app {z z1 : ow_MS} {B : List (Nat × Nat)} {c d : Nat} (hO : oNet z n A sg) (hok : okF A.flatten c) (hB : okB B c d) (hs : ∀ x, x < c → z1.2.1 3006 x = z.2.1 (n + 6) x) (hs2 : ∀ x, c ≤ x → x < c + d → s1 (z1.2.1 3006 x)) : ∀ j, j < (A ++ [B]).flatten.length → s1 (z1.2.1 (3000 + 6) (crs (A ++ [B]) j)) := by
  intro j hj
  show s1 (z1.2.1 3006 (crs (A ++ [B]) j))
  rw [app_len] at hj
  by_cases hjA : j < A.flatten.length
  · have e : crs (A ++ [B]) j = crs A j := by unfold crs; rw [app_l hjA]
    obtain ⟨x1, x2, x3⟩ := hO.cx hjA
    have hca : crs A j < c := ((hok.2 _).mp (List.mem_of_getElem? (vAt_of hjA))).1
    rw [e, hs _ hca]
    exact s1_if x3
  · obtain ⟨i, rfl⟩ : ∃ i, j = A.flatten.length + i := ⟨j - A.flatten.length, by omega⟩
    have hi := List.getElem?_eq_getElem (show i < B.length by omega)
    have hm := (hB.2 _).mp (List.mem_of_getElem? hi)
    have e : crs (A ++ [B]) (A.flatten.length + i) = (B[i]'(by omega)).1 := by unfold crs; rw [app_r hi]
    rw [e]
    exact hs2 _ hm.1 hm.2.1
theorem neg_x3 : ∀ k : Nat, k < 100 → (nI k = (-1 : Int32) ↔ k = 1000) := fun k hk => ⟨fun e => absurd e (rn_neg1 (by omega)), fun e => by omega⟩
theorem u_X13_oneComes_1 {x2 : Int32} {x3 : Int32} {x4 : Int32} {r1 : Nat} {t0 : Int32} {t1 : Int32} {z : ow_MS} {Q : ow_MS → Prop} (H : Tt (fun K k => qm_X13_oneComes_1 K (q_X13_oneComes K k) x2 x3 x4 r1 t0 t1 z) Q) : Tt (fun K k => q_X13_oneComes K k 1 x2 x3 x4 r1 t0 t1 z) Q := w_un (fun _ _ => rfl) H
theorem u_X13_oneComes_4 {x2 : Int32} {x3 : Int32} {x4 : Int32} {r1 : Nat} {t0 : Int32} {t1 : Int32} {z : ow_MS} {Q : ow_MS → Prop} (H : Tt (fun K k => qm_X13_oneComes_4 K (q_X13_oneComes K k) x2 x3 x4 r1 t0 t1 z) Q) : Tt (fun K k => q_X13_oneComes K k 4 x2 x3 x4 r1 t0 t1 z) Q := w_un (fun _ _ => rfl) H
theorem u_X13_oneComes_2 {x2 : Int32} {x3 : Int32} {x4 : Int32} {r1 : Nat} {t0 : Int32} {t1 : Int32} {z : ow_MS} {Q : ow_MS → Prop} (H : Tt (fun K k => qm_X13_oneComes_2 K (q_X13_oneComes K k) x2 x3 x4 r1 t0 t1 z) Q) : Tt (fun K k => q_X13_oneComes K k 2 x2 x3 x4 r1 t0 t1 z) Q := w_un (fun _ _ => rfl) H
theorem u_X13_oneComes_3 {x2 : Int32} {x3 : Int32} {x4 : Int32} {r1 : Nat} {t0 : Int32} {t1 : Int32} {z : ow_MS} {Q : ow_MS → Prop} (H : Tt (fun K k => qm_X13_oneComes_3 K (q_X13_oneComes K k) x2 x3 x4 r1 t0 t1 z) Q) : Tt (fun K k => q_X13_oneComes K k 3 x2 x3 x4 r1 t0 t1 z) Q := w_un (fun _ _ => rfl) H
theorem e_X13_oneComes {r1 : Nat} {z : ow_MS} {Q : ow_MS → Prop} (H : Tt (fun K k => q_X13_oneComes K k 0 0 0 0 r1 0 0 z) Q) : Te (fun K => qe_X13_oneComes K r1 z) Q := w_te H
theorem u_X13_oneComes_0 {x2 : Int32} {x3 : Int32} {x4 : Int32} {r1 : Nat} {t0 : Int32} {t1 : Int32} {z : ow_MS} {Q : ow_MS → Prop} (H : Tt (fun K k => qm_X13_oneComes_0 K (q_X13_oneComes K k) x2 x3 x4 r1 t0 t1 z) Q) : Tt (fun K k => q_X13_oneComes K k 0 x2 x3 x4 r1 t0 t1 z) Q := w_un (fun _ _ => rfl) H
theorem tp_oneComes (hn : mw_net n) (hn3 : n ≠ 3000) (hV : A.flatten.length ≤ 22) (hL : L + 4 * (A.flatten.length + A.length) ≤ 2700) (hO : oNet z n A sg) (h : oF X bb m L z) : Te (fun K => qe_X13_oneComes K n z) (fun z1 => (∃ L2, L2 ≤ L + 4 * (A.flatten.length + A.length) ∧ oF X bb m L2 z1) ∧ fr frB z z1) := by
  have hC := hO.2.2.2
  obtain ⟨c, hok, hc12⟩ := hO.2.2.1
  have hVc := okF_len hok
  let Q : ow_MS → Prop := fun z1 => (∃ L2, L2 ≤ L + 4 * (A.flatten.length + A.length) ∧ oF X bb m L2 z1) ∧ fr frB z z1
  have out : ∀ (k g : Nat) (y : ow_MS), g + k = A.flatten.length + A.length → fr frB z y → (∃ L2, L2 ≤ L + 4 * g ∧ oF X bb m L2 y) → Tt (fun K i => q_X13_oneComes K i 1 (nI c) (nI g) 0 n 0 0 y) Q := by
    intro k
    induction k with
    | zero =>
      intro g y hg hf ⟨L2, hL2, ho⟩
      have o2 := oNet_B hn hn3 hf hO
      refine u_X13_oneComes_1 ?_; unfold qm_X13_oneComes_1
      refine w_rdF o2.1.V (w_rdF (lk_C o2.1) ?_)
      rw [nI_add]
      exact w_leT (by omega) (by omega) (w_some ⟨⟨L2, by omega, ho⟩, hf⟩)
    | succ k ih =>
      intro g y hg hf hLo
      have inn : ∀ (k t : Nat) (y : ow_MS), t + k = 4 → fr frB z y → (∃ L2, L2 ≤ L + 4 * g + t ∧ oF X bb m L2 y) → Tt (fun K i => q_X13_oneComes K i 2 (nI c) (nI g) (nI t) n 0 0 y) Q := by
        intro k
        have c4 : ∀ (x4 : Int32) (y : ow_MS), fr frB z y → (∃ L2, L2 ≤ L + 4 * (g + 1) ∧ oF X bb m L2 y) → Tt (fun K i => q_X13_oneComes K i 4 (nI c) (nI g) x4 n 0 0 y) Q := by
          intro x4 y hf ho
          refine u_X13_oneComes_4 ?_; unfold qm_X13_oneComes_4
          rw [nI_1]
          exact ih (g + 1) y (by omega) hf ho
        induction k with
        | zero =>
          intro t y ht hf ⟨L2, hL2, ho⟩
          refine u_X13_oneComes_2 ?_; unfold qm_X13_oneComes_2
          exact w_leT (a := 4) (by omega) (by omega) (c4 _ y hf ⟨L2, by omega, ho⟩)
        | succ k ihk =>
          intro t y ht hf ⟨L2, hL2, ho⟩
          have o2 := oNet_B hn hn3 hf hO
          refine u_X13_oneComes_2 ?_; unfold qm_X13_oneComes_2
          refine w_leF (a := 4) (by omega) (by omega) (w_cs1 (tp_isGap hn o2 (by omega)) (fun a y9 ⟨e, h9⟩ => ?_))
          have e : y9 = y := e
          subst e
          rcases h9 with ⟨h9, -⟩ | ⟨h9, hig⟩
          · have h9 : a = 0 := h9
            exact w_ifT h9 (c4 _ y9 hf ⟨L2, by omega, ho⟩)
          · have h9 : a = 1 := h9
            refine w_ifF (by rw [h9]; decide) ?_
            rw [rn_and1 (by omega), show (1 : Int32) - nI (t % 2) = nI (1 - t % 2) from pk_sub (a := 1) (by omega)]
            refine w_cs0 (tp_put (i := 0) (by omega)) (fun y1 e1 => w_cs0 (tp_put (i := 1) (by omega)) (fun y2 e2 => ?_))
            subst e1
            subst e2
            obtain ⟨B, hB⟩ : ∃ B : List (Nat × Nat), B = [(c, t % 2), (c, 1 - t % 2)] := ⟨_, rfl⟩
            have hBl : B.length = 2 := by rw [hB]; rfl
            have hBk : okB B c 1 := by
              rw [hB]
              refine ⟨?_, fun p => ?_⟩
              · rw [List.nodup_cons]
                refine ⟨?_, by simp⟩
                simp
                omega
              · rw [List.mem_cons, List.mem_singleton, Prod.ext_iff, Prod.ext_iff]
                show (p.1 = c ∧ p.2 = t % 2 ∨ p.1 = c ∧ p.2 = 1 - t % 2) ↔ _
                omega
            have hlen := app_len (A := A) (B := B)
            have f31 : fr (fun g => g = 31 ∨ g = 32) y9 (usI (usI (usI (usI y9 31 0 (nI c)) 32 0 (nI (t % 2))) 31 1 (nI c)) 32 1 (nI (1 - t % 2))) := fr_I2 (fr_I2 (fr_I2 (fr_I (Or.inl rfl)) (Or.inr rfl)) (Or.inl rfl)) (Or.inr rfl)
            have o3 := oNet_fr f31 (fun g hg => by have := net_mod hn; omega) o2
            have v0 : vAt (A ++ [B]) A.flatten.length = (c, t % 2) := app_r (i := 0) (by rw [hB]; rfl)
            have v1 : vAt (A ++ [B]) (A.flatten.length + 1) = (c, 1 - t % 2) := app_r (i := 1) (by rw [hB]; rfl)
            refine w_cs0 (tp_build (g := g) (h := 1000) (V := A.flatten.length) (AA := A ++ [B]) hn hn3 o3 rfl (fun i hi => app_l hi) (by omega) (fun h8 => by omega) (by omega) hig (fun h8 => by omega) (Or.inr rfl) neg_x3 ?_ (fun h8 => by omega)) (fun y3 ⟨b3, f3, s3⟩ => ?_)
            · unfold crs uns
              rw [v0, v1]
              exact ⟨rd_ot (by decide) (rd_ne (by decide) (rd_ot (by decide) po_usI_at)), rd_ne (by decide) (rd_ot (by decide) po_usI_at), rd_ot (by decide) po_usI_at, po_usI_at⟩
            · have F3 : fr frB z y3 := fr_tr hf (fr_tr (fr_mono (fun g hg => Or.inl (by omega)) f31) (fr_mono (fun g hg => Or.inr (by omega)) f3))
              have ho3 : oF X bb m L2 y3 := oF_3 f3 (fun g hg => by omega) (oF_fr f31 (fun g hg => by unfold per; omega) ho)
              have c3 : ∀ t0 : Int32, s1 t0 → Tt (fun K i => q_X13_oneComes K i 3 (nI c) (nI g) (nI t) n t0 (nI c) y3) Q := by
                intro t0 ht0
                have ok2 := okF_app hok hBk
                have wk2 := okF_wk (by omega) ok2
                refine u_X13_oneComes_3 ?_; unfold qm_X13_oneComes_3
                rw [nI_1]
                refine w_wrI (pl6 pn3) rfl (by omega) ?_
                have f4 : fr (fun g => g = 3006) y3 (usI y3 3006 c t0) := fr_I rfl
                have hN : mNet (usI y3 3006 c t0) 3000 := by
                  refine bmE_net wk2 (by omega) hC (fun j hj => hj) (fun j hj => mtf_lt (wkF_ok wk2) hj) (sg_app hO hok hBk (fun x hx => ?_) (fun x hx1 hx2 => ?_)) (bmE_eq (bmE_fr f4 (fun g hg => by omega) b3) (fun j => by omega))
                  · rw [po_usI_ne (by omega), s3 x (by omega), (f31 (n + 6) (by have := net_mod hn; omega)).2.1, (hf (n + 6) (by have := net_mod hn; unfold frB; omega)).2.1]
                  · have : x = c := by omega
                    rw [this, po_usI_at]
                    exact ht0
                exact w_cs0 (tm_offer (by omega) (oF_3 f4 (fun g hg => by omega) ho3) hN) (fun y4 ⟨k1, k2⟩ => ihk (t + 1) y4 (by omega) (fr_tr F3 (fr_tr (fr_mono (fun g hg => Or.inr (by omega)) f4) (fr_mono (fun g hg => by unfold frO at hg; unfold frB; omega) k2))) ⟨L2 + 1, by omega, k1⟩)
              exact w_if (fun _ => c3 _ (Or.inr rfl)) (fun _ => c3 _ (Or.inl rfl))
      have o2 := oNet_B hn hn3 hf hO
      refine u_X13_oneComes_1 ?_; unfold qm_X13_oneComes_1
      refine w_rdF o2.1.V (w_rdF (lk_C o2.1) ?_)
      rw [nI_add]
      obtain ⟨L2, hL2, ho⟩ := hLo
      exact w_leF (by omega) (by omega) (inn 4 0 y (by omega) hf ⟨L2, by omega, ho⟩)
  refine e_X13_oneComes ?_
  refine u_X13_oneComes_0 ?_; unfold qm_X13_oneComes_0
  refine w_rdF hO.1.V (w_nzI (by decide) ?_)
  rw [show nI A.flatten.length / 2 = nI c from by rw [show nI A.flatten.length / 2 = nI (A.flatten.length / 2) from pk_div (d := 2) (by omega) (by omega) (by omega)]; congr 1; omega]
  exact out (A.flatten.length + A.length) 0 z (by omega) fr_rf ⟨L, by omega, h⟩
/-- the four visits of two crossings that come -/
theorem two_ok {c a b u : Nat} (ha : a < 2) (hb : b < 2) (hu : u < 2) : okB [(if u = 0 then c + a else c + b, u), (if u = 0 then 2 * c + 1 - (c + a) else 2 * c + 1 - (c + b), u), (if u = 0 then c + b else c + a, 1 - u), (if u = 0 then 2 * c + 1 - (c + b) else 2 * c + 1 - (c + a), 1 - u)] c 2 := by
  have h1 : a = 0 ∨ a = 1 := by omega
  have h2 : b = 0 ∨ b = 1 := by omega
  have h3 : u = 0 ∨ u = 1 := by omega
  refine ⟨?_, fun p => ?_⟩
  · rcases h1 with h1 | h1 <;> rcases h2 with h2 | h2 <;> rcases h3 with h3 | h3 <;> subst h1 h2 h3 <;> simp <;> omega
  · simp only [List.mem_cons, List.not_mem_nil, or_false, Prod.ext_iff]
    rcases h1 with h1 | h1 <;> rcases h2 with h2 | h2 <;> rcases h3 with h3 | h3 <;> subst h1 h2 h3 <;> simp <;> omega
theorem u_X13_twoAt_4 {x2 : Int32} {x3 : Int32} {x4 : Int32} {x5 : Int32} {x6 : Int32} {x7 : Int32} {x8 : Int32} {x9 : Int32} {x10 : Int32} {r1 : Nat} {t0 : Int32} {t1 : Int32} {z : ow_MS} {Q : ow_MS → Prop} (H : Tt (fun K k => qm_X13_twoAt_4 K (q_X13_twoAt K k) x2 x3 x4 x5 x6 x7 x8 x9 x10 r1 t0 t1 z) Q) : Tt (fun K k => q_X13_twoAt K k 4 x2 x3 x4 x5 x6 x7 x8 x9 x10 r1 t0 t1 z) Q := w_un (fun _ _ => rfl) H
theorem e_X13_twoAt {r1 : Nat} {x2 : Int32} {x3 : Int32} {x4 : Int32} {z : ow_MS} {Q : ow_MS → Prop} (H : Tt (fun K k => q_X13_twoAt K k 0 x2 x3 x4 0 0 0 0 0 0 r1 0 0 z) Q) : Te (fun K => qe_X13_twoAt K r1 x2 x3 x4 z) Q := w_te H
theorem u_X13_twoAt_0 {x2 : Int32} {x3 : Int32} {x4 : Int32} {x5 : Int32} {x6 : Int32} {x7 : Int32} {x8 : Int32} {x9 : Int32} {x10 : Int32} {r1 : Nat} {t0 : Int32} {t1 : Int32} {z : ow_MS} {Q : ow_MS → Prop} (H : Tt (fun K k => qm_X13_twoAt_0 K (q_X13_twoAt K k) x2 x3 x4 x5 x6 x7 x8 x9 x10 r1 t0 t1 z) Q) : Tt (fun K k => q_X13_twoAt K k 0 x2 x3 x4 x5 x6 x7 x8 x9 x10 r1 t0 t1 z) Q := w_un (fun _ _ => rfl) H
theorem u_X13_twoAt_1 {x2 : Int32} {x3 : Int32} {x4 : Int32} {x5 : Int32} {x6 : Int32} {x7 : Int32} {x8 : Int32} {x9 : Int32} {x10 : Int32} {r1 : Nat} {t0 : Int32} {t1 : Int32} {z : ow_MS} {Q : ow_MS → Prop} (H : Tt (fun K k => qm_X13_twoAt_1 K (q_X13_twoAt K k) x2 x3 x4 x5 x6 x7 x8 x9 x10 r1 t0 t1 z) Q) : Tt (fun K k => q_X13_twoAt K k 1 x2 x3 x4 x5 x6 x7 x8 x9 x10 r1 t0 t1 z) Q := w_un (fun _ _ => rfl) H
theorem u_X13_twoAt_2 {x2 : Int32} {x3 : Int32} {x4 : Int32} {x5 : Int32} {x6 : Int32} {x7 : Int32} {x8 : Int32} {x9 : Int32} {x10 : Int32} {r1 : Nat} {t0 : Int32} {t1 : Int32} {z : ow_MS} {Q : ow_MS → Prop} (H : Tt (fun K k => qm_X13_twoAt_2 K (q_X13_twoAt K k) x2 x3 x4 x5 x6 x7 x8 x9 x10 r1 t0 t1 z) Q) : Tt (fun K k => q_X13_twoAt K k 2 x2 x3 x4 x5 x6 x7 x8 x9 x10 r1 t0 t1 z) Q := w_un (fun _ _ => rfl) H
theorem u_X13_twoAt_3 {x2 : Int32} {x3 : Int32} {x4 : Int32} {x5 : Int32} {x6 : Int32} {x7 : Int32} {x8 : Int32} {x9 : Int32} {x10 : Int32} {r1 : Nat} {t0 : Int32} {t1 : Int32} {z : ow_MS} {Q : ow_MS → Prop} (H : Tt (fun K k => qm_X13_twoAt_3 K (q_X13_twoAt K k) x2 x3 x4 x5 x6 x7 x8 x9 x10 r1 t0 t1 z) Q) : Tt (fun K k => q_X13_twoAt K k 3 x2 x3 x4 x5 x6 x7 x8 x9 x10 r1 t0 t1 z) Q := w_un (fun _ _ => rfl) H
theorem tp_twoAt {g h t : Nat} (hn : mw_net n) (hn3 : n ≠ 3000) (hV : A.flatten.length ≤ 20) (hL : L < 2700) (hg : isG A g) (hh : isG A h) (ht : t < 8) (hO : oNet z n A sg) (ho : oF X bb m L z) : Te (fun K => qe_X13_twoAt K n (nI g) (nI h) (nI t) z) (fun z1 => (∃ L2, L2 ≤ L + 1 ∧ oF X bb m L2 z1) ∧ fr (fun g => g < 1000 ∧ g ≠ 12 ∧ g ≠ 28 ∨ 3001 ≤ g ∧ g ≤ 3016) z z1) := by
  have hmn := net_mod hn
  have hC := hO.2.2.2
  obtain ⟨c, hok, hc12⟩ := hO.2.2.1
  have hVc := okF_len hok
  have hgb : g < A.flatten.length + A.length := by rcases hg with hg | ⟨h1, h2, -⟩ <;> omega
  have hhb : h < A.flatten.length + A.length := by rcases hh with hh | ⟨h1, h2, -⟩ <;> omega
  obtain ⟨a, ha⟩ : ∃ a, a = t % 2 := ⟨_, rfl⟩
  obtain ⟨b, hb⟩ : ∃ b, b = t / 2 % 2 := ⟨_, rfl⟩
  obtain ⟨u, hu⟩ : ∃ u, u = t / 4 := ⟨_, rfl⟩
  have ha2 : a < 2 := by omega
  have hb2 : b < 2 := by omega
  have hu2 : u < 2 := by omega
  obtain ⟨B, hB⟩ : ∃ B : List (Nat × Nat), B = [(if u = 0 then c + a else c + b, u), (if u = 0 then 2 * c + 1 - (c + a) else 2 * c + 1 - (c + b), u), (if u = 0 then c + b else c + a, 1 - u), (if u = 0 then 2 * c + 1 - (c + b) else 2 * c + 1 - (c + a), 1 - u)] := ⟨_, rfl⟩
  have hBk : okB B c 2 := by rw [hB]; exact two_ok ha2 hb2 hu2
  have hBl : B.length = 4 := by rw [hB]; rfl
  have hlen := app_len (A := A) (B := B)
  let Q : ow_MS → Prop := fun z1 => (∃ L2, L2 ≤ L + 1 ∧ oF X bb m L2 z1) ∧ fr (fun g => g < 1000 ∧ g ≠ 12 ∧ g ≠ 28 ∨ 3001 ≤ g ∧ g ≤ 3016) z z1
  have hmono : oF X bb m L z → oF X bb m (L + 1) z := fun h9 => ⟨h9.1, h9.2.1, h9.2.2.1, fun e => by
    obtain ⟨l, h7, h8⟩ := h9.2.2.2.1 e
    exact ⟨l, by omega, h8⟩, h9.2.2.2.2⟩
  have c4 : ∀ (y : ow_MS) (x6 x7 x8 x9 t0 : Int32), fr (fun g => g = 31 ∨ g = 32) z y → y.2.1 31 0 = nI (B[0]'(by omega)).1 → y.2.1 32 0 = nI u → y.2.1 31 1 = nI (B[1]'(by omega)).1 → y.2.1 32 1 = nI u → y.2.1 31 2 = nI (B[2]'(by omega)).1 → y.2.1 32 2 = nI (1 - u) → t0 = nI (B[3]'(by omega)).1 → Tt (fun K i => q_X13_twoAt K i 4 (nI g) (nI h) (nI t) (nI c) x6 x7 x8 x9 (nI u) n t0 3 y) Q := by
    intro y x6 x7 x8 x9 t0 hf p0 q0 p1 q1 p2 q2 ht0
    refine u_X13_twoAt_4 ?_; unfold qm_X13_twoAt_4
    rw [show (1 : Int32) - nI u = nI (1 - u) from pk_sub (a := 1) (by omega)]
    refine w_cs0 (tp_put (i := 3) (by omega)) (fun y2 e2 => ?_)
    subst e2
    have f31 : fr (fun g => g = 31 ∨ g = 32) z (usI (usI y 31 3 t0) 32 3 (nI (1 - u))) := fr_I2 (fr_I2 hf (Or.inl rfl)) (Or.inr rfl)
    have o3 := oNet_fr f31 (fun g hg => by omega) hO
    have vv : ∀ i (hi : i < 4), vAt (A ++ [B]) (A.flatten.length + i) = B[i]'(by omega) := fun i hi => app_r (List.getElem?_eq_getElem (by omega))
    have u0 : (B[0]'(by omega)).2 = u ∧ (B[1]'(by omega)).2 = u ∧ (B[2]'(by omega)).2 = 1 - u ∧ (B[3]'(by omega)).2 = 1 - u := by
      subst hB
      exact ⟨rfl, rfl, rfl, rfl⟩
    refine w_cs0 (tp_build (g := g) (h := h) (V := A.flatten.length) (AA := A ++ [B]) hn hn3 o3 rfl (fun i hi => app_l hi) (by omega) (fun _ => by omega) (by omega) hg (fun _ => hh) (Or.inl (by omega)) (fun k hk => nI_eq (by omega) (by omega)) ?_ (fun _ => ?_)) (fun y3 ⟨b3, f3, s3⟩ => ?_)
    · unfold crs uns
      have e0 := vv 0 (by omega)
      rw [Nat.add_zero] at e0
      rw [e0, vv 1 (by omega), u0.1, u0.2.1]
      exact ⟨rd_ot (by decide) (rd_ne (by decide) p0), rd_ne (by decide) (rd_ot (by decide) q0), rd_ot (by decide) (rd_ne (by decide) p1), rd_ne (by decide) (rd_ot (by decide) q1)⟩
    · unfold crs uns
      rw [vv 2 (by omega), vv 3 (by omega), u0.2.2.1, u0.2.2.2]
      exact ⟨rd_ot (by decide) (rd_ne (by decide) p2), rd_ne (by decide) (rd_ot (by decide) q2), rd_ot (by decide) (po_usI_at.trans ht0), po_usI_at⟩
    · have ok2 := okF_app hok hBk
      have wk2 := okF_wk (by omega) ok2
      have hd2 := wkF_ok wk2
      rw [nI_1]
      refine w_wrI (pl6 pn3) rfl (by omega) (w_wrI (pl6 pn3) rfl (by omega) ?_)
      have f4 : fr (fun g => g = 3006) y3 (usI (usI y3 3006 c 1) 3006 (c + 1) (-1)) := fr_I2 (fr_I rfl) rfl
      have b4 : bmE (usI (usI y3 3006 c 1) 3006 (c + 1) (-1)) 3000 (A ++ [B]) (fun j => j < (A ++ [B]).flatten.length) A.length := bmE_eq (bmE_fr f4 (fun g hg => by omega) b3) (fun j => by omega)
      have hN : mNet (usI (usI y3 3006 c 1) 3006 (c + 1) (-1)) 3000 := by
        refine bmE_net wk2 (by omega) hC (fun j hj => hj) (fun j hj => mtf_lt hd2 hj) (sg_app hO hok hBk (fun x hx => ?_) (fun x hx1 hx2 => ?_)) b4
        · rw [po_usI_ne (by omega), po_usI_ne (by omega), s3 x (by omega), (f31 (n + 6) (by omega)).2.1]
        · by_cases hxc : x = c + 1
          · rw [hxc, po_usI_at]
            exact Or.inr rfl
          · have : x = c := by omega
            rw [po_usI_ne hxc, this, po_usI_at]
            exact Or.inl rfl
      obtain ⟨A', sg', n1, n2, n3, n4, n5⟩ := hN
      have F4 : fr (fun g => g < 1000 ∧ g ≠ 12 ∧ g ≠ 28 ∨ 3001 ≤ g ∧ g ≤ 3016) z (usI (usI y3 3006 c 1) 3006 (c + 1) (-1)) := fr_tr (fr_mono (fun g hg => by omega) f31) (fr_tr (fr_mono (fun g hg => by omega) f3) (fr_mono (fun g hg => by omega) f4))
      have ho4 : oF X bb m L (usI (usI y3 3006 c 1) 3006 (c + 1) (-1)) := oF_3 f4 (fun g hg => by omega) (oF_3 f3 (fun g hg => by omega) (oF_fr f31 (fun g hg => by unfold per; omega) ho))
      refine w_cs0 (tn_link pn3 (by omega) (by omega) (wkF_ok n3).1 n1) (fun y5 ⟨f5, a5, i5⟩ => w_cs1 (tn_plane pn3 (by omega) (by omega) (wkF_ok n3) ⟨a5, i5⟩) (fun r y6 ⟨_, f6, l6, _, _⟩ => ?_))
      have f6 : fr (fun g => 3000 + 12 ≤ g ∧ g ≤ 3000 + 16) y5 y6 := f6
      have l6 : rn_lk y6 3000 A' := l6
      have F6 : fr (fun g => g < 1000 ∧ g ≠ 12 ∧ g ≠ 28 ∨ 3001 ≤ g ∧ g ≤ 3016) z y6 := fr_tr F4 (fr_tr (fr_mono (fun g hg => by have := hg.1; have := hg.2; omega) f5) (fr_mono (fun g hg => by omega) f6))
      have ho6 : oF X bb m L y6 := oF_3 f6 (fun g hg => by omega) (oF_3 f5 (fun g hg => by have := hg.1; omega) ho4)
      have hN6 : mNet y6 3000 := ⟨A', sg', l6.1, fun p hp => by
        rw [(f6 3006 (by omega)).2.1, (f5 3006 (fun h9 => by have := h9.1; omega)).2.1]
        exact n2 p hp, n3, n4, n5⟩
      exact w_if (fun _ => w_some ⟨⟨L, by omega, ho6⟩, F6⟩) (fun _ => w_cs0 (tm_offer hL ho6 hN6) (fun y7 ⟨k1, k2⟩ => w_some ⟨⟨L + 1, Nat.le_refl _, k1⟩, fr_tr F6 (fr_mono (fun g hg => by unfold frO at hg; omega) k2)⟩))
  have e2c : (2 : Int32) * nI c = nI (2 * c) := pk_mul 2 c
  refine e_X13_twoAt ?_
  refine u_X13_twoAt_0 ?_; unfold qm_X13_twoAt_0
  refine w_rdF hO.1.V (w_nzI (by decide) ?_)
  rw [show nI A.flatten.length / 2 = nI c from by rw [show nI A.flatten.length / 2 = nI (A.flatten.length / 2) from pk_div (d := 2) (by omega) (by omega) (by omega)]; congr 1; omega]
  rw [rn_shr2 (by omega), rn_shr1 (by omega), rn_and1 (by omega), rn_and1 (by omega), ← ha, ← hb, ← hu, nI_add, nI_add, e2c, nI_1, pk_sub (by omega), pk_sub (by omega)]
  have run : ∀ t0 : Int32, t0 = nI (B[0]'(by omega)).1 → Tt (fun K i => q_X13_twoAt K i 1 (nI g) (nI h) (nI t) (nI c) (nI (c + a)) (nI (2 * c + 1 - (c + a))) (nI (c + b)) (nI (2 * c + 1 - (c + b))) (nI u) n t0 0 z) Q := by
    intro t0 ht0
    refine u_X13_twoAt_1 ?_; unfold qm_X13_twoAt_1
    refine w_cs0 (tp_put (i := 0) (by omega)) (fun y1 e1 => ?_)
    subst e1
    have c2 : ∀ t1 : Int32, t1 = nI (B[1]'(by omega)).1 → Tt (fun K i => q_X13_twoAt K i 2 (nI g) (nI h) (nI t) (nI c) (nI (c + a)) (nI (2 * c + 1 - (c + a))) (nI (c + b)) (nI (2 * c + 1 - (c + b))) (nI u) n t1 1 (usI (usI z 31 0 t0) 32 0 (nI u))) Q := by
      intro t1 ht1
      refine u_X13_twoAt_2 ?_; unfold qm_X13_twoAt_2
      refine w_cs0 (tp_put (i := 1) (by omega)) (fun y1 e1 => ?_)
      subst e1
      have c3 : ∀ t2 : Int32, t2 = nI (B[2]'(by omega)).1 → Tt (fun K i => q_X13_twoAt K i 3 (nI g) (nI h) (nI t) (nI c) (nI (c + a)) (nI (2 * c + 1 - (c + a))) (nI (c + b)) (nI (2 * c + 1 - (c + b))) (nI u) n t2 2 (usI (usI (usI (usI z 31 0 t0) 32 0 (nI u)) 31 1 t1) 32 1 (nI u))) Q := by
        intro t2 ht2
        refine u_X13_twoAt_3 ?_; unfold qm_X13_twoAt_3
        rw [show (1 : Int32) - nI u = nI (1 - u) from pk_sub (a := 1) (by omega)]
        refine w_cs0 (tp_put (i := 2) (by omega)) (fun y1 e1 => ?_)
        subst e1
        have fin : ∀ t3 : Int32, t3 = nI (B[3]'(by omega)).1 → Tt (fun K i => q_X13_twoAt K i 4 (nI g) (nI h) (nI t) (nI c) (nI (c + a)) (nI (2 * c + 1 - (c + a))) (nI (c + b)) (nI (2 * c + 1 - (c + b))) (nI u) n t3 3 (usI (usI (usI (usI (usI (usI z 31 0 t0) 32 0 (nI u)) 31 1 t1) 32 1 (nI u)) 31 2 t2) 32 2 (nI (1 - u)))) Q := by
          intro t3 ht3
          refine c4 _ _ _ _ _ _ (fr_I2 (fr_I2 (fr_I2 (fr_I2 (fr_I2 (fr_I (Or.inl rfl)) (Or.inr rfl)) (Or.inl rfl)) (Or.inr rfl)) (Or.inl rfl)) (Or.inr rfl)) ?_ ?_ ?_ ?_ ?_ po_usI_at ht3
          · exact rd_ot (by decide) (rd_ne (by decide) (rd_ot (by decide) (rd_ne (by decide) (rd_ot (by decide) (po_usI_at.trans ht0)))))
          · exact rd_ne (by decide) (rd_ot (by decide) (rd_ne (by decide) (rd_ot (by decide) po_usI_at)))
          · exact rd_ot (by decide) (rd_ne (by decide) (rd_ot (by decide) (po_usI_at.trans ht1)))
          · exact rd_ne (by decide) (rd_ot (by decide) po_usI_at)
          · exact rd_ot (by decide) (po_usI_at.trans ht2)
        refine w_eqN (b := 0) (by omega) (by omega) (fun h9 => fin _ ?_) (fun h9 => fin _ ?_)
        · subst hB
          show _ = nI (if u = 0 then _ else _)
          rw [if_pos h9]
        · subst hB
          show _ = nI (if u = 0 then _ else _)
          rw [if_neg h9]
      refine w_eqN (b := 0) (by omega) (by omega) (fun h9 => c3 _ ?_) (fun h9 => c3 _ ?_)
      · subst hB
        show _ = nI (if u = 0 then _ else _)
        rw [if_pos h9]
      · subst hB
        show _ = nI (if u = 0 then _ else _)
        rw [if_neg h9]
    refine w_eqN (b := 0) (by omega) (by omega) (fun h9 => c2 _ ?_) (fun h9 => c2 _ ?_)
    · subst hB
      show _ = nI (if u = 0 then _ else _)
      rw [if_pos h9]
    · subst hB
      show _ = nI (if u = 0 then _ else _)
      rw [if_neg h9]
  refine w_eqN (b := 0) (by omega) (by omega) (fun h9 => run _ ?_) (fun h9 => run _ ?_)
  · subst hB
    show _ = nI (if u = 0 then _ else _)
    rw [if_pos h9]
  · subst hB
    show _ = nI (if u = 0 then _ else _)
    rw [if_neg h9]
end MV2
