theorem up2_ne {A : Nat → Nat → Int32} {j i j' : Nat} {x : Int32} (h : j' ≠ j) : up2 A j i x j' = A j' := by
  funext q; simp [up2, h]
theorem up2_at {A : Nat → Nat → Int32} {j i : Nat} {x : Int32} : up2 A j i x j i = x := by simp [up2]
theorem up2_o {A : Nat → Nat → Int32} {j i j' i' : Nat} {x : Int32} (h : i' ≠ i) : up2 A j i x j' i' = A j' i' := by simp [up2, h]
theorem mvR_mono (g : Gm) (P : Nat → Nat) (s m : Nat) : ∀ n k, n ≤ k → (mvR g P s m n).length ≤ (mvR g P s m k).length := by
  intro n k
  induction k with
  | zero => intro h; rw [show n = 0 by omega]; exact Nat.le_refl _
  | succ k ih =>
    intro h
    by_cases c : n = k + 1
    · rw [c]; exact Nat.le_refl _
    · have := ih (by omega)
      rw [mvR_succ, List.length_append]; omega
theorem mvA_mono (g : Gm) (P : Nat → Nat) (s : Nat) : ∀ n k, n ≤ k → (mvA g P s n).length ≤ (mvA g P s k).length := by
  intro n k
  induction k with
  | zero => intro h; rw [show n = 0 by omega]; exact Nat.le_refl _
  | succ k ih =>
    intro h
    by_cases c : n = k + 1
    · rw [c]; exact Nat.le_refl _
    · have := ih (by omega)
      rw [mvA_succ, List.length_append]; omega
theorem mv_pre {g : Gm} {P : Nat → Nat} {s m n : Nat} (hm : m < qn g) (hn : n ≤ sq g) (h1 : iof g m s = true) (h2 : P m < sq g) : (mvA g P s m).length + (mvR g P s m n).length ≤ (mvA g P s (qn g)).length := by
  have a1 := mvA_mono g P s (m + 1) (qn g) hm
  rw [mvA_succ, List.length_append] at a1
  have a2 : mvM g P s m = mvR g P s m (sq g) := by unfold mvM; rw [if_pos (by simp [h1, h2])]
  rw [a2] at a1
  have a3 := mvR_mono g P s m n (sq g) hn
  omega
theorem mvA_pre {g : Gm} {P : Nat → Nat} {s : Nat} : ∀ n, (∀ m, m < n → iof g m s = false) → mvA g P s n = []
  | 0, _ => by simp [mvA]
  | n + 1, h => by
    rw [mvA_succ, mvA_pre n (fun m hm => h m (by omega))]
    unfold mvM
    rw [h n (by omega)]; rfl
theorem mvA_end {g : Gm} {P : Nat → Nat} {s n : Nat} : ∀ k, (∀ m, n ≤ m → m < n + k → iof g m s = false) → mvA g P s (n + k) = mvA g P s n
  | 0, _ => rfl
  | k + 1, h => by
    rw [← Nat.add_assoc, mvA_succ, mvA_end k (fun m h1 h2 => h m h1 (by omega))]
    unfold mvM
    rw [h (n + k) (by omega) (by omega)]; simp
theorem iof_r {g : Gm} (w : qF g) {s m : Nat} (hs : s < 2) (hm : m < qn g) : iof g m s = true ↔ roy g s ≤ m ∧ m < eom g s := by
  have : s = 0 ∨ s = 1 := by omega
  unfold iof roy eom
  rcases this with rfl | rfl
  · simp
  · simp; omega
section
variable {E : Wd} {h : Hp} {t r : Nat} {g : Gm} {A : Nat → Nat → Int32} {a b c : Int32} {d : Nat}
theorem Kp.ofr {h' : Hp} {p c s o : Nat} {P : Nat → Nat} (K : Kp E h p r c g P s o) (e : ∀ a, r ≤ a → h'.2 a = h.2 a) : Kp E h' p r c g P s o := by
  obtain ⟨k1, k2, k3, k4, k5, k6⟩ := K
  exact ⟨k1.of (fun j _ => e _ (by omega)), k2.of (fun j _ => e _ (by omega)), by rw [e p (by omega)]; exact k3, by rw [e (p + 1) (by omega)]; exact k4, k5, k6⟩
theorem Tb.sa (T : Tb E h t r g A a b c) {j : Nat} {i x : Int32} (hj : j < 9) : ∀ q, r ≤ q → (sA h (t + j) i x).2 q = h.2 q := fun q hq => by
  have := T.2.2.2.2
  have : q ≠ t + j := by omega
  simp [sA, this]
theorem Tb.pa (T : Tb E h t r g A a b c) {k : Nat} {v : Value} : ∀ q, r ≤ q → (pF h t k v).2 q = h.2 q := fun q hq => by
  have := T.2.2.2.2
  have : q ≠ t := by omega
  simp [pF, this]
theorem c_findPositions {Q : Hp → Prop} (T : Tb E h t r g A a (nI (nx g)) c) (w : qF g) (hq : ∀ h' A', Tb E h' t r g A' (nI (cN (Ps g) (nx g))) (nI (nx g)) c → FT h h' t r → (∀ x, x < nx g → A' 1 x = (if Ps g x = true then nI (can g x) else -1) ∧ A' 2 x = nI (ms g (plc g x))) → Q h') : OkV E YX6_findPositions (d + 3) [.ref t] h Q := by
  refine rnX6_findPositions (fun K7 k7 => ?_)
  have hnx := nx_le w
  rw [vcX6_findPositions_0]
  refine ⟨(by simp only [T.fs]), fun h1 e1 => ?_⟩
  obtain ⟨T1, F1⟩ := T.put (k := 11) (x := 0) (a' := 0) (b' := nI (nx g)) (c' := c) rfl
  rw [← e1] at T1 F1
  clear e1
  refine lp_up (K := fun i => ∀ h' A', Tb E h' t r g A' (nI (cN (Ps g) i)) (nI (nx g)) c → FT h h' t r → (∀ x, x < i → A' 1 x = (if Ps g x = true then nI (can g x) else -1) ∧ A' 2 x = nI (ms g (plc g x))) → K7 t (nI i) h') (nx g) (fun i hi ih h' A' T' F' P' => ?_) (fun h' A' T' F' P' => ?_) 0 (Nat.zero_le _) h1 A T1 F1 (fun x hx => absurd hx (Nat.not_lt_zero _))
  · refine k7 _ _ _ ?_
    obtain ⟨P0, s0, o0, K0⟩ := T'.2.2.2.1
    simp only [vcX6_findPositions_7, T'.fs, true_and, nI_leI (show nx g < 2 ^ 31 by omega) (show i < 2 ^ 31 by omega)]
    refine ⟨fun q => absurd q (by omega), fun _ => c_read K0 w hi (fun h2 K2 F2 => ?_)⟩
    have T2 := T'.sp K2 F2
    simp only [T2.fs, true_and]
    refine c_missing K2 w ?_
    obtain ⟨T3, F3⟩ := T2.st (j := 2) (i := i) (x := nI (ms g (plc g i))) (by omega) (by show i < 4394; omega)
    refine ⟨(T2.tt (show i < 4394 by omega)).2.1.1, fun h3 e3 => ?_⟩
    have K3 : Kp E h3 (r + 5) r (r + 7) g (plc g i) (i % 2) (ocF g (plc g i) 3) := by rw [e3]; exact K2.ofr (T2.sa (by omega))
    rw [← e3] at T3 F3
    clear e3
    simp only [T3.fs, true_and]
    obtain ⟨T4, F4⟩ := T3.st (j := 1) (i := i) (x := -1) (by omega) (by show i < 4394; omega)
    refine ⟨(T3.tt (show i < 4394 by omega)).1.1, fun h4 e4 => ?_⟩
    have K4 : Kp E h4 (r + 5) r (r + 7) g (plc g i) (i % 2) (ocF g (plc g i) 3) := by rw [e4]; exact K3.ofr (T3.sa (by omega))
    rw [← e4] at T4 F4
    clear e4
    simp only [T4.fs, true_and]
    have FF := ((F'.tr F2.ft).tr F3).tr F4
    refine c_isPossible K4 w (by omega) ?_
    have ePs : Ps g i = poss g (plc g i) (i % 2) := by unfold Ps; rw [decide_eq_true hi, Bool.true_and]
    rw [← ePs]
    refine bI_c' (fun q => ?_) (fun q => ?_)
    · rw [nI_1]
      refine ih h4 _ (by rw [cN, if_neg (by rw [q]; decide)]; exact T4) FF (fun x hx => ?_)
      by_cases z : x = i
      · subst z
        rw [if_neg (by rw [q]; decide), up2_at, up2_ne (by omega), up2_at]
        exact ⟨rfl, rfl⟩
      · rw [up2_o z, up2_o z, up2_o z, up2_o z]; exact P' x (by omega)
    · simp only [T4.fs, true_and]
      refine c_leastImage T4.2.2.1 w hi ?_
      rw [mnL_can]
      obtain ⟨T5, F5⟩ := T4.st (j := 1) (i := i) (x := nI (can g i)) (by omega) (by show i < 4394; omega)
      refine ⟨(T4.tt (show i < 4394 by omega)).1.1, fun h5 e5 => ?_⟩
      rw [show can g i = canN g i 8 from rfl, ← e5] at T5 F5
      clear e5
      simp only [T5.fs, true_and]
      obtain ⟨T6, F6⟩ := T5.put (k := 11) (x := nI (cN (Ps g) i + 1)) (a' := nI (cN (Ps g) i + 1)) (b' := nI (nx g)) (c' := c) rfl
      intro h6 e6
      rw [nI_1] at e6
      rw [← e6] at T6 F6
      clear e6
      rw [nI_1]
      refine ih h6 _ (by rw [cN, if_pos q]; exact T6) ((FF.tr F5).tr F6) (fun x hx => ?_)
      by_cases z : x = i
      · subst z
        rw [if_pos q, up2_at, up2_ne (by omega), up2_ne (by omega), up2_at]
        exact ⟨rfl, rfl⟩
      · rw [up2_o z, up2_o z, up2_o z, up2_o z, up2_o z, up2_o z]; exact P' x (by omega)
  · refine k7 _ _ _ ?_
    simp only [vcX6_findPositions_7, T'.fs, true_and]
    exact ⟨fun _ => hq h' A' T' F' P', fun q => absurd (nI_le (Nat.le_refl _) (by omega)) q⟩
/-- a list of moves has been written behind the place n -/
def WL (A A' : Nat → Nat → Int32) (n : Nat) (L : List (Nat × Nat × Option Nat × Nat)) : Prop := (∀ j, j ≠ 7 → A' j = A j) ∧ (∀ i, i < n → A' 7 i = A 7 i) ∧ ∀ k, k < L.length → ∀ v, L[k]? = some v → A' 7 (n + k) = nI v.2.2.2
theorem c_writeSteps {Q : Hp → Prop} {x : Nat} (T : Tb E h t r g A a (nI (nx g)) (nI (stN g x))) (w : qF g) (bd : bnd g) (hP : Ps g x = true) (hq : ∀ h' A', Tb E h' t r g A' a (nI (nx g)) (nI (stN g (x + 1))) → FT h h' t r → WL A A' (stN g x) (mvs g x) → Q h') : OkV E YX6_writeSteps (d + 3) [.ref t, .int (nI x)] h Q := by
  refine rnX6_writeSteps (fun K21 K50 k21 k50 => ?_)
  obtain ⟨hx, hC, hck⟩ := (Ps_iff w).mp hP
  have hnx := nx_le w
  have hsq := w.sq_lt
  have hn : qn g ≤ 3 := w.2.2.2.2.2.2.1
  have hb := bnd_le bd (show x + 1 ≤ nx g by omega)
  rw [stN_at hP] at hb hq
  obtain ⟨n, hne⟩ : ∃ n, n = stN g x := ⟨_, rfl⟩
  rw [← hne] at T hb hq
  obtain ⟨s, hse⟩ : ∃ s, s = x % 2 := ⟨_, rfl⟩
  have hs : s < 2 := by omega
  obtain ⟨P, hPe⟩ : ∃ P, P = plc g x := ⟨_, rfl⟩
  have hmv : mvs g x = mvA g P s (qn g) := by rw [hPe, hse]; rfl
  rw [hmv] at hb hq
  -- the state after some moves
  let S : Hp → List (Nat × Nat × Option Nat × Nat) → Prop := fun h' L => ∃ A', Tb E h' t r g A' a (nI (nx g)) (nI (n + L.length)) ∧ WL A A' n L ∧ FT h h' t r ∧ Kp E h' (r + 5) r (r + 7) g P s (ocF g P (qn g))
  have inner : ∀ m, m < qn g → iof g m s = true → P m < sq g → (∀ h', S h' (mvA g P s m ++ mvR g P s m (sq g)) → K21 t (nI s) (nI (m + 1)) h') → ∀ k, k ≤ sq g → ∀ h', S h' (mvA g P s m ++ mvR g P s m k) → K50 t (nI s) (nI m) (nI k) h' := fun m hm h1 h2 hend => by
    refine lp_up (K := fun k => ∀ h', S h' (mvA g P s m ++ mvR g P s m k) → K50 t (nI s) (nI m) (nI k) h') (sq g) (fun k hk ih h' hS => ?_) (fun h' hS => ?_)
    · refine k50 _ _ _ _ _ ?_
      obtain ⟨A', T', W', F', K'⟩ := hS
      simp only [vcX6_writeSteps_50, T'.fs, true_and, T'.2.2.1.1.fs, nI_leI (show sq g < 2 ^ 31 by omega) (show k < 2 ^ 31 by omega)]
      refine ⟨fun q => absurd q (by omega), fun _ => c_after K' w hs (by rw [hPe]; exact hC) (by rw [hPe, hse]; exact hck) hm h1 h2 hk (fun h3 K3 F3 => ?_)⟩
      have T3 := T'.sp K3 F3
      rw [nI_1]
      cases hmt : mvT g P s m k with
      | none =>
        refine ⟨fun _ => ih h3 ⟨A', ?_, ?_, F'.tr F3.ft, K3⟩, fun q => absurd (by decide) q⟩
        · rw [mvR_succ, hmt, Option.toList_none, List.append_nil]; exact T3
        · rw [mvR_succ, hmt, Option.toList_none, List.append_nil]; exact W'
      | some v =>
        have hv : v ∈ mvs g x := mvs_iff.mpr ⟨m, k, hm, hk, by rw [← hse]; exact h1, by rw [← hPe]; exact h2, by rw [← hPe, ← hse]; exact hmt⟩
        have hvl := Ps_lt (suc_Ps w hP hv)
        have hle := mv_pre (g := g) (P := P) (s := s) (n := k + 1) hm (by omega) h1 h2
        have e1 : mvR g P s m (k + 1) = mvR g P s m k ++ [v] := by rw [mvR_succ, hmt]; rfl
        obtain ⟨L, hL⟩ : ∃ L, L = mvA g P s m ++ mvR g P s m k := ⟨_, rfl⟩
        have e2 : mvA g P s m ++ mvR g P s m (k + 1) = L ++ [v] := by rw [e1, hL, List.append_assoc]
        rw [e1, List.length_append] at hle
        have hLl : L.length + 1 ≤ (mvA g P s (qn g)).length := by
          rw [hL, List.length_append]
          have : [v].length = 1 := rfl
          omega
        rw [← hL] at W' T' T3
        refine ⟨fun q => absurd q (nI_pos (by omega)), fun _ => ?_⟩
        have t7 := T3.ln (j := 7) (by omega)
        simp only [T3.fs, true_and, t7, nI_ltI (show n + L.length < 2 ^ 31 by omega) (show tln 7 < 2 ^ 31 by decide)]
        refine ⟨fun _ => ⟨(T3.gt (j := 7) (by omega) (by show _ < 7200; omega)).1, fun h4 e4 => ?_⟩, fun q => absurd (show n + L.length < 7200 by omega) q⟩
        obtain ⟨T4, F4⟩ := T3.st (j := 7) (i := n + L.length) (x := nI v.2.2.2) (by omega) (by show _ < 7200; omega)
        have K4 : Kp E h4 (r + 5) r (r + 7) g P s (ocF g P (qn g)) := by rw [e4]; exact K3.ofr (T3.sa (by omega))
        rw [← e4] at T4 F4
        clear e4
        simp only [T4.fs, true_and]
        intro h5 e5
        rw [nI_1] at e5
        obtain ⟨T5, F5⟩ := T4.put (k := 13) (x := nI (n + L.length + 1)) (a' := a) (b' := nI (nx g)) (c' := nI (n + L.length + 1)) rfl
        have K5 : Kp E h5 (r + 5) r (r + 7) g P s (ocF g P (qn g)) := by rw [e5]; exact K4.ofr T4.pa
        rw [← e5] at T5 F5
        clear e5
        refine ih h5 ⟨up2 A' 7 (n + L.length) (nI v.2.2.2), ?_, ?_, ((F'.tr F3.ft).tr F4).tr F5, K5⟩
        · rw [e2, List.length_append]; exact T5
        · rw [e2]
          obtain ⟨w1, w2, w3⟩ := W'
          refine ⟨fun j hj => by rw [up2_ne hj]; exact w1 j hj, fun i hi => by rw [up2_o (by omega)]; exact w2 i hi, fun k' hk' v' hv' => ?_⟩
          rw [List.length_append] at hk'
          have : [v].length = 1 := rfl
          by_cases z : k' = L.length
          · subst z
            rw [up2_at]
            rw [List.getElem?_append_right (Nat.le_refl _), Nat.sub_self] at hv'
            simp at hv'
            rw [hv']
          · rw [up2_o (by omega)]
            rw [List.getElem?_append_left (by omega)] at hv'
            exact w3 k' (by omega) v' hv'
    · refine k50 _ _ _ _ _ ?_
      obtain ⟨A', T', -⟩ := id hS
      simp only [vcX6_writeSteps_50, T'.fs, true_and, T'.2.2.1.1.fs]
      refine ⟨fun _ => by rw [nI_1]; exact hend h' hS, fun q => absurd (nI_le (Nat.le_refl _) (by omega)) q⟩
  have re : roy g s ≤ eom g s ∧ eom g s ≤ qn g := by
    have hb2 := w.2.2.2.2.2.2.2.2.1
    have : s = 0 ∨ s = 1 := by omega
    unfold roy eom
    rcases this with rfl | rfl <;> simp <;> omega
  have outer : ∀ m, roy g s ≤ m → m ≤ eom g s → ∀ h', S h' (mvA g P s m) → K21 t (nI s) (nI m) h' := fun m h0 hm => by
    refine lp_up (K := fun m => roy g s ≤ m → ∀ h', S h' (mvA g P s m) → K21 t (nI s) (nI m) h') (eom g s) (fun m hm ih h0 h' hS => ?_) (fun h0 h' hS => ?_) m hm h0
    · refine k21 _ _ _ _ ?_
      obtain ⟨A', T', W', F', K'⟩ := id hS
      simp only [vcX6_writeSteps_21, T'.fs, true_and]
      have h1 : iof g m s = true := (iof_r w hs (by omega)).mpr ⟨h0, hm⟩
      refine c_endOfMen T'.2.2.1.1 (by omega) ?_
      rw [nI_leI (by omega) (by omega)]
      refine ⟨fun q => absurd q (by omega), fun _ => ?_⟩
      simp only [T'.fs, true_and]
      refine c_isOnBoard K' w (by omega) (bI_c' (fun q => ?_) (fun q => ?_))
      · have q : ¬ P m < sq g := by simpa using q
        rw [nI_1]
        refine ih (by omega) h' ?_
        have : mvA g P s (m + 1) = mvA g P s m := by
          rw [mvA_succ]
          unfold mvM
          rw [if_neg (by simp [q]), List.append_nil]
        rw [this]; exact hS
      · have q : P m < sq g := by simpa using q
        refine inner m (by omega) h1 q (fun h2 hS2 => ih (by omega) h2 ?_) 0 (Nat.zero_le _) h' ?_
        · have : mvA g P s (m + 1) = mvA g P s m ++ mvR g P s m (sq g) := by
            rw [mvA_succ]
            unfold mvM
            rw [if_pos (by simp [q, h1])]
          rw [this]; exact hS2
        · have : mvR g P s m 0 = [] := by simp [mvR]
          rw [this, List.append_nil]; exact hS
    · refine k21 _ _ _ _ ?_
      obtain ⟨A', T', W', F', K'⟩ := hS
      simp only [vcX6_writeSteps_21, T'.fs, true_and]
      refine c_endOfMen T'.2.2.1.1 (by omega) ⟨fun _ => ?_, fun q => absurd (nI_le (Nat.le_refl _) (by omega)) q⟩
      have : mvA g P s (qn g) = mvA g P s (eom g s) := by
        have := mvA_end (g := g) (P := P) (s := s) (n := eom g s) (qn g - eom g s) (fun m h1 h2 => by
          rw [Bool.eq_false_iff]
          intro q
          have := (iof_r w hs (show m < qn g by omega)).mp q
          omega)
        rw [show eom g s + (qn g - eom g s) = qn g by omega] at this
        exact this
      rw [← this] at T' W'
      exact hq h' A' T' F' W'
  obtain ⟨P0, s0, o0, K0⟩ := T.2.2.2.1
  simp only [vcX6_writeSteps_0, T.fs, true_and]
  refine c_read K0 w hx (fun h1 K1 F1 => ?_)
  have T1 := T.sp K1 F1
  simp only [T1.fs, true_and]
  rw [n_lit1, nx_and, Nat.and_one_is_mod, ← hse]
  rw [← hse, ← hPe, oc3 w (by rw [hPe]; exact hC)] at K1
  refine c_firstMan T1.2.2.1.1 (by omega) (outer (roy g s) (Nat.le_refl _) re.1 h1 ⟨A, ?_, ?_, F1.ft, K1⟩)
  · rw [mvA_pre (roy g s) (fun m hm => by
      rw [Bool.eq_false_iff]
      intro q
      have := (iof_r w hs (show m < qn g by omega)).mp q
      omega)]
    exact T1
  · rw [mvA_pre (roy g s) (fun m hm => by
      rw [Bool.eq_false_iff]
      intro q
      have := (iof_r w hs (show m < qn g by omega)).mp q
      omega)]
    exact ⟨fun _ _ => rfl, fun _ _ => rfl, fun k hk => absurd hk (Nat.not_lt_zero _)⟩
end
