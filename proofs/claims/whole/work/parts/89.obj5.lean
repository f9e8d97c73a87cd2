section
variable {g : Gm}
theorem zg_neg {i : Int32} (hi : i < 0) : ∀ N, N < 2 ^ 31 → zgF g i N = -1
  | 0, _ => rfl
  | N + 1, hN => by
    rw [zgF, zg_neg hi N (by omega)]
    have hle : zgC g N ≤ N := cN_le _ _
    have : (nI (zgC g N) == i) = false := by
      rw [Bool.eq_false_iff]
      intro z
      rw [← beq_iff_eq.mp z] at hi
      exact nI_pos (by omega) hi
    rw [this, Bool.and_false, if_neg (by decide)]
theorem btw_no {a b x : Int32} (h : x < a ∨ b < x) : btw a b x = false := by
  unfold btw
  refine decide_eq_false (fun q => ?_)
  rcases h with h | h
  · exact absurd q.1 (Int32.not_le.mpr h)
  · exact absurd q.2 (Int32.not_le.mpr h)
theorem btw_yes {a b x : Int32} (h1 : ¬ x < a) (h2 : ¬ b < x) : btw a b x = true := by
  unfold btw
  exact decide_eq_true ⟨Int32.not_lt.mp h1, Int32.not_lt.mp h2⟩
end
section
variable {E : Wd} {h h' : Hp} {O M t r n : Nat} {s : Sg} {c c1 c2 : Sl} {bt bk : Option Bool} {g : Gm} {A A' : Nat → Nat → Int32} {d : Nat}
theorem c_positions {Q : Int32 → Hp → Prop} {a v c' : Int32} (C : CT E h O M s c1 c2 bt bk) (hq : Q (sPos s a v c') h) : OkI E YX7_positions (d + 3) [.ref O, .int a, .int v, .int c'] h Q := by
  refine rnX7_positions ?_
  unfold sPos at hq
  cases hg : sG s with
  | none =>
    have n4 := (C.notb hg).2
    rw [hg] at hq
    simp only [vcX7_positions_0, C.fp, true_and, n4]
    exact ⟨fun z hz => (by cases hz), fun _ => hq⟩
  | some g =>
    obtain ⟨b0, t, r, A, hbt, hp, T, w, v', bd, o4, a4, n4⟩ := C.tb hg
    rw [hg] at hq
    simp only at hq
    simp only [vcX7_positions_0, C.fp, true_and, n4, o4, a4, T.1.fs]
    have bad : (btw 0 1 a && btw (-1) 1 v && btw 0 2 c') = false → Q (-1) h := fun z => by rw [z, if_neg (by decide)] at hq; exact hq
    refine ⟨fun z hz => ⟨fun z => bad (by rw [btw_no (Or.inl z)]; rfl), fun y1 => ⟨fun z => bad (by rw [btw_no (Or.inr z)]; rfl), fun y2 => ⟨fun z => bad (by rw [btw_no (a := -1) (Or.inl z)]; simp), fun y3 => ⟨fun y4 => ⟨fun z => bad (by rw [btw_no (a := 0) (b := 2) (Or.inl z)]; simp), fun y5 => ⟨fun y6 => ?_, fun z => bad (by rw [btw_no (a := 0) (b := 2) (Or.inr (Int32.not_le.mp z))]; simp)⟩⟩, fun z => bad (by rw [btw_no (a := -1) (Or.inr (Int32.not_le.mp z))]; simp)⟩⟩⟩⟩, fun z => by cases z⟩
    have ba := btw_yes y1 y2
    have bc := btw_yes y5 (Int32.not_lt.mpr y6)
    rw [ba, btw_yes y3 (Int32.not_lt.mpr y4), bc, if_pos (by decide)] at hq
    obtain ⟨j, hj, ej⟩ := btw_in (b := 2) (by omega) ba
    obtain ⟨k, hk, ek⟩ := btw_in (b := 3) (by omega) bc
    subst ej
    rw [n_cl] at hq
    refine c_numberWithValue T w hj ?_ hq
    rw [ek]
    have : k = 0 ∨ k = 1 ∨ k = 2 := by omega
    rcases this with rfl | rfl | rfl
    · exact Or.inl rfl
    · exact Or.inr (Or.inl rfl)
    · exact Or.inr (Or.inr rfl)
theorem c_spread {Q : Int32 → Hp → Prop} {k a l : Int32} (C : CT E h O M s c1 c2 bt bk) (hq : Q (sSpr s k a l) h) : OkI E YX7_spread (d + 4) [.ref O, .int k, .int a, .int l] h Q := by
  refine rnX7_spread ?_
  unfold sSpr at hq
  cases hg : sG s with
  | none =>
    have n4 := (C.notb hg).2
    rw [hg] at hq
    simp only [vcX7_spread_0, C.fp, true_and, n4]
    exact ⟨fun z hz => (by cases hz), fun _ => hq⟩
  | some g =>
    obtain ⟨b0, t, r, A, hbt, hp, T, w, v', bd, o4, a4, n4⟩ := C.tb hg
    rw [hg] at hq
    simp only at hq
    simp only [vcX7_spread_0, C.fp, true_and, n4, o4, a4, T.1.fs]
    have bad : (btw 0 1 k && btw 0 1 a) = false → Q (-1) h := fun z => by rw [z, if_neg (by decide)] at hq; exact hq
    refine ⟨fun z hz => ⟨fun z => bad (by rw [btw_no (Or.inl z)]; rfl), fun y1 => ⟨fun z => bad (by rw [btw_no (Or.inr z)]; rfl), fun y2 => ⟨fun z => bad (by rw [btw_no (x := a) (Or.inl z)]; simp), fun y3 => ⟨fun y4 => ?_, fun z => bad (by rw [btw_no (x := a) (Or.inr (Int32.not_le.mp z))]; simp)⟩⟩⟩⟩, fun z => by cases z⟩
    have ba := btw_yes y3 (Int32.not_lt.mpr y4)
    rw [ba, btw_yes y1 y2, if_pos (by decide)] at hq
    obtain ⟨j, hj, ej⟩ := btw_in (b := 2) (by omega) ba
    subst ej
    rw [n_cl] at hq
    refine ⟨fun z => ?_, fun z => ?_⟩
    · rw [if_pos z] at hq; exact c_numberWithDistance T w hj hq
    · rw [if_neg z] at hq; exact hq
theorem c_longest {Q : Int32 → Hp → Prop} {k x : Int32} (C : CT E h O M s c1 c2 bt bk) (hq : Q (sLon s k x) h) : OkI E YX7_longest (d + 4) [.ref O, .int k, .int x] h Q := by
  refine rnX7_longest ?_
  unfold sLon at hq
  cases hg : sG s with
  | none =>
    have n4 := (C.notb hg).2
    rw [hg] at hq
    simp only [vcX7_longest_0, C.fp, true_and, n4]
    exact ⟨fun z hz => (by cases hz), fun _ => hq⟩
  | some g =>
    obtain ⟨b0, t, r, A, hbt, hp, T, w, v', bd, o4, a4, n4⟩ := C.tb hg
    rw [hg] at hq
    simp only at hq
    have hnx := nx_le w
    simp only [vcX7_longest_0, C.fp, true_and, n4, o4, a4, T.1.fs]
    have bad : (btw 0 1 k && btw 0 1 x) = false → Q (-1) h := fun z => by rw [z, if_neg (by decide)] at hq; exact hq
    refine ⟨fun z hz => ⟨fun z => bad (by rw [btw_no (Or.inl z)]; rfl), fun y1 => ⟨fun z => bad (by rw [btw_no (Or.inr z)]; rfl), fun y2 => ⟨fun z => bad (by rw [btw_no (x := x) (Or.inl z)]; simp), fun y3 => ⟨fun y4 => ?_, fun z => bad (by rw [btw_no (x := x) (Or.inr (Int32.not_le.mp z))]; simp)⟩⟩⟩⟩, fun z => by cases z⟩
    have bx := btw_yes y3 (Int32.not_lt.mpr y4)
    rw [bx, btw_yes y1 y2, if_pos (by decide)] at hq
    refine c_mostDistant T w v' (fun i y hR => ?_)
    rcases hR with ⟨z1, z2, -⟩ | ⟨i', hi', z1, z2, z3, z4⟩
    · rw [z1] at hq
      rw [z2]
      refine ⟨fun z => absurd z (by decide), fun _ => ?_⟩
      by_cases z : x = 0
      · rw [if_pos z] at hq; exact hq
      · rw [if_neg z] at hq; exact hq
    · rw [z1] at hq
      rw [z3]
      refine ⟨fun _ => ⟨fun z => ?_, fun z => ?_⟩, fun z => absurd (nI_pos' (by omega)) z⟩
      · have x0 : x = 0 := by
          obtain ⟨j, hj, ej⟩ := btw_in (b := 2) (by omega) bx
          rw [ej] at z ⊢
          have : j = 0 ∨ j = 1 := by omega
          rcases this with rfl | rfl
          · rfl
          · exact absurd rfl z
        rw [if_pos x0] at hq
        simp only [C.fp, true_and, o4, a4, T.1.fs]
        exact c_distanceOf T.1 T.2.2 w hi' hq
      · rw [if_neg (by rw [z]; decide)] at hq; exact hq
theorem c_zugzwang {Q : Int32 → Hp → Prop} {x : Int32} (C : CT E h O M s c1 c2 bt bk) (hq : Q (sZug s x) h) : OkI E YX7_zugzwang (d + 4) [.ref O, .int x] h Q := by
  refine rnX7_zugzwang ?_
  unfold sZug at hq
  cases hg : sG s with
  | none =>
    have n4 := (C.notb hg).2
    rw [hg] at hq
    simp only [vcX7_zugzwang_0, C.fp, true_and, n4]
    exact ⟨fun z hz => (by cases hz), fun _ => hq⟩
  | some g =>
    obtain ⟨b0, t, r, A, hbt, hp, T, w, v', bd, o4, a4, n4⟩ := C.tb hg
    rw [hg] at hq
    simp only at hq
    have hnx := nx_le w
    simp only [vcX7_zugzwang_0, C.fp, true_and, n4, o4, a4, T.1.fs]
    refine ⟨fun z hz => ⟨fun y1 => ⟨fun y2 => ?_, fun y2 => ?_⟩, fun y1 => ?_⟩, fun z => by cases z⟩
    · rw [if_neg y2] at hq
      have h0 : ¬ x < 0 := fun y => by
        have y5 : x.toInt < 0 := Int32.lt_iff_toInt_lt.mp y
        have y6 : (-1 : Int32).toInt ≤ x.toInt := Int32.le_iff_toInt_le.mp y1
        rw [show (-1 : Int32).toInt = -1 from rfl] at y6
        have : x.toInt = (-1 : Int32).toInt := by rw [show (-1 : Int32).toInt = -1 from rfl]; omega
        exact absurd (Int32.toInt_inj.mp this) y2
      obtain ⟨i, hi, e⟩ := nI_of h0
      subst e
      exact c_mutualZugzwang T w hi hq
    · rw [if_pos y2] at hq
      exact c_mutualZugzwangs T w hq
    · have h0 : x < 0 := Int32.lt_of_lt_of_le (Int32.not_le.mp y1) (by decide)
      rw [if_neg (fun y => y1 (by rw [y]; decide)), zg_neg h0 _ (by omega)] at hq
      exact hq
theorem c_unlike {Q : Int32 → Hp → Prop} (C : CT E h O M s c1 c2 bt bk) (hq : ∀ h', CT E h' O M s c1 c2 bt bk → FQ M h h' → Q (sUnl s) h') : OkI E YX7_unlike (d + 8) [.ref O] h Q := by
  refine rnX7_unlike ⟨⟨_, C.1⟩, c_isPlaying C ?_⟩
  unfold sUnl at hq
  have h0 := hq h C (FQ.rfl M h)
  refine pN_c' (fun q => ?_) (fun q => ?_)
  · cases hg : sG s with
    | none => rw [hg] at h0; exact h0
    | some g => rw [hg] at h0; simp only [q, if_true] at h0; exact h0
  · obtain ⟨g, hg, hP, -⟩ := C.pl q
    obtain ⟨b0, t, r, A, hbt, hp, T, w, v, bd, o4, a4, n4⟩ := C.tb hg
    rw [hg] at hq
    simp only [q, if_false] at hq
    simp only [C.fp, true_and, o4, a4, T.1.fs]
    refine c_present C.2.2.1 q ⟨⟨_, T.1.1⟩, c_unlikeImages T w v bd hP (fun h2 T2 F2 => ?_)⟩
    rw [hbt] at C
    obtain ⟨C2, Fq⟩ := C.ft hp T2 F2
    exact hq h2 (by rw [hbt]; exact C2) Fq
/-- the object's own fields and its plays have changed, no table -/
theorem CT.obj {s' : Sg} {bt' bk' : Option Bool} (C : CT E h O M s c1 c2 bt bk) (e : ∀ a, a ≠ O → (a < O + 2 ∨ O + 6 ≤ a) → h'.2 a = h.2 a) (hs : h'.1 = h.1) (k1 : h'.2 O = some (.inr (7, objf O (sL s') (slA c1) (slA c2) (slA (pick c1 c2 bt')) (slA (pick c1 c2 bk')) (sK s').isSome))) (kL : sL s' = sL s ∧ sB s' = sB s) (k3 : Ky E h' (O + 2) (sP s')) (k6 : sG s' = slG (pick c1 c2 bt') ∧ (bt'.isSome = true → (sG s').isSome = true)) (k7 : PV (sG s') (sP s')) (k8 : KPV E h' O c1 c2 bk' (sK s')) : CT E h' O M s' c1 c2 bt' bk' ∧ FQ M h h' := by
  obtain ⟨-, k2, -, ⟨k4, k5⟩, -, -, -, k9, k10, k11, k12⟩ := C
  refine ⟨⟨k1, by rw [kL.1, kL.2]; exact k2.of (e _ (by omega) (by omega)), k3, ⟨k4.of (fun a ha => by have := k10 a (Or.inl ha); exact e a (by omega) (by omega)), k5.of (fun a ha => by have := k10 a (Or.inr ha); exact e a (by omega) (by omega))⟩, k6, k7, k8, k9, k10, fun a ha => ⟨by rw [hs]; exact (k11 a ha).1, (k11 a ha).2⟩, by rw [hs]; exact k12⟩, Nat.le_of_eq hs.symm, fun a h1 h2 => ?_⟩
  have no : ∀ j, j < 6 → a ≠ O + j := fun j hj z => (k11 (O + j) (Or.inl ⟨by omega, by omega⟩)).2 (by omega)
  refine e a (no 0 (by omega)) ?_
  have n2 := no 2 (by omega)
  have n3 := no 3 (by omega)
  have n4 := no 4 (by omega)
  have n5 := no 5 (by omega)
  omega
theorem c_image {Q : Int32 → Hp → Prop} (C : CT E h O M s c1 c2 bt bk) (hq : ∀ h' bk', CT E h' O M (sIm s).1 c1 c2 bt bk' → FQ M h h' → Q (sIm s).2 h') : OkI E YX7_image (d + 2) [.ref O] h Q := by
  refine rnX7_image ?_
  have K4 : ∃ p, Ky E h (O + 4) p := by
    have := C.2.2.2.2.2.2.1
    revert this
    cases sK s with
    | none => exact fun z => z.2
    | some k => exact fun z => ⟨_, z.2.2.1⟩
  obtain ⟨p4, K4⟩ := K4
  have e0 := C.1
  refine ⟨⟨_, e0, Nat.le_of_ble_eq_true rfl⟩, Or.inr rfl, fun h1 e1 => ?_⟩
  have z1 : h1.2 O = some (.inr (7, objf O (sL s) (slA c1) (slA c2) (slA (pick c1 c2 bt)) (slA (pick c1 c2 bk)) true)) := by rw [e1]; simp [pF, e0]; rfl
  have z2 : ∀ a, a ≠ O → h1.2 a = h.2 a := fun a ha => by rw [e1]; simp [pF, ha]
  have z3 : h1.1 = h.1 := by rw [e1]; rfl
  clear e1
  refine ⟨⟨_, _, z1, rfl⟩, ⟨_, z1, Nat.le_of_ble_eq_true rfl⟩, fun h2 e2 => ?_⟩
  rw [show fN h1 O 4 = slA (pick c1 c2 bt) by show vN (hF h1 O 4) = _; rw [hF_of z1 rfl, vN_rf]] at e2
  have y1 : h2.2 O = some (.inr (7, objf O (sL s) (slA c1) (slA c2) (slA (pick c1 c2 bt)) (slA (pick c1 c2 bt)) true)) := by rw [e2]; simp [pF, z1]; rfl
  have y2 : ∀ a, a ≠ O → h2.2 a = h.2 a := fun a ha => by rw [e2]; simp [pF, ha, z2 a ha]
  have y3 : h2.1 = h.1 := by rw [e2]; exact z3
  clear e2
  have Ka : Ky E h2 (O + 4) p4 := K4.of (y2 _ (by omega)) (y2 _ (by omega))
  have Kb : Ky E h2 (O + 2) (sP s) := C.2.2.1.of (y2 _ (by omega)) (y2 _ (by omega))
  refine ⟨⟨_, _, y1, rfl⟩, ⟨_, _, y1, rfl⟩, ?_⟩
  rw [show fA h2 O 7 = O + 4 by show vA (hF h2 O 7) = _; rw [hF_of y1 rfl]; rfl, show fA h2 O 6 = O + 2 by show vA (hF h2 O 6) = _; rw [hF_of y1 rfl]; rfl]
  refine ⟨⟨_, Ka.2.1⟩, c_copy Ka Kb (Or.inr (Nat.le_refl _)) (fun h3 K3 F3 => ?_)⟩
  have x1 := (F3.2 O (by omega) (by omega)).trans y1
  obtain ⟨C3, Fq⟩ := C.obj (h' := h3) (s' := (sIm s).1) (bt' := bt) (bk' := bt) (fun a h1 h2 => by rw [F3.2 a (by omega) (by omega), y2 a h1]) (by rw [F3.1, y3]) x1 ⟨rfl, rfl⟩ (Kb.of (F3.2 _ (by omega) (by omega)) (F3.2 _ (by omega) (by omega))) C.2.2.2.2.1 C.2.2.2.2.2.1 ⟨C.2.2.2.2.1.1, C.2.2.2.2.1.2, K3, C.2.2.2.2.2.1⟩
  have qq := hq h3 bt C3 Fq
  unfold sIm at qq
  cases hg : sG s with
  | none =>
    have n4 := (C3.notb hg).2
    rw [hg] at qq
    simp only [C3.fp, true_and, n4]
    exact ⟨fun z hz => (by cases hz), fun _ => qq⟩
  | some g =>
    obtain ⟨b0, t, r, A, hbt, hp, T, w, v, bd, o4, a4, n4⟩ := C3.tb (g := g) hg
    rw [hg] at qq
    simp only [C3.fp, true_and, n4]
    exact ⟨fun z hz => qq, fun z => by cases z⟩
theorem c_undo {Q : Int32 → Hp → Prop} (C : CT E h O M s c1 c2 bt bk) (hq : ∀ h' bt', CT E h' O M (sUn s).1 c1 c2 bt' bk → FQ M h h' → Q (sUn s).2 h') : OkI E YX7_undo (d + 2) [.ref O] h Q := by
  refine rnX7_undo ?_
  have e0 := C.1
  simp only [vcX7_undo_0, C.fp, true_and]
  unfold sUn at hq
  have kk := C.2.2.2.2.2.2.1
  cases hk : sK s with
  | none =>
    rw [hk] at hq
    exact ⟨fun z => absurd rfl z, fun _ => hq h bt C (FQ.rfl M h)⟩
  | some k =>
    rw [hk] at hq kk
    obtain ⟨q1, q2, q3, q4⟩ := kk
    refine ⟨fun _ => ⟨⟨_, _, e0, rfl⟩, ⟨_, e0, Nat.le_of_ble_eq_true rfl⟩, fun h1 e1 => ?_⟩, fun z => absurd (show (1 : Int32) = 0 from z) (by decide)⟩
    rw [show fN h O 5 = slA (pick c1 c2 bk) by show vN (hF h O 5) = _; rw [hF_of e0 rfl, vN_rf]] at e1
    have z1 : h1.2 O = some (.inr (7, objf O (sL s) (slA c1) (slA c2) (slA (pick c1 c2 bk)) (slA (pick c1 c2 bk)) (sK s).isSome)) := by rw [e1]; simp [pF, e0]; rfl
    have z2 : ∀ a, a ≠ O → h1.2 a = h.2 a := fun a ha => by rw [e1]; simp [pF, ha]
    have z3 : h1.1 = h.1 := by rw [e1]; rfl
    clear e1
    have Ka : Ky E h1 (O + 4) k.2 := q3.of (z2 _ (by omega)) (z2 _ (by omega))
    have Kb : Ky E h1 (O + 2) (sP s) := C.2.2.1.of (z2 _ (by omega)) (z2 _ (by omega))
    refine ⟨⟨_, _, z1, rfl⟩, ⟨_, _, z1, rfl⟩, ?_⟩
    rw [show fA h1 O 7 = O + 4 by show vA (hF h1 O 7) = _; rw [hF_of z1 rfl]; rfl, show fA h1 O 6 = O + 2 by show vA (hF h1 O 6) = _; rw [hF_of z1 rfl]; rfl]
    refine ⟨⟨_, Kb.2.1⟩, c_copy Kb Ka (Or.inl (Nat.le_refl _)) (fun h3 K3 F3 => ?_)⟩
    have x1 := (F3.2 O (by omega) (by omega)).trans z1
    obtain ⟨C3, Fq⟩ := C.obj (h' := h3) (s' := (sL s, sB s, k.1, k.2, sK s)) (bt' := bk) (bk' := bk) (fun a h1 h2 => by rw [F3.2 a (by omega) (by omega), z2 a h1]) (by rw [F3.1, z3]) x1 ⟨rfl, rfl⟩ K3 ⟨q1, q2⟩ q4 (by
      show KPV E h3 O c1 c2 bk (sK s)
      rw [hk]
      exact ⟨q1, q2, Ka.of (F3.2 _ (by omega) (by omega)) (F3.2 _ (by omega) (by omega)), q4⟩)
    have C3' := C3
    rw [hk] at C3'
    have qq := hq h3 bk C3' Fq
    cases hg : k.1 with
    | none =>
      have n4 := (C3.notb hg).2
      simp only [C3.fp, true_and, n4]
      have qq : Q (bI k.1.isSome) h3 := qq
      rw [hg] at qq
      exact ⟨fun z hz => (by cases hz), fun _ => qq⟩
    | some g =>
      obtain ⟨b0, t, r, A, hbt, hp, T, w, v, bd, o4, a4, n4⟩ := C3.tb (g := g) hg
      simp only [C3.fp, true_and, n4]
      have qq : Q (bI k.1.isSome) h3 := qq
      rw [hg] at qq
      exact ⟨fun z hz => qq, fun z => by cases z⟩
end
