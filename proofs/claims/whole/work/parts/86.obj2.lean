section
variable {g : Gm}
theorem man10 (w : qF g) (x : Int32) : (btw 10 (nI (9 + qn g)) x = false ∧ isM g (x - 10) = false) ∨ ∃ m, m < qn g ∧ x = nI (m + 10) := by
  have hn : qn g ≤ 3 := w.2.2.2.2.2.2.1
  by_cases h : isM g (x - 10) = true
  · right
    obtain ⟨m, hm, e⟩ := isM_in w h
    refine ⟨m, hm, ?_⟩
    have : x = x - 10 + 10 := by rw [Int32.sub_add_cancel]
    rw [this, e, show (10 : Int32) = nI 10 from rfl, nI_add]
  · by_cases h2 : btw 10 (nI (9 + qn g)) x = true
    · right
      unfold btw at h2
      rw [decide_eq_true_eq] at h2
      rcases pk_ix x (show 10 + qn g < 2 ^ 31 by omega) with q | q | ⟨j, q1, q2⟩
      · exact absurd (Int32.lt_of_lt_of_le q (Int32.le_trans (by decide) h2.1)) (Int32.lt_irrefl)
      · have := Int32.le_trans q h2.2
        rw [nI_leI (by omega) (by omega)] at this
        omega
      · have : 10 ≤ j := by
          have := h2.1
          rw [q2, show (10 : Int32) = nI 10 from rfl, nI_leI (by omega) (by omega)] at this
          exact this
        exact ⟨j - 10, by omega, by rw [q2, Nat.sub_add_cancel this]⟩
    · exact Or.inl ⟨by simpa using h2, by simpa using h⟩
theorem man10_y (w : qF g) {m : Nat} (hm : m < qn g) : btw 10 (nI (9 + qn g)) (nI (m + 10)) = true ∧ nI (m + 10) - 10 = nI m ∧ (nI (m + 10)).toNatClampNeg - 10 = m := by
  have hn : qn g ≤ 3 := w.2.2.2.2.2.2.1
  refine ⟨?_, ?_, ?_⟩
  · unfold btw
    exact decide_eq_true ⟨nI_le (a := 10) (b := m + 10) (by omega) (by omega), nI_le (by omega) (by omega)⟩
  · rw [show (10 : Int32) = nI 10 from rfl, n_sub (by omega), Nat.add_sub_cancel]
  · rw [n_cl]; omega
theorem syL_cN : ∀ n, (syL g n).length = cN (isSy g) n
  | 0 => rfl
  | n + 1 => by
    rw [syL_succ, List.length_append, syL_cN n, cN]
    split <;> rfl
theorem gmA_lo (w : qF g) {x : Int32} (h : ¬ (10 : Int32) ≤ x) : gmA g x = if x = 7 then nI (cN (isSy g) 8) else if x = 8 then nI (cN (Ps g) (nx g)) else if btw 0 6 x = true then (if x = 0 then nI (qw g) else if x = 1 then nI (qh g) else if x = 2 then nI (qn g) else if x = 3 then nI (qb g) else if x = 4 then nI (qo g) else if x = 5 then qs g else ql g) else -1 := by
  have : btw 10 (nI (9 + qn g)) x = false := by unfold btw; exact decide_eq_false (fun q => h q.1)
  unfold gmA; rw [this, if_neg (by decide)]
end
section
variable {E : Wd} {h h' : Hp} {O M t r n : Nat} {s : Sg} {c c1 c2 : Sl} {bt bk : Option Bool} {g : Gm} {A A' : Nat → Nat → Int32} {d : Nat}
theorem CT.cs (C : CT E h O M s c1 c2 bt bk) : CS E h O M s (tn c1 + tn c2) := ⟨c1, c2, bt, bk, C, rfl⟩
theorem CT.fp (C : CT E h O M s c1 c2 bt bk) : isO h O 7 ∧ okA h O 7 0 ∧ vA (hF h O 0) = O + 1 ∧ okI h O 7 1 ∧ okP h O 7 1 ∧ vI (hF h O 1) = nI (sL s) ∧ okN h O 7 4 ∧ okA h O 7 6 ∧ vA (hF h O 6) = O + 2 ∧ okA h O 7 7 ∧ vA (hF h O 7) = O + 4 ∧ okI h O 7 8 ∧ okP h O 7 8 ∧ vI (hF h O 8) = bI (sK s).isSome ∧ isO h (O + 2) 0 ∧ isO h (O + 4) 0 := by
  have F := C.fs
  simp only [F, true_and, and_true]
/-- where a position is on the board -/
theorem CT.pl (C : CT E h O M s c1 c2 bt bk) (hn : pN (sP s) ≠ 0) : ∃ g, sG s = some g ∧ Ps g (pHe (sP s)) = true ∧ (∀ k, k < pN (sP s) → Ps g (pP (sP s) k) = true) ∧ ∀ k, 0 < k → k < pN (sP s) → pC (sP s) k = decide (ms g (plc g (pP (sP s) (k - 1))) < ms g (plc g (pP (sP s) k))) := by
  obtain ⟨p1, p2⟩ := C.2.2.2.2.2.1
  cases hg : sG s with
  | none => exact absurd (p1 hg) hn
  | some g =>
    obtain ⟨q1, q2⟩ := p2 g hg
    exact ⟨g, rfl, q1 _ (by omega), q1, q2⟩
theorem c_isPlaying {Q : Int32 → Hp → Prop} (C : CT E h O M s c1 c2 bt bk) (hq : Q (bI (decide (pN (sP s) ≠ 0))) h) : OkI E YX7_isPlaying (d + 1) [.ref O] h Q := by
  refine rnX7_isPlaying ?_
  cases hg : sG s with
  | none =>
    have n4 := (C.notb hg).2
    have p0 := C.2.2.2.2.2.1.1 hg
    simp only [vcX7_isPlaying_0, C.fp, true_and, n4]
    rw [p0, decide_eq_false (by simp)] at hq
    exact ⟨fun _ => ⟨Or.inl rfl, hq⟩, fun z hz => by cases hz⟩
  | some g =>
    obtain ⟨b, t, r, A, hbt, hp, T, w, v, bd, o4, a4, n4⟩ := C.tb hg
    simp only [vcX7_isPlaying_0, C.fp, true_and, n4]
    refine ⟨fun q => (by cases q), fun z hz => ?_⟩
    refine c_hasPosition C.2.2.1 (bI_c (fun q => ⟨Or.inl rfl, ?_⟩) (fun q => ⟨Or.inr rfl, ?_⟩))
    · rw [q] at hq; exact hq
    · rw [q] at hq; exact hq
theorem c_isByte {Q : Int32 → Hp → Prop} {x : Int32} (hq : Q (bI (byB x)) h) : OkI E YX7_isByte d [.int x] h Q := by
  refine rnX7_isByte ?_
  unfold byB btw at hq
  refine ⟨fun q => ⟨Or.inl rfl, ?_⟩, fun q => ⟨fun q2 => ⟨Or.inl rfl, ?_⟩, fun q2 => ⟨Or.inr rfl, ?_⟩⟩⟩
  · rw [decide_eq_false (fun z => absurd z.1 (Int32.not_le.mpr q))] at hq; exact hq
  · rw [decide_eq_false (fun z => absurd z.2 (Int32.not_le.mpr q2))] at hq; exact hq
  · rw [decide_eq_true ⟨Int32.not_lt.mp q, Int32.not_lt.mp q2⟩] at hq; exact hq
def sgT (s : Sg) (L : Nat) (B : Nat → Nat) : Sg := (L, B, sG s, sP s, sK s)
theorem c_append {Q : Hp → Prop} {x : Nat} (C : CT E h O M s c1 c2 bt bk) (hL : sL s < 40) (hx : x < 128) (hq : ∀ h' B', CT E h' O M (sgT s (sL s + 1) B') c1 c2 bt bk → FQ M h h' → (∀ i, B' i = if i = sL s then x else sB s i) → Q h') : OkV E YX7_append d [.ref O, .int (nI x)] h Q := by
  refine rnX7_append ?_
  obtain ⟨k1, ⟨t1, T, t2, t3⟩, k3, ⟨k4, k5⟩, k6, k7, k8, k9, k10, k11, k12⟩ := id C
  have l1 : okL E h (O + 1) 0 ∧ lA h (O + 1) = nI 40 := ⟨⟨_, t2⟩, by simp [lA, t2, nI]⟩
  simp only [vcX7_append_0, C.fp, true_and, l1, nI_ltI (show sL s < 2 ^ 31 by omega) (show 40 < 2 ^ 31 by omega)]
  refine ⟨fun q => absurd q (nI_pos (by omega)), fun _ => ⟨fun _ => ⟨⟨_, _, t2, vpn hL⟩, fun h1 e1 => ?_⟩, fun q => absurd hL q⟩⟩
  have z1 : h1.2 (O + 1) = some (.inl (eA E 0, 40, .inl (upd T (sL s) (nI x)))) := by
    rw [e1]
    have := sA_of (i := nI (sL s)) (x := nI x) t2
    rw [n_cl] at this; exact this
  have z2 : ∀ a, a ≠ O + 1 → h1.2 a = h.2 a := fun a ha => by rw [e1]; simp [sA, ha]
  have z3 : h1.1 = h.1 := by rw [e1]; rfl
  clear e1
  have z0 := (z2 O (by omega)).trans k1
  refine ⟨⟨_, _, z0, rfl⟩, ⟨_, z0, Nat.le_of_ble_eq_true rfl⟩, fun h2 e2 => ?_⟩
  rw [show fI h1 O 1 = nI (sL s) by show vI (hF h1 O 1) = _; rw [hF_of z0 rfl]; rfl, nI_1] at e2
  have y0 : h2.2 O = some (.inr (7, objf O (sL s + 1) (slA c1) (slA c2) (slA (pick c1 c2 bt)) (slA (pick c1 c2 bk)) (sK s).isSome)) := by rw [e2]; simp [pF, z0]; rfl
  have y2 : ∀ a, a ≠ O → h2.2 a = h1.2 a := fun a ha => by rw [e2]; simp [pF, ha]
  have y3 : h2.1 = h.1 := by rw [e2]; exact z3
  clear e2
  have e : ∀ a, a ≠ O → a ≠ O + 1 → h2.2 a = h.2 a := fun a h1 h2 => (y2 a h1).trans (z2 a h2)
  refine hq h2 (fun i => if i = sL s then x else sB s i) ⟨y0, ⟨by show sL s + 1 ≤ 40; omega, upd T (sL s) (nI x), by rw [y2 _ (by omega)]; exact z1, fun i hi => ?_⟩, k3.of (e _ (by omega) (by omega)) (e _ (by omega) (by omega)), ⟨k4.of (fun a ha => by have := k10 a (Or.inl ha); exact e _ (by omega) (by omega)), k5.of (fun a ha => by have := k10 a (Or.inr ha); exact e _ (by omega) (by omega))⟩, k6, k7, k8.of (e _ (by omega) (by omega)) (e _ (by omega) (by omega)), k9, k10, fun a ha => ⟨by rw [y3]; exact (k11 a ha).1, (k11 a ha).2⟩, by rw [y3]; exact k12⟩ ⟨Nat.le_of_eq y3.symm, fun a h1 h2 => ?_⟩ (fun _ => rfl)
  · have hi : i < sL s + 1 := hi
    show upd T (sL s) (nI x) i = nI (if i = sL s then x else sB s i) ∧ (if i = sL s then x else sB s i) < 128
    by_cases z : i = sL s
    · subst z; simp [upd, hx]
    · simp only [upd, z, if_false]; exact t3 i (by omega)
  · have q2 := (k11 O (Or.inl ⟨by omega, by omega⟩)).2
    have q3 := (k11 (O + 1) (Or.inl ⟨by omega, by omega⟩)).2
    exact e a (fun z => q2 (by omega)) (fun z => q3 (by omega))
end
