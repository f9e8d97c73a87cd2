section
variable {g : Gm}
theorem ixB_btw (w : qF g) (x : Int32) : ixB g x = btw 0 (nI (nx g) - 1) x := by
  have hnx := nx_le w
  have hp := nx_pos (g := g)
  rw [Bool.eq_iff_iff]
  constructor
  · intro h
    obtain ⟨i, hi, e⟩ := ixB_in w h
    unfold btw
    rw [decide_eq_true_eq, e, show nI (nx g) - 1 = nI (nx g - 1) from n_sub (show 1 ≤ nx g by omega)]
    exact ⟨nI_pos' (by omega), nI_le (by omega) (by omega)⟩
  · intro h
    obtain ⟨i, hi, e⟩ := btw_in (by omega) h
    rw [e, ixB_n w (by omega), decide_eq_true hi]
theorem plV_eq (w : qF g) {m : Nat} {a : Int32} (h : isPc g m a = true) : (if 0 ≤ a then a else nI (sq g)) = nI (plV g a) ∧ plV g a ≤ sq g := by
  have hs := w.sq_lt
  unfold plV
  rcases isPc_in w h with ⟨e, -⟩ | ⟨j, -, hj, e, -⟩
  · rw [e, if_neg (by decide), if_neg (by decide)]; exact ⟨rfl, Nat.le_refl _⟩
  · rw [e, if_pos (nI_pos' (by omega)), if_pos (nI_pos' (by omega)), n_cl]; exact ⟨rfl, by omega⟩
end
section
variable {E : Wd} {h h' : Hp} {O M t r n : Nat} {s : Sg} {c c1 c2 : Sl} {bt bk : Option Bool} {g : Gm} {A A' : Nat → Nat → Int32} {d : Nat}
theorem CT.bytes {L : Nat} {B B' : Nat → Nat} (C : CT E h O M (sgT s L B) c1 c2 bt bk) (e : ∀ i, i < L → B' i = B i) : CT E h O M (sgT s L B') c1 c2 bt bk := by
  obtain ⟨k1, ⟨t1, T, t2, t3⟩, k3⟩ := C
  refine ⟨k1, ⟨t1, T, t2, fun i hi => ?_⟩, k3⟩
  have hi : i < L := hi
  show T i = nI (B' i) ∧ B' i < 128
  rw [e i hi]; exact t3 i hi
theorem c_feed {Q : Int32 → Hp → Prop} {x a b c' d' e : Int32} (C : CT E h O M s c1 c2 bt bk) (hq : ∀ h', CT E h' O M (sFeed s x a b c' d' e).1 c1 c2 bt bk → FQ M h h' → Q (sFeed s x a b c' d' e).2 h') : OkI E YX7_feed (d + 1) [.ref O, .int x, .int a, .int b, .int c', .int d', .int e] h Q := by
  refine rnX7_feed ?_
  have bad : (btw 1 5 x && byB a && byB b && byB c' && byB d' && byB e) = false → Q (-2) h := fun z => by
    have := hq h
    unfold sFeed at this
    rw [z, if_neg (by decide)] at this
    exact this C (FQ.rfl M h)
  refine ⟨fun q => bad ?_, fun q1 => ⟨fun q2 => ?_, fun q => bad ?_⟩⟩
  · unfold btw; rw [decide_eq_false (fun z => absurd z.1 (Int32.not_le.mpr q))]; simp
  · have hx : btw 1 5 x = true := by unfold btw; exact decide_eq_true ⟨Int32.not_lt.mp q1, q2⟩
    refine c_isByte (bI_c (fun z => bad (by rw [hx, z]; simp)) (fun za => c_isByte (bI_c (fun z => bad (by rw [hx, za, z]; simp)) (fun zb => c_isByte (bI_c (fun z => bad (by rw [hx, za, zb, z]; simp)) (fun zc => c_isByte (bI_c (fun z => bad (by rw [hx, za, zb, zc, z]; simp)) (fun zd => c_isByte (bI_c' (fun z => bad (by rw [hx, za, zb, zc, zd, z]; simp)) (fun ze => ?_))))))))))
    obtain ⟨k, hk1, hk5, ek⟩ : ∃ k, 1 ≤ k ∧ k ≤ 5 ∧ x = nI k := by
      rcases pk_ix x (show 6 < 2 ^ 31 by omega) with z | z | ⟨j, z1, z2⟩
      · exact absurd (Int32.lt_of_lt_of_le z (by decide)) q1
      · exact absurd (Int32.le_trans z q2) (by decide)
      · refine ⟨j, ?_, by omega, z2⟩
        rcases Nat.eq_zero_or_pos j with y | y
        · rw [z2, y] at q1; exact absurd (by decide) q1
        · exact y
    have hL := C.2.1.1
    simp only [C.fp, true_and]
    have hcond : (btw 1 5 x && byB a && byB b && byB c' && byB d' && byB e) = true := by rw [hx, za, zb, zc, zd, ze]; rfl
    unfold sFeed at hq
    rw [if_pos hcond] at hq
    subst ek
    rw [nI_add, show (40 : Int32) = nI 40 from rfl, nI_leI (by omega) (by omega)]
    rw [nI_add, show (40 : Int32) = nI 40 from rfl, n_cl] at hq
    simp only [nI_leI (show sL s + k < 2 ^ 31 by omega) (show 40 < 2 ^ 31 by omega)] at hq
    refine ⟨fun q3 => ?_, fun q3 => ?_⟩
    · rw [if_pos q3] at hq
      let F : Nat → Nat := fun i => if i < sL s then sB s i else (fdX a b c' d' e (i - sL s)).toNatClampNeg
      let P : Nat → Hp → Prop := fun j h' => ∃ B, CT E h' O M (sgT s (sL s + j) B) c1 c2 bt bk ∧ FQ M h h' ∧ ∀ i, i < sL s + j → B i = F i
      have byt : ∀ j, fdX a b c' d' e j = nI (fdX a b c' d' e j).toNatClampNeg ∧ (fdX a b c' d' e j).toNatClampNeg < 128 := fun j => by
        unfold fdX
        split
        · exact byB_in za
        · split
          · exact byB_in zb
          · split
            · exact byB_in zc
            · split
              · exact byB_in zd
              · exact byB_in ze
      have app : ∀ j y, y = fdX a b c' d' e j → sL s + j < 40 → ∀ (R : Hp → Prop) h', P j h' → (∀ h2, P (j + 1) h2 → R h2) → isO h' O 7 ∧ OkV E YX7_append d [.ref O, .int y] h' R := fun j y ey hj R h' hP hR => by
        obtain ⟨B, C', F', B'⟩ := hP
        obtain ⟨b1, b2⟩ := byt j
        rw [ey, b1]
        refine ⟨⟨_, C'.1⟩, c_append C' (by show sL s + j < 40; omega) b2 (fun h2 B2 C2 F2 E2 => hR h2 ⟨B2, C2, F'.tr F2, fun i hi => ?_⟩)⟩
        rw [E2]
        show (if i = sL s + j then _ else B i) = F i
        by_cases z : i = sL s + j
        · rw [if_pos z, z]
          show _ = if sL s + j < sL s then _ else _
          rw [if_neg (by omega), Nat.add_sub_cancel_left]
        · rw [if_neg z]; exact B' i (by omega)
      have fin : ∀ h', P k h' → okI h' O 7 1 ∧ Q (fI h' O 1) h' := fun h' hP => by
        obtain ⟨B, C', F', B'⟩ := hP
        simp only [C'.fp, true_and]
        exact hq h' (C'.bytes (B' := F) (fun i hi => (B' i hi).symm)) F'
      have P0 : P 0 h := ⟨sB s, C, FQ.rfl M h, fun i hi => by
        have hi : i < sL s := hi
        show _ = if i < sL s then _ else _
        rw [if_pos hi]⟩
      have v105 : ∀ h', P (min k 4) h' → vcX7_feed_105 E d O (nI k) e h' Q := fun h' hP => by
        rw [vcX7_feed_105, show (4 : Int32) = nI 4 from rfl, nI_leI (by omega) (by omega)]
        refine ⟨fun z => fin h' (by rw [Nat.min_eq_left z] at hP; exact hP), fun z => app 4 e rfl (by omega) _ h' (by rw [Nat.min_eq_right (by omega)] at hP; exact hP) (fun h2 P2 => fin h2 (by rw [show k = 4 + 1 by omega]; exact P2))⟩
      have v94 : ∀ h', P (min k 3) h' → vcX7_feed_94 E d O (nI k) d' e h' Q := fun h' hP => by
        rw [vcX7_feed_94, show (3 : Int32) = nI 3 from rfl, nI_leI (by omega) (by omega)]
        refine ⟨fun z => v105 h' (by rw [Nat.min_eq_left z] at hP; rw [Nat.min_eq_left (by omega)]; exact hP), fun z => app 3 d' rfl (by omega) _ h' (by rw [Nat.min_eq_right (by omega)] at hP; exact hP) (fun h2 P2 => v105 h2 (by rw [Nat.min_eq_right (by omega)]; exact P2))⟩
      have v83 : ∀ h', P (min k 2) h' → vcX7_feed_83 E d O (nI k) c' d' e h' Q := fun h' hP => by
        rw [vcX7_feed_83, show (2 : Int32) = nI 2 from rfl, nI_leI (by omega) (by omega)]
        refine ⟨fun z => v94 h' (by rw [Nat.min_eq_left z] at hP; rw [Nat.min_eq_left (by omega)]; exact hP), fun z => app 2 c' rfl (by omega) _ h' (by rw [Nat.min_eq_right (by omega)] at hP; exact hP) (fun h2 P2 => v94 h2 (by rw [Nat.min_eq_right (by omega)]; exact P2))⟩
      refine (app 0 a rfl (by omega) _ h P0 (fun h1 P1 => ?_)).2
      rw [show (1 : Int32) = nI 1 from rfl, nI_leI (by omega) (by omega)]
      refine ⟨fun z => v83 h1 (by rw [Nat.min_eq_left (by omega), show k = 0 + 1 by omega]; exact P1), fun z => app 1 b rfl (by omega) _ h1 P1 (fun h2 P2 => v83 h2 (by rw [Nat.min_eq_right (by omega)]; exact P2))⟩
    · rw [if_neg q3] at hq
      exact hq h C (FQ.rfl M h)
  · unfold btw; rw [decide_eq_false (fun z => absurd z.2 q)]; simp
theorem c_game {Q : Int32 → Hp → Prop} {x : Int32} (C : CT E h O M s c1 c2 bt bk) (hq : Q (sGame s x) h) : OkI E YX7_game (d + 2) [.ref O, .int x] h Q := by
  refine rnX7_game ?_
  unfold sGame at hq
  cases hg : sG s with
  | none =>
    have n4 := (C.notb hg).2
    rw [hg] at hq
    simp only [vcX7_game_0, C.fp, true_and, n4]
    exact ⟨fun z hz => (by cases hz), fun _ => hq⟩
  | some g =>
    obtain ⟨b, t, r, A, hbt, hp, T, w, v, bd, o4, a4, n4⟩ := C.tb hg
    rw [hg] at hq
    have hq : Q (gmA g x) h := hq
    have K := T.1.2.2.1
    simp only [vcX7_game_0, C.fp, true_and, n4, o4, a4, T.1.fs, K.1.fs, K.fs]
    refine ⟨fun z hz => ?_, fun z => by cases z⟩
    by_cases h10 : (10 : Int32) ≤ x
    · have ne : ∀ k : Int32, k < 10 → ¬ x = k := fun k hk e => by rw [e] at h10; exact absurd h10 (Int32.not_le.mpr hk)
      refine ⟨fun z => absurd z (ne 0 (by decide)), fun _ => ⟨fun z => absurd z (ne 1 (by decide)), fun _ => ⟨fun z => absurd z (ne 2 (by decide)), fun _ => ⟨fun z => absurd z (ne 3 (by decide)), fun _ => ⟨fun z => absurd z (ne 4 (by decide)), fun _ => ⟨fun z => absurd z (ne 5 (by decide)), fun _ => ⟨fun z => absurd z (ne 6 (by decide)), fun _ => ⟨fun z => absurd z (ne 7 (by decide)), fun _ => ⟨fun z => absurd z (ne 8 (by decide)), fun _ => c_kindOf K.1 w ?_⟩⟩⟩⟩⟩⟩⟩⟩⟩
      rcases man10 w x with ⟨m1, m2⟩ | ⟨m, hm, e⟩
      · unfold kdO; rw [m2, if_neg (by decide)]
        unfold gmA at hq
        rw [m1, if_neg (by decide), if_neg (ne 7 (by decide)), if_neg (ne 8 (by decide)), if_neg (by unfold btw; rw [decide_eq_false (fun z => absurd (Int32.le_trans h10 z.2) (by decide))]; decide)] at hq
        exact hq
      · obtain ⟨m1, m2, m3⟩ := man10_y w hm
        have hn : qn g ≤ 3 := w.2.2.2.2.2.2.1
        rw [e] at hq ⊢
        unfold gmA at hq
        rw [m1, if_pos rfl, m3] at hq
        rw [m2, kdO, isM_nat w (by omega), decide_eq_true hm, if_pos rfl, n_cl]
        exact hq
    · rw [gmA_lo w h10] at hq
      have nb : ∀ k : Int32, k = 7 ∨ k = 8 ∨ btw 0 6 k = true ∨ True := fun _ => Or.inr (Or.inr (Or.inr trivial))
      refine ⟨fun z => ?_, fun z0 => ⟨fun z => ?_, fun z1 => ⟨fun z => ?_, fun z2 => ⟨fun z => ?_, fun z3 => ⟨fun z => ?_, fun z4 => ⟨fun z => ?_, fun z5 => ⟨fun z => ?_, fun z6 => ⟨fun z => ?_, fun z7 => ⟨fun z => ?_, fun z8 => c_kindOf K.1 w ?_⟩⟩⟩⟩⟩⟩⟩⟩⟩
      · subst z; rw [if_neg (by decide), if_neg (by decide), if_pos (by decide), if_pos rfl] at hq; exact hq
      · subst z; rw [if_neg (by decide), if_neg (by decide), if_pos (by decide), if_neg (by decide), if_pos rfl] at hq; exact hq
      · subst z; rw [if_neg (by decide), if_neg (by decide), if_pos (by decide), if_neg (by decide), if_neg (by decide), if_pos rfl] at hq; exact hq
      · subst z; rw [if_neg (by decide), if_neg (by decide), if_pos (by decide), if_neg (by decide), if_neg (by decide), if_neg (by decide), if_pos rfl] at hq; exact hq
      · subst z; rw [if_neg (by decide), if_neg (by decide), if_pos (by decide), if_neg (by decide), if_neg (by decide), if_neg (by decide), if_neg (by decide), if_pos rfl] at hq; exact hq
      · subst z; rw [if_neg (by decide), if_neg (by decide), if_pos (by decide), if_neg (by decide), if_neg (by decide), if_neg (by decide), if_neg (by decide), if_neg (by decide), if_pos rfl] at hq; exact hq
      · subst z; rw [if_neg (by decide), if_neg (by decide), if_pos (by decide), if_neg (by decide), if_neg (by decide), if_neg (by decide), if_neg (by decide), if_neg (by decide), if_neg (by decide)] at hq; exact hq
      · subst z; rw [if_pos rfl] at hq; rw [syL_cN]; exact hq
      · subst z; rw [if_neg (by decide), if_pos rfl] at hq; exact hq
      · have hb : btw 0 6 x = false := by
          rw [Bool.eq_false_iff]
          intro z
          obtain ⟨j, hj, e⟩ := btw_in (b := 7) (by omega) z
          rw [e] at z0 z1 z2 z3 z4 z5 z6
          have : j = 0 ∨ j = 1 ∨ j = 2 ∨ j = 3 ∨ j = 4 ∨ j = 5 ∨ j = 6 := by omega
          rcases this with rfl | rfl | rfl | rfl | rfl | rfl | rfl
          · exact z0 rfl
          · exact z1 rfl
          · exact z2 rfl
          · exact z3 rfl
          · exact z4 rfl
          · exact z5 rfl
          · exact z6 rfl
        rw [if_neg z7, if_neg z8, hb, if_neg (by decide)] at hq
        rcases man10 w x with ⟨m1, m2⟩ | ⟨m, hm, e⟩
        · unfold kdO; rw [m2, if_neg (by decide)]; exact hq
        · have hn : qn g ≤ 3 := w.2.2.2.2.2.2.1
          rw [e] at h10
          exact absurd (nI_le (a := 10) (b := m + 10) (by omega) (by omega)) h10
theorem PV_B {x : Nat} (hP : Ps g x = true) : PV (some g) (plB x) := ⟨fun q => (by cases q), fun g' e => by
  cases e
  exact ⟨fun k _ => hP, fun k h1 h2 => by have h2 : k < 1 := h2; omega⟩⟩
theorem c_setup {Q : Int32 → Hp → Prop} {a b c' e : Int32} (C : CT E h O M s c1 c2 bt bk) (hq : ∀ h', CT E h' O M (sSet s a b c' e).1 c1 c2 bt bk → FQ M h h' → Q (sSet s a b c' e).2 h') : OkI E YX7_setup (d + 3) [.ref O, .int a, .int b, .int c', .int e] h Q := by
  refine rnX7_setup ?_
  unfold sSet at hq
  cases hg : sG s with
  | none =>
    have n4 := (C.notb hg).2
    rw [hg] at hq
    simp only [vcX7_setup_0, C.fp, true_and, n4]
    exact ⟨fun z hz => (by cases hz), fun _ => hq h C (FQ.rfl M h)⟩
  | some g =>
    obtain ⟨b0, t, r, A, hbt, hp, T, w, v, bd, o4, a4, n4⟩ := C.tb hg
    rw [hg] at hq
    have hnx := nx_le w
    have K := T.1.2.2.1.1
    simp only at hq
    simp only [vcX7_setup_0, C.fp, true_and, n4, o4, a4, T.1.fs]
    have bad : (btw 0 1 e && isPc g 0 a && isPc g 1 b && isPc g 2 c') = false → Q (-2) h := fun z => by
      have := hq h
      rw [z, if_neg (by decide)] at this
      exact this C (FQ.rfl M h)
    refine ⟨fun z hz => ⟨fun q => bad ?_, fun q1 => ⟨fun q2 => ?_, fun q => bad ?_⟩⟩, fun z => by cases z⟩
    · unfold btw; rw [decide_eq_false (fun z => absurd z.1 (Int32.not_le.mpr q))]; simp
    · have he : btw 0 1 e = true := by unfold btw; exact decide_eq_true ⟨Int32.not_lt.mp q1, q2⟩
      obtain ⟨y, hy, ey⟩ := btw_in (b := 2) (by omega) he
      refine c_canTell (m := 0) K w (by omega) (bI_c (fun z => bad (by rw [he, z]; simp)) (fun za => ⟨⟨_, K.1⟩, c_canTell (m := 1) K w (by omega) (bI_c (fun z => bad (by rw [he, za, z]; simp)) (fun zb => ⟨⟨_, K.1⟩, c_canTell (m := 2) K w (by omega) (bI_c' (fun z => bad (by rw [he, za, zb, z]; simp)) (fun zc => ⟨⟨_, K.1⟩, ?_⟩))⟩))⟩))
      rw [he, za, zb, zc, if_pos (by decide)] at hq
      subst ey
      obtain ⟨p1, p1'⟩ := plV_eq w za
      obtain ⟨p2, p2'⟩ := plV_eq w zb
      obtain ⟨p3, p3'⟩ := plV_eq w zc
      rw [n_cl] at hq
      obtain ⟨X, hX⟩ : ∃ X, X = stX g a b c' y := ⟨_, rfl⟩
      have hXl : X < nx g := by
        rw [hX]
        refine (plc_ixo (s := y) (by omega) (fun m hm => ?_)).2.1
        show (if m = 0 then plV g a else if m = 1 then plV g b else plV g c') ≤ sq g
        split
        · exact p1'
        · split
          · exact p2'
          · exact p3'
      refine c_indexOf (P := fun m => if m = 0 then plV g a else if m = 1 then plV g b else plV g c') K p1 p2 p3 ?_
      have eX : ixo g (fun m => if m = 0 then plV g a else if m = 1 then plV g b else plV g c') y = X := by rw [hX]; rfl
      rw [eX]
      rw [← hX] at hq
      simp only [C.fp, true_and, o4, a4, T.1.fs]
      refine c_tIsPossibleN T.1 T.2.1 w (by omega) (bI_c' (fun z => ?_) (fun z => ?_))
      · rw [z, if_neg (by decide)] at hq
        exact hq h C (FQ.rfl M h)
      · rw [z, if_pos rfl] at hq
        simp only [C.fp, true_and]
        refine c_begin C.2.2.1 (by omega) (fun h2 K2 F2 => ?_)
        obtain ⟨C2, Fq⟩ := C.play K2 F2 (by rw [hg]; exact PV_B z)
        exact hq h2 C2 Fq
    · unfold btw; rw [decide_eq_false (fun z => absurd z.2 q)]; simp
theorem c_load {Q : Int32 → Hp → Prop} {x : Int32} (C : CT E h O M s c1 c2 bt bk) (hq : ∀ h', CT E h' O M (sLoad s x).1 c1 c2 bt bk → FQ M h h' → Q (sLoad s x).2 h') : OkI E YX7_load (d + 2) [.ref O, .int x] h Q := by
  refine rnX7_load ?_
  unfold sLoad at hq
  cases hg : sG s with
  | none =>
    have n4 := (C.notb hg).2
    rw [hg] at hq
    simp only [vcX7_load_0, C.fp, true_and, n4]
    exact ⟨fun z hz => (by cases hz), fun _ => hq h C (FQ.rfl M h)⟩
  | some g =>
    obtain ⟨b0, t, r, A, hbt, hp, T, w, v, bd, o4, a4, n4⟩ := C.tb hg
    rw [hg] at hq
    have hnx := nx_le w
    simp only at hq
    rw [← ixB_btw w] at hq
    simp only [vcX7_load_0, C.fp, true_and, n4, o4, a4, T.1.fs]
    refine ⟨fun z hz => c_tIsPossible T.1 T.2.1 w (bI_c' (fun z => ?_) (fun z => ?_)), fun z => by cases z⟩
    · rw [z, if_neg (by decide)] at hq
      exact hq h C (FQ.rfl M h)
    · rw [z, if_pos rfl] at hq
      simp only [Bool.and_eq_true] at z
      obtain ⟨i, hi, e⟩ := ixB_in w z.1
      subst e
      rw [n_cl] at hq z
      simp only [C.fp, true_and]
      refine c_begin C.2.2.1 (by omega) (fun h2 K2 F2 => ?_)
      obtain ⟨C2, Fq⟩ := C.play K2 F2 (by rw [hg]; exact PV_B z.2)
      rw [n_lit1, nx_and, Nat.and_one_is_mod]
      exact hq h2 C2 Fq
end
