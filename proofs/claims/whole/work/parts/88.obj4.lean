section
variable {E : Wd} {h h' : Hp} {O M t r n : Nat} {s : Sg} {c c1 c2 : Sl} {bt bk : Option Bool} {g : Gm} {A A' : Nat → Nat → Int32} {d : Nat}
theorem pN_c {P R : Prop} {p : Pl} (h0 : pN p = 0 → P) (h1 : pN p ≠ 0 → R) : (bI (decide (pN p ≠ 0)) = 0 → P) ∧ (¬ bI (decide (pN p ≠ 0)) = 0 → R) := bI_c (fun q => h0 (by simpa using q)) (fun q => h1 (by simpa using q))
theorem pN_c' {P R : Prop} {p : Pl} (h0 : pN p = 0 → P) (h1 : pN p ≠ 0 → R) : (¬ bI (decide (pN p ≠ 0)) = 0 → R) ∧ (bI (decide (pN p ≠ 0)) = 0 → P) := ⟨(pN_c h0 h1).2, (pN_c h0 h1).1⟩
theorem c_back {Q : Int32 → Hp → Prop} (C : CT E h O M s c1 c2 bt bk) (hq : ∀ h', CT E h' O M (sBack s).1 c1 c2 bt bk → FQ M h h' → Q (sBack s).2 h') : OkI E YX7_back (d + 2) [.ref O] h Q := by
  refine rnX7_back ⟨⟨_, C.1⟩, c_isPlaying C ?_⟩
  have h41 := C.2.2.1.1
  unfold sBack at hq
  have bad : pN (sP s) ≤ 1 → Q (-3) h := fun z => by
    rw [if_pos z] at hq
    exact hq h C (FQ.rfl M h)
  refine pN_c (fun q => bad (by omega)) (fun q => ?_)
  simp only [C.fp, true_and]
  refine c_made C.2.2.1 ?_
  rw [show (1 : Int32) = nI 1 from rfl, nI_leI (by omega) (by omega)]
  refine ⟨fun q2 => ?_, fun q2 => bad (by omega)⟩
  simp only [C.fp, true_and]
  refine c_removeLast C.2.2.1 q (fun h2 K2 F2 => ?_)
  rw [if_neg (by omega)] at hq
  obtain ⟨g, hg, -, v2, v3⟩ := C.pl q
  obtain ⟨C2, Fq⟩ := C.play K2 F2 (⟨fun z => (by rw [hg] at z; cases z), fun g' e => by
    rw [hg] at e
    cases e
    refine ⟨fun k hk => v2 k (by have hk : k < pN (sP s) - 1 := hk; omega), fun k h1 hk => v3 k h1 (by have hk : k < pN (sP s) - 1 := hk; omega)⟩⟩)
  simp only [C2.fp, true_and]
  exact c_made C2.2.2.1 (hq h2 C2 Fq)
theorem mvO_in {x : Nat} {k : Int32} {v : Nat × Nat × Option Nat × Nat} (h : mvO g x k = some v) : v ∈ mvs g x := by
  unfold mvO at h
  split at h
  · cases h
  · exact List.mem_of_getElem? h
theorem PV_A {p : Pl} {v : Nat × Nat × Option Nat × Nat} (w : qF g) (V : PV (some g) p) (hn : pN p ≠ 0) (hv : v ∈ mvs g (pHe p)) : PV (some g) (plA p v.2.2.2 v.2.2.1.isSome) := by
  refine ⟨fun q => (by cases q), fun g' e => ?_⟩
  cases e
  obtain ⟨v2, v3⟩ := V.2 g rfl
  have hP : Ps g (pHe p) = true := v2 _ (by omega)
  refine ⟨fun k hk => ?_, fun k h1 hk => ?_⟩
  · have hk : k < pN p + 1 := hk
    show Ps g (if k = pN p then v.2.2.2 else pP p k) = true
    by_cases z : k = pN p
    · rw [if_pos z]; exact suc_Ps w hP hv
    · rw [if_neg z]; exact v2 k (by omega)
  · have hk : k < pN p + 1 := hk
    show (if k = pN p then v.2.2.1.isSome else pC p k) = decide (ms g (plc g (if k - 1 = pN p then v.2.2.2 else pP p (k - 1))) < ms g (plc g (if k = pN p then v.2.2.2 else pP p k)))
    rw [if_neg (show ¬ k - 1 = pN p by omega)]
    by_cases z : k = pN p
    · rw [if_pos z, if_pos z, z, ms_mv w hP hv]
      show v.2.2.1.isSome = decide (ms g (plc g (pHe p)) < _)
      cases v.2.2.1.isSome <;> simp
    · rw [if_neg z, if_neg z]; exact v3 k h1 (by omega)
theorem c_make {Q : Int32 → Hp → Prop} {k : Int32} (C : CT E h O M s c1 c2 bt bk) (hq : ∀ h', CT E h' O M (sMake s k).1 c1 c2 bt bk → FQ M h h' → Q (sMake s k).2 h') : OkI E YX7_make (d + 3) [.ref O, .int k] h Q := by
  refine rnX7_make ⟨⟨_, C.1⟩, c_isPlaying C ?_⟩
  have h41 := C.2.2.1.1
  unfold sMake at hq
  refine pN_c' (fun q => ?_) (fun q => ?_)
  · have := hq h
    cases hg : sG s with
    | none => rw [hg] at this; exact this C (FQ.rfl M h)
    | some g => rw [hg] at this; simp only [q, if_true] at this; exact this C (FQ.rfl M h)
  · obtain ⟨g, hg, hP, -⟩ := C.pl q
    obtain ⟨b0, t, r, A, hbt, hp, T, w, v, bd, o4, a4, n4⟩ := C.tb hg
    have V := C.2.2.2.2.2.1
    rw [hg] at hq V
    simp only [q, if_false] at hq
    simp only [C.fp, true_and, o4, a4, T.1.fs]
    refine c_present C.2.2.1 q ⟨⟨_, T.1.1⟩, c_stepOfI T.1 T.2.1 w bd hP ?_⟩
    have hnx := nx_le w
    cases hm : mvO g (pHe (sP s)) k with
    | none =>
      rw [hm] at hq
      exact ⟨fun z => absurd z (by decide), fun _ => hq h C (FQ.rfl M h)⟩
    | some v' =>
      have hv := mvO_in hm
      have hl := Ps_lt (suc_Ps w hP hv)
      rw [hm] at hq
      simp only at hq
      refine ⟨fun _ => ?_, fun z => absurd (nI_pos' (by omega)) z⟩
      simp only [C.fp, true_and]
      refine c_made C.2.2.1 ?_
      rw [show (40 : Int32) = nI 40 from rfl, nI_ltI (by omega) (by omega)]
      refine ⟨fun z => ?_, fun z => ?_⟩
      · rw [if_neg (show ¬ pN (sP s) = 41 by omega)] at hq
        simp only [C.fp, true_and]
        refine c_add (b := v'.2.2.1.isSome) C.2.2.1 (by omega) (by omega) (fun h2 K2 F2 => ?_)
        obtain ⟨C2, Fq⟩ := C.play K2 F2 (by rw [hg]; exact PV_A w V q hv)
        simp only [C2.fp, true_and]
        exact c_occurrences C2.2.2.1 (hq h2 C2 Fq)
      · rw [if_pos (show pN (sP s) = 41 by omega)] at hq
        exact hq h C (FQ.rfl M h)
theorem c_movesSinceCapture {Q : Int32 → Hp → Prop} (C : CT E h O M s c1 c2 bt bk) (hq : Q (nI (siP (sP s))) h) : OkI E YX7_movesSinceCapture (d + 2) [.ref O] h Q := by
  refine rnX7_movesSinceCapture (fun K19 k19 => ?_)
  have h41 := C.2.2.1.1
  refine ⟨⟨_, C.1⟩, c_isPlaying C (pN_c' (fun q => ?_) (fun q => ?_))⟩
  · have : siP (sP s) = 0 := by unfold siP; rw [q]; rfl
    rw [this] at hq; exact hq
  · obtain ⟨g, hg, hP, v2, v3⟩ := C.pl q
    obtain ⟨b0, t, r, A, hbt, hp, T, w, v, bd, o4, a4, n4⟩ := C.tb hg
    simp only [C.fp, true_and]
    refine c_made C.2.2.1 ?_
    have main := lp_up (K := fun k => siN (sP s) (pN (sP s) - 1 - k) k = siP (sP s) → K19 O (nI (pN (sP s) - 1)) (nI (k + 1)) h) (pN (sP s) - 1) (fun k hk ih e => ?_) (fun e => ?_) 0 (Nat.zero_le _) rfl
    · exact main
    · refine k19 _ _ _ _ ?_
      rw [vcX7_movesSinceCapture_19, nI_ltI (by omega) (by omega)]
      simp only [C.fp, true_and, o4, a4, T.1.fs]
      refine ⟨fun z => absurd z (by omega), fun _ => ?_⟩
      rw [n_sub (show k + 1 ≤ pN (sP s) - 1 by omega)]
      refine c_at C.2.2.1 (by omega) ?_
      simp only [C.fp, true_and, nI_1]
      refine c_at C.2.2.1 (by omega) ⟨⟨_, T.1.1⟩, ?_⟩
      have i1 : pN (sP s) - 1 - (k + 1) + 1 = pN (sP s) - 1 - k := by omega
      rw [i1]
      refine c_captures T.1 T.2.1 w (Ps_lt (v2 _ (by omega))) (Ps_lt (v2 _ (by omega))) ?_
      have ec := v3 (pN (sP s) - 1 - k) (by omega) (by omega)
      rw [show pN (sP s) - 1 - k - 1 = pN (sP s) - 1 - (k + 1) by omega] at ec
      rw [← ec]
      have es : siN (sP s) (pN (sP s) - 1 - k) k = if pC (sP s) (pN (sP s) - 1 - k) then k else siN (sP s) (pN (sP s) - 1 - (k + 1)) (k + 1) := by
        rw [show pN (sP s) - 1 - k = (pN (sP s) - 1 - (k + 1)) + 1 by omega, siN, i1]
      rw [es] at e
      refine bI_c (fun z => ?_) (fun z => ?_)
      · rw [z, if_neg (by decide)] at e
        exact ih e
      · rw [z, if_pos rfl] at e
        rw [nI_pred, e]; exact hq
    · refine k19 _ _ _ _ ?_
      rw [Nat.sub_self, siN] at e
      refine ⟨fun _ => ?_, fun z => absurd (nI_lt (by omega) (by omega)) z⟩
      rw [← e] at hq; exact hq
theorem c_count {Q : Int32 → Hp → Prop} {x : Int32} (C : CT E h O M s c1 c2 bt bk) (hq : Q (sCnt s x) h) : OkI E YX7_count (d + 3) [.ref O, .int x] h Q := by
  refine rnX7_count ?_
  unfold sCnt at hq
  simp only [vcX7_count_0, C.fp, true_and]
  refine ⟨fun z => ?_, fun z0 => ⟨fun z => ?_, fun z1 => ⟨fun z => ?_, fun z2 => ⟨fun z => ?_, fun z3 => ⟨fun z => ?_, fun z4 => ?_⟩⟩⟩⟩⟩
  · rw [if_pos z] at hq; exact c_made C.2.2.1 hq
  · rw [if_neg z0, if_pos z] at hq; exact hq
  · rw [if_neg z0, if_neg z1, if_pos z] at hq; exact c_occurrences C.2.2.1 hq
  · rw [if_neg z0, if_neg z1, if_neg z2, if_pos z] at hq; exact c_different C.2.2.1 hq
  · rw [if_neg z0, if_neg z1, if_neg z2, if_neg z3, if_pos z] at hq; exact c_movesSinceCapture C hq
  · rw [if_neg z0, if_neg z1, if_neg z2, if_neg z3, if_neg z4] at hq; exact hq
theorem c_best {Q : Int32 → Hp → Prop} (C : CT E h O M s c1 c2 bt bk) (hq : Q (sBest s) h) : OkI E YX7_best (d + 4) [.ref O] h Q := by
  refine rnX7_best ⟨⟨_, C.1⟩, c_isPlaying C ?_⟩
  unfold sBest at hq
  refine pN_c' (fun q => ?_) (fun q => ?_)
  · cases hg : sG s with
    | none => rw [hg] at hq; exact hq
    | some g => rw [hg] at hq; simp only [q, if_true] at hq; exact hq
  · obtain ⟨g, hg, hP, -⟩ := C.pl q
    obtain ⟨b0, t, r, A, hbt, hp, T, w, v, bd, o4, a4, n4⟩ := C.tb hg
    rw [hg] at hq
    simp only [q, if_false] at hq
    simp only [C.fp, true_and, o4, a4, T.1.fs]
    refine c_present C.2.2.1 q ⟨⟨_, T.1.1⟩, c_bestStep T w v bd hP ?_⟩
    have hml := mvs_le w (pHe (sP s))
    cases hb : bst g (pHe (sP s)) with
    | none => rw [hb] at hq; exact ⟨fun z => absurd z (by decide), fun _ => hq⟩
    | some b =>
      have := bsN_lt _ _ _ _ hb
      rw [hb] at hq
      exact ⟨fun _ => hq, fun z => absurd (nI_pos' (by omega)) z⟩
theorem c_search {Q : Int32 → Hp → Prop} {x : Int32} (C : CT E h O M s c1 c2 bt bk) (hq : ∀ h', CT E h' O M s c1 c2 bt bk → FQ M h h' → Q (sSear s x) h') : OkI E YX7_search (d + 9) [.ref O, .int x] h Q := by
  refine rnX7_search ⟨⟨_, C.1⟩, c_isPlaying C ?_⟩
  unfold sSear at hq
  have h0 := hq h C (FQ.rfl M h)
  refine pN_c' (fun q => ?_) (fun q => ?_)
  · cases hg : sG s with
    | none => rw [hg] at h0; exact h0
    | some g => rw [hg] at h0; simp only [q, if_true] at h0; exact h0
  · obtain ⟨g, hg, hP, -⟩ := C.pl q
    obtain ⟨b0, t, r, A, hbt, hp, T, w, v, bd, o4, a4, n4⟩ := C.tb hg
    rw [hg] at hq h0
    simp only [q, if_false] at hq h0
    refine ⟨fun z => ?_, fun z => ⟨fun z2 => ?_, fun z2 => ?_⟩⟩
    · rw [show btw 0 4 x = false by unfold btw; exact decide_eq_false (fun y => absurd y.1 (Int32.not_le.mpr z)), if_neg (by decide)] at h0; exact h0
    · have hb : btw 0 4 x = true := by unfold btw; exact decide_eq_true ⟨Int32.not_lt.mp z, z2⟩
      rw [hb] at hq
      obtain ⟨e, he, ee⟩ := btw_in (b := 5) (by omega) hb
      subst ee
      simp only [C.fp, true_and, o4, a4]
      refine c_present C.2.2.1 q ?_
      have cs := c_searched (d := d + 4 - e) w v bd e (pHe (sP s)) h Q (by omega) T hP (fun h2 T2 F2 => by
        rw [hbt] at C
        obtain ⟨C2, Fq⟩ := C.ft hp T2 F2
        have := hq h2 (by rw [hbt]; exact C2) Fq
        rw [n_cl] at this; exact this)
      rw [show d + 4 - e + e + 4 = d + 8 by omega] at cs
      exact cs
    · rw [show btw 0 4 x = false by unfold btw; exact decide_eq_false (fun y => z2 y.2), if_neg (by decide)] at h0; exact h0
theorem c_line {Q : Int32 → Hp → Prop} {x : Int32} (C : CT E h O M s c1 c2 bt bk) (hq : ∀ h', CT E h' O M s c1 c2 bt bk → FQ M h h' → Q (sLine s x) h') : OkI E YX7_line (d + 5) [.ref O, .int x] h Q := by
  refine rnX7_line ⟨⟨_, C.1⟩, c_isPlaying C ?_⟩
  unfold sLine at hq
  have h0 := hq h C (FQ.rfl M h)
  refine pN_c' (fun q => ?_) (fun q => ?_)
  · cases hg : sG s with
    | none => rw [hg] at h0; exact h0
    | some g => rw [hg] at h0; simp only [q, if_true] at h0; exact h0
  · obtain ⟨g, hg, hP, -⟩ := C.pl q
    obtain ⟨b0, t, r, A, hbt, hp, T, w, v, bd, o4, a4, n4⟩ := C.tb hg
    rw [hg] at hq h0
    simp only [q, if_false] at hq h0
    have no : ∀ h2, x ≠ -1 → btw 1 (nI (lnc g (pHe (sP s)))) x = false → Q (liA g (pHe (sP s)) x) h2 → Q (-1) h2 := fun h2 y y2 y3 => by
      unfold liA at y3
      rw [if_neg y, y2, if_neg (by decide)] at y3; exact y3
    refine ⟨fun z => no h (by rw [z]; decide) (by unfold btw; rw [z]; exact decide_eq_false (fun y => absurd y.1 (by decide))) h0, fun z => ⟨fun z2 => ?_, fun z2 => no h (fun y => z2 (by rw [y]; decide)) (by unfold btw; exact decide_eq_false (fun y => z2 (Int32.le_trans (by decide) y.1))) h0⟩⟩
    simp only [C.fp, true_and, o4, a4, T.1.fs]
    refine c_present C.2.2.1 q ⟨⟨_, T.1.1⟩, c_followBest T w v bd hP (fun h2 A2 T2 F2 l60 row => ?_)⟩
    rw [hbt] at C
    obtain ⟨C2, Fq⟩ := C.ft hp T2 F2
    rw [← hbt] at C2
    have h2q := hq h2 C2 Fq
    refine ⟨fun z3 => ?_, fun z3 => ?_⟩
    · refine ⟨fun z4 => no h2 z3 (by unfold btw; exact decide_eq_false (fun y => absurd y.2 (Int32.not_le.mpr z4))) h2q, fun z4 => ?_⟩
      obtain ⟨b1, t1, r1, A1, hbt1, hp1, T1, -, -, -, o41, a41, -⟩ := C2.tb hg
      have ht1 : t1 = t := by
        rw [hbt1] at hbt
        cases hbt
        rw [hp] at hp1
        cases hp1; rfl
      rw [ht1] at a41
      simp only [C2.fp, true_and, o41, a41, T2.1.fs]
      have h1x : (1 : Int32) ≤ x := by
        rcases pk_ix x (show 1 < 2 ^ 31 by omega) with y | y | ⟨j, y1, y2⟩
        · have y5 : x.toInt < 0 := Int32.lt_iff_toInt_lt.mp y
          have y6 : (-1 : Int32).toInt ≤ x.toInt := Int32.le_iff_toInt_le.mp z2
          rw [show (-1 : Int32).toInt = -1 from rfl] at y6
          have : x.toInt = (-1 : Int32).toInt := by rw [show (-1 : Int32).toInt = -1 from rfl]; omega
          exact absurd (Int32.toInt_inj.mp this) z3
        · exact y
        · rw [y2, show j = 0 by omega] at z; exact absurd rfl z
      have hb : btw 1 (nI (lnc g (pHe (sP s)))) x = true := by unfold btw; exact decide_eq_true ⟨h1x, Int32.not_lt.mp z4⟩
      unfold liA at h2q
      rw [if_neg z3, hb, if_pos rfl] at h2q
      obtain ⟨j, hj, ej⟩ : ∃ j, j ≤ lnc g (pHe (sP s)) ∧ x = nI j := by
        rcases pk_ix x (show lnc g (pHe (sP s)) + 1 < 2 ^ 31 by omega) with y | y | ⟨j, y1, y2⟩
        · exact absurd (Int32.lt_of_le_of_lt h1x y) (by decide)
        · have := Int32.le_trans y (Int32.not_lt.mp z4)
          rw [nI_leI (by omega) (by omega)] at this
          omega
        · exact ⟨j, by omega, y2⟩
      subst ej
      rw [n_cl, ← row j hj] at h2q
      exact c_followed T2.1 (by omega) h2q
    · unfold liA at h2q
      rw [if_pos z3] at h2q; exact h2q
end
