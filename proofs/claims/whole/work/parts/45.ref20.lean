theorem rhc_at {L : Nat} {B : Nat → Nat} : ∀ k r, (rhc L B k r).1 = true → r.2.1 ≤ (rhc L B k r).2.1 ∧ r.1 = true
  | 0, r, h => ⟨Nat.le_refl _, h⟩
  | k + 1, r, h => by
    rw [rhc] at h ⊢
    by_cases c : see L B 44 44 r = true
    · rw [if_pos c] at h ⊢
      obtain ⟨h1, h2⟩ := rhc_at k _ h
      have h3 := rsq_at h2
      have e : (stp r).2.1 = r.2.1 + 1 := rfl
      exact ⟨by omega, (see_iff.mp c).1⟩
    · rw [if_neg c] at h ⊢
      exact ⟨Nat.le_refl _, h⟩
theorem rcl_at {L : Nat} {B : Nat → Nat} {r : Rr} (h : (rcl L B r).1 = true) : r.2.1 ≤ (rcl L B r).2.1 := by
  unfold rcl at h ⊢
  have e : (stp r).2.1 = r.2.1 + 1 := rfl
  by_cases c : see L B 120 120 r = true
  · rw [if_pos c] at h ⊢
    obtain ⟨h1, h2⟩ := rhc_at 41 _ h
    have h3 := rsq_at h2
    omega
  · rw [if_neg c] at h ⊢
    by_cases c2 : see L B 109 109 r = true
    · rw [if_pos c2] at h ⊢
      have h1 := (rnm_at (r := stp r) h).1
      show r.2.1 ≤ (rnm L B (stp r)).1.2.1
      omega
    · rw [if_neg c2] at h ⊢
      by_cases c3 : see L B 100 100 r = true
      · rw [if_pos c3]; show r.2.1 ≤ r.2.1 + 1; omega
      · rw [if_neg c3] at h ⊢
        by_cases c4 : see L B 108 108 r = true
        · rw [if_pos c4]; show r.2.1 ≤ r.2.1 + 1; omega
        · rw [if_neg c4] at h ⊢
          by_cases c5 : see L B 119 119 r = true
          · rw [if_pos c5]; show r.2.1 ≤ r.2.1 + 1; omega
          · rw [if_neg c5] at h; cases h
theorem rdg_le6 {L : Nat} {B : Nat → Nat} {r : Rr} : (rdg L B 50 54 r).2 ≤ 6 := by
  unfold rdg
  split
  · rename_i h
    have := see_iff.mp h
    show B r.2.1 - 48 ≤ 6
    omega
  · exact Nat.zero_le _
section
variable {E : Wd} {h0 h : Hp} {M : Nat} {A0 A : Nat → Nat → Int32} {f0 f : Nat → Int32} {d L : Nat} {B : Nat → Nat} {r : Rr}
theorem k_passGame {Q : Hp → Prop} (hT : RTp A0 f0 L B) (R0 : Rf E h0 h M A0 f0) (hq : ∀ h', RX E h0 M A0 f0 L h' (rgm L B) → Q h') : OkV E YX8_passGame (d + 6) [.ref M] h Q := by
  refine rnX8_passGame (fun K12 K174 k12 k174 => ?_)
  have hL : L ≤ 40 := hT.2.1
  -- the clauses
  have loop : ∀ k r, L < k + r.2.1 ∨ r.1 = false → ∀ h, RX E h0 M A0 f0 L h r → (∀ h', RX E h0 M A0 f0 L h' (rcL L B k r) → Q h') → K174 M h := by
    intro k
    induction k with
    | zero =>
      intro r hk h K hq
      refine k174 _ _ ?_
      obtain ⟨A, f, R, Y, P⟩ := id K
      obtain ⟨t1, t2, t3⟩ := Y.tp R hT
      have hP := P.2.2.1
      simp only [vcX8_passGame_174, R.fs, true_and, P.1]
      refine bI_c' (fun c => ?_) (fun c => hq h K)
      rcases hk with hk | hk
      · omega
      · rw [hk] at c; cases c
    | succ k ih =>
      intro r hk h K hq
      refine k174 _ _ ?_
      obtain ⟨A, f, R, Y, P⟩ := id K
      obtain ⟨t1, t2, t3⟩ := Y.tp R hT
      have hP := P.2.2.1
      rw [rcL] at hq
      simp only [vcX8_passGame_174, R.fs, true_and, P.1, P.2.1, t1, nI_leI (show L < 2 ^ 31 by omega) (show r.2.1 < 2 ^ 31 by omega)]
      refine bI_c' (fun c => ?_) (fun c => ?_)
      · have c : r.1 = true := by simpa using c
        rw [c, Bool.true_and] at hq
        refine ⟨fun c2 => ?_, fun c2 => ?_⟩
        · rw [if_neg (by simpa using c2)] at hq
          exact hq h K
        · rw [if_pos (by simpa using c2)] at hq
          refine k_passes (c := 59) hT K (by omega) (fun h1 K1 => bI_c' (fun c3 => ?_) (fun c3 => ?_))
          · rw [rtk, if_neg (by rw [c3]; decide)] at K1
            rw [if_neg (by rw [c3]; decide)] at hq
            obtain ⟨A1, f1, R1, Y1, P1⟩ := id K1
            simp only [vcX8_passGame_207, R1.fs, true_and]
            refine ⟨Or.inr rfl, fun h2 e2 => ?_⟩
            subst e2
            have R2 := R1.put (k := 3) (x := 1) rfl
            simp only [R2.fs, true_and, show upd f1 3 1 3 = 1 from rfl]
            refine ⟨fun _ => ih (bad r) (Or.inr rfl) _ (RX.bad R1 Y1 P1) (fun h' K' => hq h' ?_), fun q => absurd q (by decide)⟩
            have : rcL L B k (bad r) = bad r := by
              cases k with
              | zero => rfl
              | succ k => rw [rcL]; rfl
            rw [this] at K'; exact K'
          · rw [rtk, if_pos c3] at K1
            rw [if_pos c3] at hq
            obtain ⟨A1, f1, R1, Y1, P1⟩ := id K1
            have e0 : f1 3 = 0 := by rw [P1.1]; show bI (!r.1) = 0; rw [c]; rfl
            simp only [vcX8_passGame_207, R1.fs, true_and]
            refine ⟨Or.inl rfl, fun h2 e2 => ?_⟩
            subst e2
            have R2 := R1.put (k := 3) (x := 0) rfl
            have K2 : RX E h0 M A0 f0 L _ (stp r) := RX.same R1 Y1 P1 (x := 0) e0.symm
            simp only [R2.fs, true_and, show upd f1 3 0 3 = 0 from rfl]
            refine ⟨fun q => absurd trivial q, fun _ => k_passClause hT K2 (fun h3 K3 => ih _ ?_ h3 K3 hq)⟩
            by_cases q : (rcl L B (stp r)).1 = true
            · have := rcl_at q
              have e : (stp r).2.1 = r.2.1 + 1 := rfl
              rcases hk with hk | hk
              · left; omega
              · rw [hk] at c; cases c
            · right; simpa using q
      · have c : r.1 = false := by simpa using c
        rw [c, Bool.false_and, if_neg (by decide)] at hq
        exact hq h K
  -- the men of both sides
  have L127 : ∀ r x y, x ||| y = bI (!(rsp L B 59 r).1) → ∀ h, (∀ z, z = bI (!(rsp L B 59 r).1) → RX E h0 M A0 f0 L (pF h M 3 (.int z)) (rsp L B 59 r)) → (∃ A f, Rf E h0 h M A f) → (∀ h', RX E h0 M A0 f0 L h' (rcL L B 41 (rmn L B (rsp L B 45 (onG gB (rmn L B (rsp L B 59 r)))))) → Q h') → vcX8_passGame_127 E (d + 5) K12 K174 M M x y h Q := by
    intro r x y hxy h K hR hq
    obtain ⟨A, f, R⟩ := hR
    simp only [vcX8_passGame_127, R.fs, true_and, hxy]
    refine ⟨bI_m _, fun h1 e1 => ?_⟩
    subst e1
    obtain ⟨A1, f1, R1, Y1, P1⟩ := id (K _ rfl)
    refine ⟨⟨_, R1.obj⟩, k_passMen hT (K _ rfl) (fun h2 K2 => ?_)⟩
    obtain ⟨r2, hr2⟩ : ∃ r2, rmn L B (rsp L B 59 r) = r2 := ⟨_, rfl⟩
    rw [hr2] at K2 hq
    obtain ⟨A2, f2, R2, Y2, P2⟩ := id K2
    simp only [R2.fs, true_and, R2.oR 3 2 rfl rfl (vpd rfl), R2.oR 3 3 rfl rfl (vpd rfl)]
    intro h3 e3
    subst e3
    have K3 : RX E h0 M A0 f0 L _ (onG gB r2) := RX.set (F := gB) (i := 3) (x := gA h2 (M + 3) 2) R2 Y2 P2 (fun _ hA => by
      have : gA h2 (M + 3) 2 = nI (qn r2.2.2) := by rw [R2.gR 3 2 rfl]; exact hA.2.2.1
      rw [this]; exact rA_3 hA) (fun q => q)
    obtain ⟨A3, f3, R3, Y3, P3⟩ := id K3
    obtain ⟨h3, eh3⟩ : ∃ h3, sA h2 (M + 3) 3 (gA h2 (M + 3) 2) = h3 := ⟨_, rfl⟩
    rw [eh3] at R3 K3 ⊢
    simp only [R3.fs, true_and]
    obtain ⟨r3, hr3⟩ : ∃ r3, onG gB r2 = r3 := ⟨_, rfl⟩
    rw [hr3] at K3 P3 hq
    have fin : ∀ h', RX E h0 M A0 f0 L h' (rmn L B (rsp L B 45 r3)) → K174 M h' := fun h' K' => loop 41 _ (by
      by_cases q : (rmn L B (rsp L B 45 r3)).1 = true
      · left; omega
      · right; simpa using q) h' K' hq
    refine k_passes (c := 45) hT K3 (by omega) (fun h4 K4 => bI_c' (fun c3 => ?_) (fun c3 => ?_))
    · rw [rtk, if_neg (by rw [c3]; decide)] at K4
      obtain ⟨A4, f4, R4, Y4, P4⟩ := id K4
      have e1 : f3 3 ||| 1 = 1 := by rw [P3.1]; cases r3.1 <;> rfl
      simp only [R4.fs, true_and, e1]
      refine ⟨Or.inr rfl, fun h6 e6 => ?_⟩
      subst e6
      have K6 := RX.bad R4 Y4 P4
      obtain ⟨A6, f6, R6, Y6, P6⟩ := id K6
      have e7 : rsp L B 45 r3 = bad r3 := by rw [rsp, if_neg (by rw [c3]; decide)]
      rw [e7] at fin
      exact ⟨⟨_, R6.obj⟩, k_passMen hT K6 fin⟩
    · rw [rtk, if_pos c3] at K4
      obtain ⟨A4, f4, R4, Y4, P4⟩ := id K4
      have c4 := (see_iff.mp c3).1
      have e0 : f3 3 = 0 := by rw [P3.1, c4]; rfl
      have e1 : f3 3 ||| 0 = 0 := by rw [e0]; rfl
      have e2 : f4 3 = 0 := by rw [P4.1]; show bI (!r3.1) = 0; rw [c4]; rfl
      simp only [R4.fs, true_and, e1]
      refine ⟨Or.inl rfl, fun h6 e6 => ?_⟩
      subst e6
      have K6 : RX E h0 M A0 f0 L _ (stp r3) := RX.same R4 Y4 P4 (x := 0) e2.symm
      obtain ⟨A6, f6, R6, Y6, P6⟩ := id K6
      have e7 : rsp L B 45 r3 = stp r3 := by rw [rsp, if_pos c3]
      rw [e7] at fin
      exact ⟨⟨_, R6.obj⟩, k_passMen hT K6 fin⟩
  have L108 : ∀ h, RX E h0 M A0 f0 L h (rsz L B) → vcX8_passGame_108 E (d + 5) K12 K174 M h Q := by
    intro h K
    have hq : ∀ h', RX E h0 M A0 f0 L h' (rcL L B 41 (rmn L B (rsp L B 45 (onG gB (rmn L B (rsp L B 59 (rsz L B))))))) → Q h' := hq
    obtain ⟨r, hr⟩ : ∃ r, rsz L B = r := ⟨_, rfl⟩
    rw [hr] at K hq
    obtain ⟨A, f, R, Y, P⟩ := id K
    simp only [vcX8_passGame_108, R.fs, true_and]
    refine k_passes (c := 59) hT K (by omega) (fun h1 K1 => bI_c' (fun c3 => ?_) (fun c3 => ?_))
    · rw [rtk, if_neg (by rw [c3]; decide)] at K1
      obtain ⟨A1, f1, R1, Y1, P1⟩ := id K1
      have e7 : rsp L B 59 r = bad r := by rw [rsp, if_neg (by rw [c3]; decide)]
      refine L127 r _ _ ?_ h1 (fun z hz => ?_) ⟨A1, f1, R1⟩ hq
      · rw [e7, P.1]; cases r.1 <;> rfl
      · rw [e7] at hz ⊢
        rw [show z = 1 from hz]
        exact RX.bad R1 Y1 P1
    · rw [rtk, if_pos c3] at K1
      obtain ⟨A1, f1, R1, Y1, P1⟩ := id K1
      have c4 := (see_iff.mp c3).1
      have e7 : rsp L B 59 r = stp r := by rw [rsp, if_pos c3]
      refine L127 r _ _ ?_ h1 (fun z hz => ?_) ⟨A1, f1, R1⟩ hq
      · rw [e7, P.1]; show bI (!r.1) ||| 0 = bI (!r.1); rw [c4]; rfl
      · rw [e7] at hz ⊢
        exact RX.same R1 Y1 P1 (by rw [P1.1]; exact hz)
  -- the start
  simp only [vcX8_passGame_0, R0.fs, true_and]
  intro h1 e1
  subst e1
  have R1 := R0.put (k := 2) (x := 0) rfl
  simp only [R1.fs, true_and]
  refine ⟨Or.inl rfl, fun h2 e2 => ?_⟩
  subst e2
  have R2 := R1.put (k := 3) (x := 0) rfl
  have Y2 : RY A0 f0 A0 (upd (upd f0 2 0) 3 0) := (RY.p2 (A := A0) (f := f0) ⟨fun _ _ => rfl, fun _ _ _ => rfl⟩ 0).p3 0
  have hf2 : upd (upd f0 2 0) 3 0 2 = 0 := rfl
  have hf3 : upd (upd f0 2 0) 3 0 3 = 0 := rfl
  obtain ⟨f, ef⟩ : ∃ f, upd (upd f0 2 0) 3 0 = f := ⟨_, rfl⟩
  rw [ef] at R2 Y2 hf2 hf3
  refine lp_up (K := fun i => ∀ h' A', Rf E h0 h' M A' f → RY A0 f0 A' f → (∀ j, j < i → A' 3 j = 0) → K12 M (nI i) h') 10 (fun i hi ih h' A' R' Y' Z' => ?_) (fun h' A' R' Y' Z' => ?_) 0 (Nat.zero_le _) _ A0 R2 Y2 (fun j hj => absurd hj (Nat.not_lt_zero _))
  · refine k12 _ _ _ ?_
    simp only [vcX8_passGame_12, R'.fs, true_and, show (10 : Int32) = nI 10 from rfl, nI_leI (show 10 < 2 ^ 31 by omega) (show i < 2 ^ 31 by omega), R'.oR 3 _ rfl rfl (vpn (n := 10) hi)]
    refine ⟨fun c => absurd c (by omega), fun _ h3 e3 => ?_⟩
    subst e3
    have R3 := R'.st (j := 3) (nI i) 0 rfl
    rw [n_cl (n := i)] at R3
    rw [nI_1]
    refine ih _ _ R3 (Y'.st _ _) (fun j hj => ?_)
    by_cases c : j = i
    · subst c; exact up2s _ _ _ _
    · exact (up2o (by omega)).trans (Z' j (by omega))
  · refine k12 _ _ _ ?_
    simp only [vcX8_passGame_12, R'.fs, true_and, R'.oR 3 6 rfl rfl (vpd rfl)]
    refine ⟨fun _ h3 e3 => ?_, fun c => absurd (nI_le (a := 10) (b := 10) (Nat.le_refl _) (by omega)) c⟩
    subst e3
    have K3 : RX E h0 M A0 f0 L (sA h' (M + 3) 6 (-5)) (true, 0, g00) := by
      refine ⟨_, f, R'.st (j := 3) 6 (-5) rfl, Y'.st _ _, hf3, hf2, Nat.zero_le _, fun _ => ⟨⟨?_, ?_, ?_, ?_, ?_, ?_, ?_, fun m hm => ?_⟩, by unfold szG; decide⟩⟩
      · exact (up2o (by decide)).trans (Z' 0 (by omega))
      · exact (up2o (by decide)).trans (Z' 1 (by omega))
      · exact (up2o (by decide)).trans (Z' 2 (by omega))
      · exact (up2o (by decide)).trans (Z' 3 (by omega))
      · exact (up2o (by decide)).trans (Z' 4 (by omega))
      · exact (up2o (by decide)).trans (Z' 5 (by omega))
      · exact up2s _ _ _ _
      · exact (up2o (by rintro ⟨-, q⟩; have : 7 + m = 6 := q; omega)).trans (Z' (7 + m) (by omega))
    obtain ⟨A3, f3, R3, Y3, P3⟩ := id K3
    obtain ⟨h3, eh3⟩ : ∃ h3, sA h' (M + 3) 6 (-5) = h3 := ⟨_, rfl⟩
    rw [eh3] at R3 K3 ⊢
    simp only [R3.fs, true_and]
    refine k_passDigit (lo := 50) (hi := 54) hT K3 (by omega) (by omega) (by omega) (fun h4 K4 => ?_)
    obtain ⟨A4, f4, R4, Y4, P4⟩ := id K4
    refine ⟨R4.oR 3 0 rfl rfl (vpd rfl), fun h5 e5 => ?_⟩
    subst e5
    have K5 : RX E h0 M A0 f0 L _ (rwd L B) := RX.set (F := fun g => gW' g (rdg L B 50 54 (true, 0, g00)).2) (i := 0) R4 Y4 P4 (fun _ hA => rA_0 _ hA) (fun q => ⟨q.1, rdg_le6, q.2.2⟩)
    obtain ⟨A5, f5, R5, Y5, P5⟩ := id K5
    simp only [R5.fs, true_and]
    refine k_passDigit (lo := 50) (hi := 54) hT K5 (by omega) (by omega) (by omega) (fun h6 K6 => ?_)
    obtain ⟨A6, f6, R6, Y6, P6⟩ := id K6
    refine ⟨R6.oR 3 1 rfl rfl (vpd rfl), fun h7 e7 => ?_⟩
    subst e7
    have K7 : RX E h0 M A0 f0 L _ (rht L B) := RX.set (F := fun g => gH g (rdg L B 50 54 (rwd L B)).2) (i := 1) R6 Y6 P6 (fun _ hA => rA_1 _ hA) (fun q => ⟨q.1, q.2.1, rdg_le6⟩)
    obtain ⟨A7, f7, R7, Y7, P7⟩ := id K7
    have hz : ∀ h', RX E h0 M A0 f0 L h' (if (rht L B).1 = true ∧ 12 < qw (rht L B).2.2 * qh (rht L B).2.2 then (false, (rht L B).2.1 - 1, (rht L B).2.2) else rht L B) → vcX8_passGame_108 E (d + 5) K12 K174 M h' Q := L108
    have hat : (rht L B).1 = true → 1 ≤ (rht L B).2.1 := fun c => by
      have := (rdg_at (r := rwd L B) (lo := 50) (hi := 54) c).1
      show 1 ≤ (rdg L B 50 54 (rwd L B)).1.2.1
      rw [this]; exact Nat.succ_le_succ (Nat.zero_le _)
    obtain ⟨r, hr⟩ : ∃ r, rht L B = r := ⟨_, rfl⟩
    rw [hr] at K7 P7 hz hat
    obtain ⟨h7, eh7⟩ : ∃ h7, sA h6 (M + 3) 1 (nI (rdg L B 50 54 (rwd L B)).2) = h7 := ⟨_, rfl⟩
    rw [eh7] at R7 K7 ⊢
    simp only [R7.fs, true_and, P7.1]
    refine bI_c' (fun c => ?_) (fun c => ?_)
    · have c : r.1 = true := by simpa using c
      obtain ⟨hA, hn, hn6, hn7⟩ := P7.2.2.2 c
      have g0 : gA h7 (M + 3) 0 = nI (qw r.2.2) := by rw [R7.gR 3 0 rfl]; exact hA.1
      have g1 : gA h7 (M + 3) 1 = nI (qh r.2.2) := by rw [R7.gR 3 1 rfl]; exact hA.2.1
      have hprod : qw r.2.2 * qh r.2.2 ≤ 36 := Nat.le_trans (Nat.mul_le_mul hn6 hn7) (by omega)
      simp only [g0, g1, R7.oR 3 0 rfl rfl (vpd rfl), R7.oR 3 1 rfl rfl (vpd rfl), pk_mul, true_and, show (12 : Int32) = nI 12 from rfl, nI_leI (show qw r.2.2 * qh r.2.2 < 2 ^ 31 by omega) (show 12 < 2 ^ 31 by omega)]
      refine ⟨fun c2 => ?_, fun c2 => ?_⟩
      · rw [if_neg (fun q => by omega)] at hz
        exact hz h7 K7
      · rw [if_pos ⟨c, by omega⟩] at hz
        refine ⟨Or.inr rfl, fun h8 e8 => ?_⟩
        subst e8
        have R8 := R7.put (k := 3) (x := 1) rfl
        simp only [R8.fs, true_and, show upd f7 3 1 2 = f7 2 from rfl, P7.2.1]
        intro h9 e9
        rw [show nI r.2.1 - 1 = nI (r.2.1 - 1) from n_sub (hat c)] at e9
        subst e9
        have R9 := R8.put (k := 2) (x := nI (r.2.1 - 1)) rfl
        exact hz _ ⟨A7, _, R9, (Y7.p3 1).p2 _, rfl, rfl, by have := P7.2.2.1; show r.2.1 - 1 ≤ L; omega, fun e => Bool.noConfusion e⟩
    · have c : r.1 = false := by simpa using c
      rw [if_neg (fun q => by rw [c] at q; cases q.1)] at hz
      exact hz h7 K7
end
