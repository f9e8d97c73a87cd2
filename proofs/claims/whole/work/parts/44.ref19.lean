theorem up2s (A : Nat → Nat → Int32) (j i : Nat) (x : Int32) : up2 A j i x j i = x := if_pos ⟨rfl, rfl⟩
theorem up2o {A : Nat → Nat → Int32} {j i j' i' : Nat} {x : Int32} (h : ¬ (j' = j ∧ i' = i)) : up2 A j i x j' i' = A j' i' := if_neg h
theorem rA_0 {A : Nat → Nat → Int32} {g : Gm} (x : Nat) (h : rA (A 3) g) : rA (up2 A 3 0 (nI x) 3) (gW' g x) := by
  obtain ⟨a0, a1, a2, a3, a4, a5, a6, a7⟩ := h
  exact ⟨up2s _ _ _ _, (up2o (by omega)).trans a1, (up2o (by omega)).trans a2, (up2o (by omega)).trans a3, (up2o (by omega)).trans a4, (up2o (by omega)).trans a5, (up2o (by omega)).trans a6, fun m hm => (up2o (by omega)).trans (a7 m hm)⟩
theorem rA_1 {A : Nat → Nat → Int32} {g : Gm} (x : Nat) (h : rA (A 3) g) : rA (up2 A 3 1 (nI x) 3) (gH g x) := by
  obtain ⟨a0, a1, a2, a3, a4, a5, a6, a7⟩ := h
  exact ⟨(up2o (by omega)).trans a0, up2s _ _ _ _, (up2o (by omega)).trans a2, (up2o (by omega)).trans a3, (up2o (by omega)).trans a4, (up2o (by omega)).trans a5, (up2o (by omega)).trans a6, fun m hm => (up2o (by omega)).trans (a7 m hm)⟩
theorem rA_3 {A : Nat → Nat → Int32} {g : Gm} (h : rA (A 3) g) : rA (up2 A 3 3 (nI (qn g)) 3) (gB g) := by
  obtain ⟨a0, a1, a2, a3, a4, a5, a6, a7⟩ := h
  exact ⟨(up2o (by omega)).trans a0, (up2o (by omega)).trans a1, (up2o (by omega)).trans a2, up2s _ _ _ _, (up2o (by omega)).trans a4, (up2o (by omega)).trans a5, (up2o (by omega)).trans a6, fun m hm => (up2o (by omega)).trans (a7 m hm)⟩
theorem rA_4 {A : Nat → Nat → Int32} {g : Gm} (x : Nat) (h : rA (A 3) g) : rA (up2 A 3 4 (nI x) 3) (gO g x) := by
  obtain ⟨a0, a1, a2, a3, a4, a5, a6, a7⟩ := h
  exact ⟨(up2o (by omega)).trans a0, (up2o (by omega)).trans a1, (up2o (by omega)).trans a2, (up2o (by omega)).trans a3, up2s _ _ _ _, (up2o (by omega)).trans a5, (up2o (by omega)).trans a6, fun m hm => (up2o (by omega)).trans (a7 m hm)⟩
theorem rA_5 {A : Nat → Nat → Int32} {g : Gm} (x : Int32) (h : rA (A 3) g) : rA (up2 A 3 5 x 3) (gS g x) := by
  obtain ⟨a0, a1, a2, a3, a4, a5, a6, a7⟩ := h
  exact ⟨(up2o (by omega)).trans a0, (up2o (by omega)).trans a1, (up2o (by omega)).trans a2, (up2o (by omega)).trans a3, (up2o (by omega)).trans a4, up2s _ _ _ _, (up2o (by omega)).trans a6, fun m hm => (up2o (by omega)).trans (a7 m hm)⟩
theorem rA_6 {A : Nat → Nat → Int32} {g : Gm} (x : Int32) (h : rA (A 3) g) : rA (up2 A 3 6 x 3) (gL g x) := by
  obtain ⟨a0, a1, a2, a3, a4, a5, a6, a7⟩ := h
  exact ⟨(up2o (by omega)).trans a0, (up2o (by omega)).trans a1, (up2o (by omega)).trans a2, (up2o (by omega)).trans a3, (up2o (by omega)).trans a4, (up2o (by omega)).trans a5, up2s _ _ _ _, fun m hm => (up2o (by omega)).trans (a7 m hm)⟩
theorem rdg_at {L : Nat} {B : Nat → Nat} {lo hi : Nat} {r : Rr} (h : (rdg L B lo hi r).1.1 = true) : (rdg L B lo hi r).1 = stp r ∧ r.1 = true := by
  unfold rdg at h ⊢
  by_cases c : see L B lo hi r = true
  · rw [if_pos c]; exact ⟨rfl, (see_iff.mp c).1⟩
  · rw [if_neg c] at h; cases h
theorem rnm_at {L : Nat} {B : Nat → Nat} {r : Rr} (h : (rnm L B r).1.1 = true) : r.2.1 < (rnm L B r).1.2.1 ∧ (rnm L B r).1.2.2 = r.2.2 ∧ r.1 = true := by
  unfold rnm at h ⊢
  by_cases c : 0 < (rdg L B 48 57 r).2 ∧ see L B 48 57 (rdg L B 48 57 r).1 = true
  · rw [if_pos c] at h ⊢
    obtain ⟨e1, e2⟩ := rdg_at h
    obtain ⟨e3, e4⟩ := rdg_at e2
    rw [e1, e3]
    exact ⟨by show r.2.1 < r.2.1 + 1 + 1; omega, rfl, e4⟩
  · rw [if_neg c] at h ⊢
    obtain ⟨e3, e4⟩ := rdg_at h
    rw [e3]
    exact ⟨by show r.2.1 < r.2.1 + 1; omega, rfl, e4⟩
theorem rsq_at {L : Nat} {B : Nat → Nat} {r : Rr} (h : (rsq L B r).1 = true) : r.2.1 < (rsq L B r).2.1 := by
  unfold rsq at h ⊢
  by_cases c : (rnm L B r).1.1 = true
  · rw [if_pos c] at h ⊢
    by_cases c2 : (rnm L B r).2 < qw (rnm L B r).1.2.2 * qh (rnm L B r).1.2.2
    · rw [if_pos c2]; exact (rnm_at c).1
    · rw [if_neg c2] at h; cases h
  · rw [if_neg c] at h; exact absurd h c
theorem n_sh31 : ∀ v, v < 100 → (1 : Int32) <<< (nI v &&& 31) = nI (2 ^ (v % 32)) := by decide +kernel
section
variable {E : Wd} {h0 h : Hp} {M : Nat} {A0 A : Nat → Nat → Int32} {f0 f : Nat → Int32} {d L : Nat} {B : Nat → Nat} {r : Rr}
theorem RX.set (R : Rf E h0 h M A f) (Y : RY A0 f0 A f) (P : RR A f L r) {F : Gm → Gm} {i x : Int32} (hF : r.1 = true → rA (A 3) r.2.2 → rA (up2 A 3 i.toNatClampNeg x 3) (F r.2.2)) (hn : szG r.2.2 → szG (F r.2.2)) : RX E h0 M A0 f0 L (sA h (M + 3) i x) (onG F r) :=
  ⟨_, f, R.st (j := 3) i x rfl, Y.st _ x, P.1, P.2.1, P.2.2.1, fun c => ⟨hF c (P.2.2.2 c).1, hn (P.2.2.2 c).2⟩⟩
theorem k_passNumber {Q : Int32 → Hp → Prop} (hT : RTp A0 f0 L B) (K : RX E h0 M A0 f0 L h r) (hq : ∀ h', RX E h0 M A0 f0 L h' (rnm L B r).1 → Q (nI (rnm L B r).2) h') : OkI E YX8_passNumber (d + 3) [.ref M] h Q := by
  refine rnX8_passNumber ?_
  obtain ⟨A, f, R, Y, P⟩ := K
  refine ⟨⟨_, R.obj⟩, k_passDigit (lo := 48) (hi := 57) hT ⟨A, f, R, Y, P⟩ (by omega) (by omega) (by omega) (fun h1 K1 => ?_)⟩
  have h9 := @rdg_lt L B r
  rw [show (0 : Int32) = nI 0 from rfl, nI_leI (by omega) (by omega)]
  unfold rnm at hq
  refine ⟨fun c => ?_, fun c => ?_⟩
  · rw [if_neg (fun q => by omega)] at hq
    exact hq h1 K1
  · obtain ⟨A1, f1, R1, Y1, P1⟩ := id K1
    refine ⟨⟨_, R1.obj⟩, k_sees (lo := 48) (hi := 57) hT K1 (by omega) (by omega) (bI_c (fun c2 => ?_) (fun c2 => ?_))⟩
    · rw [if_neg (fun q => by rw [c2] at q; exact Bool.noConfusion q.2)] at hq
      exact hq h1 K1
    · rw [if_pos ⟨by omega, c2⟩] at hq
      refine ⟨⟨_, R1.obj⟩, k_passDigit (lo := 48) (hi := 57) hT K1 (by omega) (by omega) (by omega) (fun h2 K2 => ?_)⟩
      rw [show (10 : Int32) = nI 10 from rfl, pk_mul, nI_add]
      exact hq h2 K2
theorem k_passSquare {Q : Hp → Prop} (hT : RTp A0 f0 L B) (K : RX E h0 M A0 f0 L h r) (hq : ∀ h', RX E h0 M A0 f0 L h' (rsq L B r) → Q h') : OkV E YX8_passSquare (d + 4) [.ref M] h Q := by
  refine rnX8_passSquare ?_
  obtain ⟨A, f, R, Y, P⟩ := K
  simp only [vcX8_passSquare_0, R.fs, true_and]
  refine k_passNumber hT ⟨A, f, R, Y, P⟩ (fun h1 K1 => ?_)
  obtain ⟨A1, f1, R1, Y1, P1⟩ := id K1
  have hv := @rnm_lt L B r
  unfold rsq at hq
  obtain ⟨r1, hr1⟩ : ∃ r1, (rnm L B r).1 = r1 := ⟨_, rfl⟩
  obtain ⟨v, ev⟩ : ∃ v, (rnm L B r).2 = v := ⟨_, rfl⟩
  rw [hr1, ev] at hq
  rw [hr1] at P1 K1
  rw [ev] at hv ⊢
  -- the last step, wrong or not
  have wrong : ∀ h2 r2, r2.1 = false → RX E h0 M A0 f0 L h2 r2 → (∀ h', RX E h0 M A0 f0 L h' r2 → Q h') → vcX8_passSquare_44 E (d + 3) M (nI v) h2 Q := fun h2 r2 hf K2 hq2 => by
    obtain ⟨A2, f2, R2, Y2, P2⟩ := K2
    simp only [vcX8_passSquare_44, R2.fs, true_and, R2.oR 3 4 rfl rfl (vpd rfl), P2.1, hf]
    refine ⟨fun q => absurd q (by decide), fun _ h3 e3 => ?_⟩
    subst e3
    have := RX.set (F := id) (i := 4) (x := gA h2 (M + 3) 4 ||| 0) R2 Y2 P2 (fun c _ => by rw [hf] at c; cases c) id
    exact hq2 _ this
  simp only [R1.fs, true_and, P1.1]
  refine bI_c' (fun c => ?_) (fun c => ?_)
  · have c : r1.1 = true := by simpa using c
    obtain ⟨hA, hn, hn6, hn7⟩ := P1.2.2.2 c
    have g0 : gA h1 (M + 3) 0 = nI (qw r1.2.2) := by rw [R1.gR 3 0 rfl]; exact hA.1
    have g1 : gA h1 (M + 3) 1 = nI (qh r1.2.2) := by rw [R1.gR 3 1 rfl]; exact hA.2.1
    have hprod : qw r1.2.2 * qh r1.2.2 ≤ 36 := Nat.le_trans (Nat.mul_le_mul hn6 hn7) (by omega)
    simp only [R1.fs, true_and, g0, g1, R1.oR 3 0 rfl rfl (vpd rfl), R1.oR 3 1 rfl rfl (vpd rfl), pk_mul, nI_ltI (show v < 2 ^ 31 by omega) (show qw r1.2.2 * qh r1.2.2 < 2 ^ 31 by omega)]
    rw [c, if_pos rfl] at hq
    refine ⟨fun c2 => ?_, fun c2 => ?_⟩
    · rw [if_pos c2] at hq
      have g4 : gA h1 (M + 3) 4 = nI (qo r1.2.2) := by rw [R1.gR 3 4 rfl]; exact hA.2.2.2.2.1
      have e3 : f1 3 = 0 := by rw [P1.1, c]; rfl
      simp only [vcX8_passSquare_44, R1.fs, true_and, R1.oR 3 4 rfl rfl (vpd rfl), e3, g4]
      refine ⟨fun _ h3 e3 => ?_, fun q => absurd trivial q⟩
      subst e3
      rw [n_sh31 v hv, nx_or]
      exact hq _ (RX.set (F := fun g => gO g (qo g ||| 2 ^ (v % 32))) R1 Y1 P1 (fun _ hA => rA_4 _ hA) (fun q => q))
    · rw [if_neg c2] at hq
      refine ⟨Or.inr rfl, fun h3 e3 => ?_⟩
      subst e3
      have R3 := R1.put (k := 3) (x := 1) rfl
      simp only [R3.fs, true_and]
      intro h4 e4
      subst e4
      have R4 := R3.put (k := 2) (x := f 2) rfl
      exact wrong _ (false, r.2.1, r1.2.2) rfl ⟨A1, _, R4, (Y1.p3 1).p2 _, rfl, P.2.1, P.2.2.1, fun e => Bool.noConfusion e⟩ hq
  · have c : r1.1 = false := by simpa using c
    rw [c, if_neg (by decide)] at hq
    exact wrong h1 r1 c K1 hq
theorem k_passClause {Q : Hp → Prop} (hT : RTp A0 f0 L B) (K : RX E h0 M A0 f0 L h r) (hq : ∀ h', RX E h0 M A0 f0 L h' (rcl L B r) → Q h') : OkV E YX8_passClause (d + 5) [.ref M] h Q := by
  refine rnX8_passClause (fun K13 k13 => ?_)
  have hL : L ≤ 40 := hT.2.1
  have loop : ∀ k r, L < k + r.2.1 ∨ r.1 = false → ∀ h, RX E h0 M A0 f0 L h r → (∀ h', RX E h0 M A0 f0 L h' (rhc L B k r) → Q h') → K13 M h := by
    intro k
    induction k with
    | zero =>
      intro r hk h K hq
      refine k13 _ _ ?_
      obtain ⟨A, f, R, Y, P⟩ := id K
      refine ⟨⟨_, R.obj⟩, k_passes (c := 44) hT K (by omega) (fun h1 K1 => bI_c (fun c => ?_) (fun c => ?_))⟩
      · rw [rtk, if_neg (by rw [c]; decide)] at K1
        exact hq h1 K1
      · have := see_stp c
        rcases hk with hk | hk
        · omega
        · rw [hk] at this; cases this.1
    | succ k ih =>
      intro r hk h K hq
      refine k13 _ _ ?_
      obtain ⟨A, f, R, Y, P⟩ := id K
      rw [rhc] at hq
      refine ⟨⟨_, R.obj⟩, k_passes (c := 44) hT K (by omega) (fun h1 K1 => bI_c (fun c => ?_) (fun c => ?_))⟩
      · rw [rtk, if_neg (by rw [c]; decide)] at K1
        rw [if_neg (by rw [c]; decide)] at hq
        exact hq h1 K1
      · rw [rtk, if_pos c] at K1
        rw [if_pos c] at hq
        obtain ⟨A1, f1, R1, Y1, P1⟩ := id K1
        refine ⟨⟨_, R1.obj⟩, k_passSquare hT K1 (fun h2 K2 => ih _ ?_ h2 K2 hq)⟩
        have hs := see_stp c
        by_cases q : (rsq L B (stp r)).1 = true
        · have := rsq_at q
          have e : (stp r).2.1 = r.2.1 + 1 := rfl
          rcases hk with hk | hk
          · left; omega
          · rw [hk] at hs; cases hs.1
        · right; simpa using q
  obtain ⟨A, f, R, Y, P⟩ := id K
  have hat := P.2.2.1
  unfold rcl at hq
  refine ⟨⟨_, R.obj⟩, k_passes (c := 120) hT K (by omega) (fun h1 K1 => bI_c (fun c => ?_) (fun c => ?_))⟩
  · rw [rtk, if_neg (by rw [c]; decide)] at K1
    rw [if_neg (by rw [c]; decide)] at hq
    obtain ⟨A1, f1, R1, Y1, P1⟩ := id K1
    refine ⟨⟨_, R1.obj⟩, k_passes (c := 109) hT K1 (by omega) (fun h2 K2 => bI_c (fun c2 => ?_) (fun c2 => ?_))⟩
    · rw [rtk, if_neg (by rw [c2]; decide)] at K2
      rw [if_neg (by rw [c2]; decide)] at hq
      obtain ⟨A2, f2, R2, Y2, P2⟩ := id K2
      refine ⟨⟨_, R2.obj⟩, k_passes (c := 100) hT K2 (by omega) (fun h3 K3 => bI_c (fun c3 => ?_) (fun c3 => ?_))⟩
      · rw [rtk, if_neg (by rw [c3]; decide)] at K3
        rw [if_neg (by rw [c3]; decide)] at hq
        obtain ⟨A3, f3, R3, Y3, P3⟩ := id K3
        refine ⟨⟨_, R3.obj⟩, k_passes (c := 108) hT K3 (by omega) (fun h4 K4 => bI_c (fun c4 => ?_) (fun c4 => ?_))⟩
        · rw [rtk, if_neg (by rw [c4]; decide)] at K4
          rw [if_neg (by rw [c4]; decide)] at hq
          obtain ⟨A4, f4, R4, Y4, P4⟩ := id K4
          refine ⟨⟨_, R4.obj⟩, k_passes (c := 119) hT K4 (by omega) (fun h5 K5 => bI_c (fun c5 => ?_) (fun c5 => ?_))⟩
          · rw [rtk, if_neg (by rw [c5]; decide)] at K5
            rw [if_neg (by rw [c5]; decide)] at hq
            obtain ⟨A5, f5, R5, Y5, P5⟩ := id K5
            simp only [R5.fs, true_and]
            refine ⟨Or.inr rfl, fun h6 e6 => ?_⟩
            subst e6
            exact hq _ (RX.bad R5 Y5 P5)
          · rw [rtk, if_pos c5] at K5
            rw [if_pos c5] at hq
            obtain ⟨A5, f5, R5, Y5, P5⟩ := id K5
            simp only [R5.fs, true_and, R5.oR 3 5 rfl rfl (vpd rfl)]
            intro h6 e6
            subst e6
            exact hq _ (RX.set (F := fun g => gS g 1) R5 Y5 P5 (fun _ hA => rA_5 _ hA) (fun q => q))
        · rw [rtk, if_pos c4] at K4
          rw [if_pos c4] at hq
          obtain ⟨A5, f5, R5, Y5, P5⟩ := id K4
          simp only [R5.fs, true_and, R5.oR 3 5 rfl rfl (vpd rfl)]
          intro h6 e6
          subst e6
          exact hq _ (RX.set (F := fun g => gS g (-1)) R5 Y5 P5 (fun _ hA => rA_5 _ hA) (fun q => q))
      · rw [rtk, if_pos c3] at K3
        rw [if_pos c3] at hq
        obtain ⟨A5, f5, R5, Y5, P5⟩ := id K3
        simp only [R5.fs, true_and, R5.oR 3 5 rfl rfl (vpd rfl)]
        intro h6 e6
        subst e6
        exact hq _ (RX.set (F := fun g => gS g 0) R5 Y5 P5 (fun _ hA => rA_5 _ hA) (fun q => q))
    · rw [rtk, if_pos c2] at K2
      rw [if_pos c2] at hq
      obtain ⟨A2, f2, R2, Y2, P2⟩ := id K2
      simp only [R2.fs, true_and]
      refine k_passNumber hT K2 (fun h3 K3 => ?_)
      obtain ⟨A5, f5, R5, Y5, P5⟩ := id K3
      refine ⟨R5.oR 3 6 rfl rfl (vpd rfl), fun h6 e6 => ?_⟩
      subst e6
      exact hq _ (RX.set (F := fun g => gL g (nI (rnm L B (stp r)).2)) R5 Y5 P5 (fun _ hA => rA_6 _ hA) (fun q => q))
  · rw [rtk, if_pos c] at K1
    rw [if_pos c] at hq
    obtain ⟨A1, f1, R1, Y1, P1⟩ := id K1
    exact ⟨⟨_, R1.obj⟩, k_passSquare hT K1 (fun h2 K2 => loop 41 _ (by
      by_cases q : (rsq L B (stp r)).1 = true
      · have := rsq_at q
        have e : (stp r).2.1 = r.2.1 + 1 := rfl
        left; omega
      · right; simpa using q) h2 K2 hq)⟩
end
