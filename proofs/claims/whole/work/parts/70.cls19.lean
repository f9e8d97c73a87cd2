theorem rsz_v {L : Nat} {B : Nat → Nat} : (see L B 50 54 (true, 0, g00) = false → (rsz L B).1 = false ∧ (rsz L B).2.1 = 0) ∧ (see L B 50 54 (true, 0, g00) = true → (see L B 50 54 (true, 1, gW' g00 (B 0 - 48)) = false → (rsz L B).1 = false ∧ (rsz L B).2.1 = 1) ∧ (see L B 50 54 (true, 1, gW' g00 (B 0 - 48)) = true → (12 < (B 0 - 48) * (B 1 - 48) → (rsz L B).1 = false ∧ (rsz L B).2.1 = 1) ∧ (¬ 12 < (B 0 - 48) * (B 1 - 48) → rsz L B = (true, 2, gH (gW' g00 (B 0 - 48)) (B 1 - 48))))) := by
  refine ⟨fun s1 => ?_, fun s1 => ?_⟩
  · have e1 : rdg L B 50 54 (true, 0, g00) = (bad (true, 0, g00), 0) := by rw [rdg, if_neg (by rw [s1]; decide)]
    have e2 : rwd L B = (false, 0, gW' g00 0) := by rw [rwd, e1]; rfl
    have e3 : rdg L B 50 54 (rwd L B) = (bad (rwd L B), 0) := by rw [rdg, if_neg (by rw [see_iff, e2]; intro q; cases q.1)]
    have e4 : rht L B = (false, 0, gH (gW' g00 0) 0) := by rw [rht, e3, e2]; rfl
    rw [rsz, e4, if_neg (by intro q; cases q.1)]; exact ⟨rfl, rfl⟩
  · have e1 : rdg L B 50 54 (true, 0, g00) = (stp (true, 0, g00), B 0 - 48) := by rw [rdg, if_pos s1]
    have e2 : rwd L B = (true, 1, gW' g00 (B 0 - 48)) := by rw [rwd, e1]; rfl
    refine ⟨fun s2 => ?_, fun s2 => ?_⟩
    · have e3 : rdg L B 50 54 (rwd L B) = (bad (rwd L B), 0) := by rw [rdg, e2, if_neg (by rw [s2]; decide)]
      have e4 : rht L B = (false, 1, gH (gW' g00 (B 0 - 48)) 0) := by rw [rht, e3, e2]; rfl
      rw [rsz, e4, if_neg (by intro q; cases q.1)]; exact ⟨rfl, rfl⟩
    · have e3 : rdg L B 50 54 (rwd L B) = (stp (rwd L B), B 1 - 48) := by rw [rdg, e2, if_pos s2]
      have e4 : rht L B = (true, 2, gH (gW' g00 (B 0 - 48)) (B 1 - 48)) := by rw [rht, e3, e2]; rfl
      rw [rsz, e4]
      refine ⟨fun q => ?_, fun q => ?_⟩
      · rw [if_pos ⟨rfl, q⟩]; exact ⟨rfl, rfl⟩
      · rw [if_neg (fun z => q z.2)]
section
variable {E : Wd} {h hb : Hp} {t tp L : Nat} {B : Nat → Nat} {r : Rr} {d : Nat}
theorem dgt_c (K : Kt E h t tp L B r) : (see L B 50 54 r = true → dgt L B r = nI (B r.2.1 - 48) ∧ 2 ≤ B r.2.1 - 48 ∧ B r.2.1 - 48 ≤ 6) ∧ (see L B 50 54 r = false → dgt L B r < 2 ∨ ¬ dgt L B r ≤ 6) := by
  refine ⟨fun s => ?_, fun s => ?_⟩
  · have := see_iff.mp s
    rw [dgt, if_pos (see_iff.mpr ⟨this.1, this.2.1, by omega, by omega⟩)]
    exact ⟨rfl, by omega, by omega⟩
  · unfold dgt
    by_cases s2 : see L B 48 57 r = true
    · rw [if_pos s2]
      have := see_iff.mp s2
      have n : ¬ (50 ≤ B r.2.1 ∧ B r.2.1 ≤ 54) := fun q => by
        rw [see_iff.mpr ⟨this.1, this.2.1, q.1, q.2⟩] at s; cases s
      rw [show (2 : Int32) = nI 2 from rfl, show (6 : Int32) = nI 6 from rfl, nI_ltI (by omega) (by omega), nI_leI (by omega) (by omega)]
      omega
    · rw [if_neg s2]; exact Or.inl (by decide)
theorem c_readSize {Q : Int32 → Hp → Prop} (K : Kt E h t tp L B (true, 0, g00)) (hq : ∀ h', Fr2 h h' t → RdR E h' t tp L B (rsz L B) → Q (bI (rsz L B).1) h') : OkI E YX3_readSize (d + 2) [.ref t] h Q := by
  refine rnX3_readSize ⟨⟨_, K.1⟩, c_digitAhead K ?_⟩
  obtain ⟨z1, z2⟩ := @rsz_v L B
  have fail : ∀ h' p, Fr2 h h' t → Kf h' t p → (rsz L B).1 = false ∧ (rsz L B).2.1 = p → Q 0 h' := fun h' p F K' e => by
    have := hq h' F ⟨fun q => (by rw [e.1] at q; cases q), fun _ => by rw [e.2]; exact K'⟩
    rw [e.1] at this; exact this
  obtain ⟨d1, d2⟩ := dgt_c K
  simp only [K.fs, true_and]
  intro h3 e3
  have F3 : Fr2 h h3 t := by rw [e3]; exact K.fr
  have B3 : Kf h3 t 0 := by rw [e3]; exact K.bad1 (by decide)
  have o3 : okI h3 t 3 3 ∧ fI h3 t 3 = dgt L B (true, 0, g00) := by
    have e : h3.2 t = some (.inr (3, (rdf t tp L (true, 0, g00)).set 3 (.int (dgt L B (true, 0, g00))))) := by rw [e3]; simp [pF, K.1]
    exact ⟨⟨_, _, e, rfl⟩, by show vI (hF h3 t 3) = _; rw [hF_of e rfl]; rfl⟩
  simp only [o3, true_and]
  by_cases s1 : see L B 50 54 (true, 0, g00) = true
  · obtain ⟨v1, v2, v3⟩ := d1 s1
    obtain ⟨z3, z4⟩ := z2 s1
    have K3 : Kt E h3 t tp L B (true, 0, gW' g00 (B 0 - 48)) := by
      rw [e3, v1]; exact K.up rfl (Nat.zero_le _) rfl rfl rfl ⟨v3, Nat.zero_le _⟩
    clear e3
    have sL := (see_iff.mp s1).2.1
    have sL : 0 < L := sL
    obtain ⟨v, hv⟩ : ∃ v, v = B 0 - 48 := ⟨_, rfl⟩
    rw [v1]
    rw [← hv] at K3 z3 z4
    have v2 : 2 ≤ v := by rw [hv]; exact v2
    have v3 : v ≤ 6 := by rw [hv]; exact v3
    rw [show nI (B (true, 0, g00).2.1 - 48) = nI v by rw [hv]]
    refine ⟨fun q => absurd q (by rw [show (2 : Int32) = nI 2 from rfl, nI_ltI (by omega) (by omega)]; omega), fun _ => ⟨fun _ => ?_, fun q => absurd (by rw [show (6 : Int32) = nI 6 from rfl]; exact nI_le v3 (by omega)) q⟩⟩
    simp only [K3.fs, true_and]
    intro h4 e4
    have K4 : Kt E h4 t tp L B (true, 1, gW' g00 v) := by
      rw [e4, nI_1]; exact K3.stp (r := (true, 0, gW' g00 v)) (by show 0 + 1 ≤ L; omega)
    have F4 : Fr2 h h4 t := by rw [e4]; exact F3.tr K3.fr
    clear e4
    refine ⟨⟨_, K4.1⟩, c_digitAhead K4 ?_⟩
    obtain ⟨d3, d4⟩ := dgt_c K4
    simp only [K4.fs, true_and]
    intro h7 e7
    have F7 : Fr2 h h7 t := by rw [e7]; exact F4.tr K4.fr
    have B7 : Kf h7 t 1 := by rw [e7]; exact K4.bad1 (by decide)
    have o7 : okI h7 t 3 4 ∧ fI h7 t 4 = dgt L B (true, 1, gW' g00 v) := by
      have e : h7.2 t = some (.inr (3, (rdf t tp L (true, 1, gW' g00 v)).set 4 (.int (dgt L B (true, 1, gW' g00 v))))) := by rw [e7]; simp [pF, K4.1]
      exact ⟨⟨_, _, e, rfl⟩, by show vI (hF h7 t 4) = _; rw [hF_of e rfl]; rfl⟩
    simp only [o7, true_and]
    by_cases s2 : see L B 50 54 (true, 1, gW' g00 v) = true
    · obtain ⟨w1, w2, w3⟩ := d3 s2
      obtain ⟨z5, z6⟩ := z4 s2
      have K7 : Kt E h7 t tp L B (true, 1, gH (gW' g00 v) (B 1 - 48)) := by
        rw [e7, w1]; exact K4.up rfl K4.2.2.2.1.1 rfl rfl rfl ⟨v3, w3⟩
      clear e7
      have sL2 : 1 < L := (see_iff.mp s2).2.1
      obtain ⟨u, hu⟩ : ∃ u, u = B 1 - 48 := ⟨_, rfl⟩
      rw [w1]
      rw [← hu] at K7 z5 z6
      have w2 : 2 ≤ u := by rw [hu]; exact w2
      have w3 : u ≤ 6 := by rw [hu]; exact w3
      rw [show nI (B (true, 1, gW' g00 v).2.1 - 48) = nI u by rw [hu]]
      refine ⟨fun q => absurd q (by rw [show (2 : Int32) = nI 2 from rfl, nI_ltI (by omega) (by omega)]; omega), fun _ => ⟨fun _ => ?_, fun q => absurd (by rw [show (6 : Int32) = nI 6 from rfl]; exact nI_le w3 (by omega)) q⟩⟩
      have huv : v * u ≤ 36 := Nat.mul_le_mul v3 w3
      simp only [K7.fs, true_and]
      rw [show nI (qw (gH (gW' g00 v) u)) * nI u = nI (v * u) from pk_mul v u]
      rw [show (12 : Int32) = nI 12 from rfl, nI_leI (by omega) (by omega)]
      refine ⟨fun q h8 e8 => ⟨Or.inr rfl, ?_⟩, fun q => ⟨Or.inl rfl, fail h7 1 F7 B7 (z5 (by omega))⟩⟩
      have K8 : Kt E h8 t tp L B (rsz L B) := by
        rw [e8, nI_1, z6 (by omega)]; exact K7.stp (r := (true, 1, gH (gW' g00 v) u)) (by show 1 + 1 ≤ L; omega)
      have := hq h8 (by rw [e8]; exact F7.tr K7.fr) K8.rd
      rw [K8.2.2.2.2] at this; exact this
    · have s2 : see L B 50 54 (true, 1, gW' g00 v) = false := by simpa using s2
      have f7 := fail h7 1 F7 B7 (z3 s2)
      refine ⟨fun _ => ⟨Or.inl rfl, f7⟩, fun q => ⟨fun q2 => ?_, fun _ => ⟨Or.inl rfl, f7⟩⟩⟩
      rcases d4 s2 with z | z
      · exact absurd z q
      · exact absurd q2 z
  · have s1 : see L B 50 54 (true, 0, g00) = false := by simpa using s1
    have f3 := fail h3 0 F3 B3 (z1 s1)
    refine ⟨fun _ => ⟨Or.inl rfl, f3⟩, fun q => ⟨fun q2 => ?_, fun _ => ⟨Or.inl rfl, f3⟩⟩⟩
    rcases d2 s1 with z | z
    · exact absurd z q
    · exact absurd q2 z
theorem c_readClause {Q : Int32 → Hp → Prop} (K : Kt E h t tp L B r) (hq : ∀ h', Fr2 h h' t → RdR E h' t tp L B (rcl L B r) → Q (bI (rcl L B r).1) h') : OkI E YX3_readClause (d + 4) [.ref t] h Q := by
  obtain ⟨z, hz⟩ : ∃ z, z = rcl L B r := ⟨_, rfl⟩
  rw [← hz] at hq
  unfold rcl at hz
  have hr := K.2.2.2.2
  have setS : ∀ h' x, Kt E h' t tp L B (stp r) → Fr2 h h' t → z = onG (fun g => gS g x) (stp r) → okP h' t 3 8 ∧ ∀ h11, h11 = pF h' t 8 (.int x) → mB 1 ∧ Q 1 h11 := fun h' x K' F e => by
    simp only [K'.fs, true_and]
    intro h11 e11
    subst e11
    have K3 : Kt E (pF h' t 8 (.int x)) t tp L B z := by
      rw [e]; exact K'.up rfl K'.2.2.2.1.1 hr rfl rfl K'.2.2.2.1.2.2.2.2
    have := hq _ (F.tr K'.fr) K3.rd
    rw [K3.2.2.2.2] at this
    exact ⟨Or.inr rfl, this⟩
  refine rnX3_readClause ⟨⟨_, K.1⟩, c_take (c := 120) K (by omega) (fun s1 => ⟨fun _ => ?_, fun q => absurd rfl q⟩) (fun s1 h1 K1 F1 => ⟨fun q => absurd q (by decide), fun _ => ?_⟩)⟩
  · rw [if_neg (by rw [s1]; decide)] at hz
    refine ⟨⟨_, K.1⟩, c_take (c := 109) K (by omega) (fun s2 => ⟨fun _ => ?_, fun q => absurd rfl q⟩) (fun s2 h1 K1 F1 => ⟨fun q => absurd q (by decide), fun _ => ?_⟩)⟩
    · rw [if_neg (by rw [s2]; decide)] at hz
      refine ⟨⟨_, K.1⟩, c_take (c := 100) K (by omega) (fun s3 => ⟨fun _ => ?_, fun q => absurd rfl q⟩) (fun s3 h1 K1 F1 => ⟨fun q => absurd q (by decide), fun _ => ?_⟩)⟩
      · rw [if_neg (by rw [s3]; decide)] at hz
        refine ⟨⟨_, K.1⟩, c_take (c := 108) K (by omega) (fun s4 => ⟨fun _ => ?_, fun q => absurd rfl q⟩) (fun s4 h1 K1 F1 => ⟨fun q => absurd q (by decide), fun _ => ?_⟩)⟩
        · rw [if_neg (by rw [s4]; decide)] at hz
          refine ⟨⟨_, K.1⟩, c_take (c := 119) K (by omega) (fun s5 => ⟨fun _ => ?_, fun q => absurd rfl q⟩) (fun s5 h1 K1 F1 => ⟨fun q => absurd q (by decide), fun _ => ?_⟩)⟩
          · rw [if_neg (by rw [s5]; decide)] at hz
            have := hq h (Fr2.rfl h t) (by rw [hz]; exact ⟨fun q => (by cases q), fun _ => K.bad0⟩)
            rw [hz] at this
            exact ⟨Or.inl rfl, this⟩
          · rw [if_pos s5] at hz
            exact setS h1 1 K1 F1 hz
        · rw [if_pos s4] at hz
          exact setS h1 (-1) K1 F1 hz
      · rw [if_pos s3] at hz
        exact setS h1 0 K1 F1 hz
    · rw [if_pos s2] at hz
      refine ⟨⟨_, K1.1⟩, c_readLimit K1 (fun h2 F2 R2 => ⟨bI_m _, ?_⟩)⟩
      rw [← hz] at R2
      have := hq h2 (F1.tr F2) R2
      rw [hz] at this; exact this
  · rw [if_pos s1] at hz
    refine ⟨⟨_, K1.1⟩, c_readHoles K1 (fun h2 F2 R2 => ⟨bI_m _, ?_⟩)⟩
    rw [← hz] at R2 ⊢
    exact hq h2 (F1.tr F2) R2
theorem c_isGame {Q : Int32 → Hp → Prop} (K : Kt E h t tp L B (true, 0, g00)) (hq : ∀ h', Fr2 h h' t → RdR E h' t tp L B (rgm L B) → Q (bI (rgm L B).1) h') : OkI E YX3_isGame (d + 7) [.ref t] h Q := by
  refine rnX3_isGame (fun K53 k53 => ?_)
  have hL := K.2.2.1.1
  have fail : ∀ h' p, Fr2 h h' t → Kf h' t p → (rgm L B).1 = false ∧ (rgm L B).2.1 = p → Q 0 h' := fun h' p F K' e => by
    have := hq h' F ⟨fun q => (by rw [e.1] at q; cases q), fun _ => by rw [e.2]; exact K'⟩
    rw [e.1] at this; exact this
  have L94 : ∀ h' r', Fr2 h h' t → Kt E h' t tp L B r' → L ≤ r'.2.1 → rgm L B = r' → vcX3_isGame_94 E (d + 6) K53 t h' Q := fun h' r' F K' hl e => by
    have hL' := K'.2.2.2.1.1
    rw [vcX3_isGame_94]
    simp only [K'.fs, true_and]
    rw [nI_ltI (by omega) (by omega)]
    refine ⟨fun q => absurd q (by omega), fun _ => ⟨Or.inr rfl, ?_⟩⟩
    have := hq h' F (by rw [e]; exact K'.rd)
    rw [e, K'.2.2.2.2] at this; exact this
  have loop : ∀ k j r', k + j = 40 → j ≤ r'.2.1 → ∀ h', Fr2 h h' t → Kt E h' t tp L B r' → rgm L B = rcL L B (k + 1) r' → K53 t (nI j) h' := by
    intro k
    induction k with
    | zero =>
      intro j r' hj hat h' F K' e
      have hL' := K'.2.2.2.1.1
      refine k53 _ _ _ ?_
      rw [vcX3_isGame_53, show (40 : Int32) = nI 40 from rfl, nI_leI (by omega) (by omega)]
      refine ⟨fun _ => L94 h' r' F K' (by omega) ?_, fun q => absurd (by omega) q⟩
      rw [e, rcL, decide_eq_false (by omega), Bool.and_false, if_neg (by decide)]
    | succ k ih =>
      intro j r' hj hat h' F K' e
      have hL' := K'.2.2.2.1.1
      refine k53 _ _ _ ?_
      rw [vcX3_isGame_53, show (40 : Int32) = nI 40 from rfl, nI_leI (by omega) (by omega)]
      simp only [K'.fs, true_and]
      rw [nI_leI (by omega) (by omega)]
      refine ⟨fun q => absurd q (by omega), fun _ => ⟨fun q => L94 h' r' F K' q ?_, fun q => ?_⟩⟩
      · rw [e, rcL, decide_eq_false (by omega), Bool.and_false, if_neg (by decide)]
      · rw [rcL, decide_eq_true (by omega), K'.2.2.2.2, Bool.true_and, if_pos rfl] at e
        refine c_take (c := 59) K' (by omega) (fun s => ?_) (fun s h5 K5 F5 => ?_)
        · rw [if_neg (by rw [s]; decide)] at e
          exact ⟨fun _ => ⟨Or.inl rfl, fail h' _ F K'.bad0 (by rw [e]; exact ⟨rfl, rfl⟩)⟩, fun q => absurd rfl q⟩
        · rw [if_pos s] at e
          refine ⟨fun q => absurd q (by decide), fun _ => ⟨⟨_, K5.1⟩, c_readClause K5 (fun h6 F6 R6 => ?_)⟩⟩
          refine bI_c' (fun c => ?_) (fun c => ?_)
          · rw [rcL_f c] at e
            exact ⟨Or.inl rfl, fail h6 _ ((F.tr F5).tr F6) (R6.2 c) (by rw [e]; exact ⟨c, rfl⟩)⟩
          · have at6 := rcl_at c
            have at6 : r'.2.1 + 1 ≤ (rcl L B (stp r')).2.1 := at6
            rw [nI_1]
            exact ih (j + 1) _ (by omega) (by omega) h6 ((F.tr F5).tr F6) (R6.1 c) e
  refine ⟨⟨_, K.1⟩, c_readSize K (fun h1 F1 R1 => ?_)⟩
  obtain ⟨ra, hra⟩ : ∃ ra, ra = rsz L B := ⟨_, rfl⟩
  have f1 := @rsz_f L B
  have f2 := @rg1_f L B
  have f3 := @rg2_f L B
  have f4 := @rgm_f L B
  have e1 : rg1 L B = onG gB (rmn L B (rsp L B 59 ra)) := by rw [hra]; rfl
  have e2 : rg2 L B = rmn L B (rsp L B 45 (rg1 L B)) := rfl
  rw [← hra] at R1 f1 f2 ⊢
  refine bI_c (fun c => ⟨Or.inl rfl, ?_⟩) (fun c => ?_)
  · rw [rsp_f c] at f1
    exact fail h1 _ F1 (R1.2 c) (f1 rfl)
  · have K1 := R1.1 c
    refine ⟨⟨_, K1.1⟩, c_take (c := 59) K1 (by omega) (fun s => ?_) (fun s h3 K3 F3 => ?_)⟩
    · have e3 : rsp L B 59 ra = bad ra := by rw [rsp, if_neg (by rw [s]; decide)]
      rw [e3] at f1
      exact ⟨fun _ => ⟨Or.inl rfl, fail h1 _ F1 K1.bad0 (f1 rfl)⟩, fun q => absurd rfl q⟩
    · have e3 : rsp L B 59 ra = stp ra := by rw [rsp, if_pos s]
      rw [e3] at f2 e1
      refine ⟨fun q => absurd q (by decide), fun _ => ⟨⟨_, K3.1⟩, c_readMen K3 (fun h5 F5 R5 => ?_)⟩⟩
      obtain ⟨rb, hrb⟩ : ∃ rb, rb = rmn L B (stp ra) := ⟨_, rfl⟩
      rw [← hrb] at f2 e1 R5 ⊢
      refine bI_c' (fun c5 => ⟨Or.inl rfl, fail h5 _ ((F1.tr F3).tr F5) (R5.2 c5) (f2 c5)⟩) (fun c5 => ?_)
      have K5 := R5.1 c5
      simp only [K5.fs, true_and]
      intro h7 e7
      have K7 : Kt E h7 t tp L B (rg1 L B) := by
        rw [e7, e1]; exact K5.up rfl K5.2.2.2.1.1 c5 rfl rfl K5.2.2.2.1.2.2.2.2
      have F7 : Fr2 h h7 t := by rw [e7]; exact ((F1.tr F3).tr F5).tr K5.fr
      clear e7
      obtain ⟨rc, hrc⟩ : ∃ rc, rc = rg1 L B := ⟨_, rfl⟩
      rw [← hrc] at K7 e2 f3
      refine ⟨⟨_, K7.1⟩, c_take (c := 45) K7 (by omega) (fun s => ?_) (fun s h8 K8 F8 => ?_)⟩
      · have e4 : rsp L B 45 rc = bad rc := by rw [rsp, if_neg (by rw [s]; decide)]
        rw [e4, rmn_f rfl] at e2
        rw [e2] at f4
        exact ⟨fun _ => ⟨Or.inl rfl, fail h7 _ F7 K7.bad0 (f4 rfl)⟩, fun q => absurd rfl q⟩
      · have e4 : rsp L B 45 rc = stp rc := by rw [rsp, if_pos s]
        rw [e4] at e2
        refine ⟨fun q => absurd q (by decide), fun _ => ⟨⟨_, K8.1⟩, c_readMen K8 (fun h10 F10 R10 => ?_)⟩⟩
        rw [← e2] at R10 ⊢
        refine bI_c' (fun c10 => ⟨Or.inl rfl, fail h10 _ ((F7.tr F8).tr F10) (R10.2 c10) (f4 c10)⟩) (fun c10 => ?_)
        exact loop 40 0 _ rfl (Nat.zero_le _) h10 ((F7.tr F8).tr F10) (R10.1 c10) rfl
end
