def kdG (g : Gm) : Prop := (∀ m, qk g m < 10) ∧ qV g
theorem rmL_iv {L : Nat} {B : Nat → Nat} : ∀ k r, (rmL L B k r).1 = true → r.1 = true ∧ qw (rmL L B k r).2.2 = qw r.2.2 ∧ qh (rmL L B k r).2.2 = qh r.2.2 ∧ qb (rmL L B k r).2.2 = qb r.2.2 ∧ qo (rmL L B k r).2.2 = qo r.2.2 ∧ qn r.2.2 ≤ qn (rmL L B k r).2.2 ∧ (qn r.2.2 ≤ 3 → qn (rmL L B k r).2.2 ≤ 3) ∧ (kdG r.2.2 → kdG (rmL L B k r).2.2) ∧ (0 < k → (rlt L B r).isSome = true → qn r.2.2 < qn (rmL L B k r).2.2)
  | 0, r, h => ⟨h, rfl, rfl, rfl, rfl, Nat.le_refl _, fun q => q, fun q => q, fun q => absurd q (Nat.lt_irrefl _)⟩
  | k + 1, r, h => by
    rw [rmL] at h ⊢
    cases hl : rlt L B r with
    | none =>
      rw [hl] at h
      exact ⟨h, rfl, rfl, rfl, rfl, Nat.le_refl _, fun q => q, fun q => q, fun _ q => Bool.noConfusion q⟩
    | some i =>
      rw [hl] at h
      by_cases c : qn r.2.2 = 3
      · simp only [c, if_true] at h; cases h
      · simp only [c, if_false] at h ⊢
        obtain ⟨h1, h2, h3, h4, h5, h6, h7, h8, -⟩ := rmL_iv k _ h
        have hn : qn (stp (onG (fun g => gAdd g i) r)).2.2 = qn r.2.2 + 1 := rfl
        refine ⟨h1, h2, h3, h4, h5, by omega, fun q => h7 (by omega), fun q => h8 ⟨fun m => ?_, q.2⟩, fun _ _ => by omega⟩
        show (if m = qn r.2.2 then i else qk r.2.2 m) < 10
        split
        · exact rlt_lt hl
        · exact q.1 m
theorem rmn_iv {L : Nat} {B : Nat → Nat} {r : Rr} (h : (rmn L B r).1 = true) : r.1 = true ∧ qw (rmn L B r).2.2 = qw r.2.2 ∧ qh (rmn L B r).2.2 = qh r.2.2 ∧ qb (rmn L B r).2.2 = qb r.2.2 ∧ qo (rmn L B r).2.2 = qo r.2.2 ∧ qn r.2.2 < qn (rmn L B r).2.2 ∧ (qn r.2.2 ≤ 3 → qn (rmn L B r).2.2 ≤ 3) ∧ (kdG r.2.2 → kdG (rmn L B r).2.2) := by
  unfold rmn at h ⊢
  by_cases c : (rlt L B r).isSome = true
  · rw [if_pos c] at h ⊢
    obtain ⟨h1, h2, h3, h4, h5, h6, h7, h8, h9⟩ := rmL_iv 4 r h
    exact ⟨h1, h2, h3, h4, h5, h9 (by omega) c, h7, h8⟩
  · rw [if_neg c] at h; cases h
theorem rsp_iv {L : Nat} {B : Nat → Nat} {c : Nat} {r : Rr} (h : (rsp L B c r).1 = true) : r.1 = true ∧ (rsp L B c r).2.2 = r.2.2 := by
  unfold rsp at h ⊢
  by_cases q : see L B c c r = true
  · rw [if_pos q]; exact ⟨(see_iff.mp q).1, rfl⟩
  · rw [if_neg q] at h; cases h
/-- what the clauses keep -/
def keG (g g' : Gm) : Prop := qw g' = qw g ∧ qh g' = qh g ∧ qn g' = qn g ∧ qb g' = qb g ∧ (kdG g → kdG g') ∧ (qw g * qh g ≤ 12 → qo g < 2 ^ (qw g * qh g) → qo g' < 2 ^ (qw g * qh g))
theorem keG.rfl (g : Gm) : keG g g := ⟨Eq.refl _, Eq.refl _, Eq.refl _, Eq.refl _, fun q => q, fun _ q => q⟩
theorem keG.tr {g g' g'' : Gm} (h : keG g g') (k : keG g' g'') : keG g g'' := by
  obtain ⟨h1, h2, h3, h4, h5, h6⟩ := h
  obtain ⟨k1, k2, k3, k4, k5, k6⟩ := k
  rw [h1, h2] at k6
  exact ⟨k1.trans h1, k2.trans h2, k3.trans h3, k4.trans h4, fun q => k5 (h5 q), fun a b => k6 a (h6 a b)⟩
theorem rsq_iv {L : Nat} {B : Nat → Nat} {r : Rr} (h : (rsq L B r).1 = true) : r.1 = true ∧ keG r.2.2 (rsq L B r).2.2 := by
  unfold rsq at h ⊢
  by_cases c : (rnm L B r).1.1 = true
  · rw [if_pos c] at h ⊢
    obtain ⟨h1, h2, h3⟩ := rnm_at c
    by_cases c2 : (rnm L B r).2 < qw (rnm L B r).1.2.2 * qh (rnm L B r).1.2.2
    · rw [if_pos c2]
      refine ⟨h3, ?_⟩
      show keG r.2.2 (gO (rnm L B r).1.2.2 (qo (rnm L B r).1.2.2 ||| 2 ^ ((rnm L B r).2 % 32)))
      rw [h2] at c2 ⊢
      refine ⟨rfl, rfl, rfl, rfl, fun q => q, fun a b => ?_⟩
      show qo r.2.2 ||| 2 ^ ((rnm L B r).2 % 32) < _
      exact Nat.or_lt_two_pow b (Nat.pow_lt_pow_right (by omega) (by omega))
    · rw [if_neg c2] at h; cases h
  · rw [if_neg c] at h; exact absurd h c
theorem rhc_iv {L : Nat} {B : Nat → Nat} : ∀ k r, (rhc L B k r).1 = true → r.1 = true ∧ keG r.2.2 (rhc L B k r).2.2
  | 0, r, h => ⟨h, keG.rfl _⟩
  | k + 1, r, h => by
    rw [rhc] at h ⊢
    by_cases c : see L B 44 44 r = true
    · rw [if_pos c] at h ⊢
      obtain ⟨h1, h2⟩ := rhc_iv k _ h
      obtain ⟨h3, h4⟩ := rsq_iv h1
      exact ⟨h3, h4.tr h2⟩
    · rw [if_neg c] at h ⊢
      exact ⟨h, keG.rfl _⟩
theorem rcl_iv {L : Nat} {B : Nat → Nat} {r : Rr} (h : (rcl L B r).1 = true) : r.1 = true ∧ keG r.2.2 (rcl L B r).2.2 := by
  unfold rcl at h ⊢
  by_cases c : see L B 120 120 r = true
  · rw [if_pos c] at h ⊢
    obtain ⟨h1, h2⟩ := rhc_iv 41 _ h
    obtain ⟨h3, h4⟩ := rsq_iv h1
    exact ⟨h3, h4.tr h2⟩
  · rw [if_neg c] at h ⊢
    by_cases c2 : see L B 109 109 r = true
    · rw [if_pos c2] at h ⊢
      obtain ⟨h1, h2, h3⟩ := rnm_at (r := stp r) h
      refine ⟨h3, ?_⟩
      show keG r.2.2 (gL (rnm L B (stp r)).1.2.2 (nI (rnm L B (stp r)).2))
      rw [h2]
      exact ⟨rfl, rfl, rfl, rfl, fun q => ⟨q.1, q.2.1, Or.inr ⟨_, rnm_lt, rfl⟩⟩, fun _ q => q⟩
    · rw [if_neg c2] at h ⊢
      by_cases c3 : see L B 100 100 r = true
      · rw [if_pos c3]; exact ⟨(see_iff.mp c3).1, rfl, rfl, rfl, rfl, fun q => ⟨q.1, Or.inr (Or.inl rfl), q.2.2⟩, fun _ q => q⟩
      · rw [if_neg c3] at h ⊢
        by_cases c4 : see L B 108 108 r = true
        · rw [if_pos c4]; exact ⟨(see_iff.mp c4).1, rfl, rfl, rfl, rfl, fun q => ⟨q.1, Or.inl rfl, q.2.2⟩, fun _ q => q⟩
        · rw [if_neg c4] at h ⊢
          by_cases c5 : see L B 119 119 r = true
          · rw [if_pos c5]; exact ⟨(see_iff.mp c5).1, rfl, rfl, rfl, rfl, fun q => ⟨q.1, Or.inr (Or.inr rfl), q.2.2⟩, fun _ q => q⟩
          · rw [if_neg c5] at h; cases h
theorem rcL_iv {L : Nat} {B : Nat → Nat} : ∀ k r, (rcL L B k r).1 = true → r.1 = true ∧ keG r.2.2 (rcL L B k r).2.2
  | 0, r, h => ⟨h, keG.rfl _⟩
  | k + 1, r, h => by
    rw [rcL] at h ⊢
    by_cases c : (r.1 && decide (r.2.1 < L)) = true
    · rw [if_pos c] at h ⊢
      by_cases c2 : see L B 59 59 r = true
      · rw [if_pos c2] at h ⊢
        obtain ⟨h1, h2⟩ := rcL_iv k _ h
        obtain ⟨h3, h4⟩ := rcl_iv h1
        exact ⟨h3, h4.tr h2⟩
      · rw [if_neg c2] at h; cases h
    · rw [if_neg c] at h ⊢
      exact ⟨h, keG.rfl _⟩
theorem rdg_iv {L : Nat} {B : Nat → Nat} {r : Rr} (h : (rdg L B 50 54 r).1.1 = true) : 2 ≤ (rdg L B 50 54 r).2 := by
  unfold rdg at h ⊢
  by_cases c : see L B 50 54 r = true
  · rw [if_pos c]
    have := see_iff.mp c
    show 2 ≤ B r.2.1 - 48
    omega
  · rw [if_neg c] at h; cases h
theorem rgm_iv {L : Nat} {B : Nat → Nat} (h : (rgm L B).1 = true) : qF (rgm L B).2.2 ∧ qV (rgm L B).2.2 := by
  unfold rgm at h ⊢
  obtain ⟨h1, h2⟩ := rcL_iv 41 _ h
  obtain ⟨r2, e2⟩ : ∃ r2, rg2 L B = r2 := ⟨_, rfl⟩
  rw [e2] at h1 h2 ⊢
  rw [rg2] at e2
  rw [← e2] at h1
  obtain ⟨i1, i2, i3, i4, i5, i6, i7, i8⟩ := rmn_iv h1
  rw [e2] at i2 i3 i4 i5 i6 i7 i8
  obtain ⟨j1, j2⟩ := rsp_iv i1
  rw [j2] at i2 i3 i4 i5 i6 i7 i8
  have k1 : (rmn L B (rsp L B 59 (rsz L B))).1 = true := j1
  obtain ⟨l1, l2, l3, l4, l5, l6, l7, l8⟩ := rmn_iv k1
  have hg : (rg1 L B).2.2 = gB (rmn L B (rsp L B 59 (rsz L B))).2.2 := rfl
  rw [hg] at i2 i3 i4 i5 i6 i7 i8
  obtain ⟨m1, m2⟩ := rsp_iv l1
  rw [m2] at l2 l3 l4 l5 l6 l7 l8
  have n1 : ¬ ((rht L B).1 = true ∧ 12 < qw (rht L B).2.2 * qh (rht L B).2.2) := fun q => by
    rw [rsz, if_pos q] at m1; cases m1
  have rs : rsz L B = rht L B := by rw [rsz, if_neg n1]
  rw [rs] at m1 l2 l3 l4 l5 l6 l7 l8 i2 i3 i4 i5 i6 i7 i8
  have o1 : (rdg L B 50 54 (rwd L B)).1.1 = true := m1
  have o2 := rdg_iv o1
  have o3 := @rdg_le6 L B (rwd L B)
  obtain ⟨o4, o5⟩ := rdg_at o1
  have p1 : (rdg L B 50 54 (true, 0, g00)).1.1 = true := o5
  have p2 := rdg_iv p1
  have p3 := @rdg_le6 L B (true, 0, g00)
  obtain ⟨p4, -⟩ := rdg_at p1
  have gw : qw (rht L B).2.2 = (rdg L B 50 54 (true, 0, g00)).2 := by
    show qw (rdg L B 50 54 (rwd L B)).1.2.2 = _
    rw [o4]; rfl
  have gh : qh (rht L B).2.2 = (rdg L B 50 54 (rwd L B)).2 := rfl
  have hh : (rht L B).2.2 = gH (gW' g00 (rdg L B 50 54 (true, 0, g00)).2) (rdg L B 50 54 (rwd L B)).2 := by
    show gH (rdg L B 50 54 (rwd L B)).1.2.2 _ = _
    rw [o4]
    show gH (gW' (rdg L B 50 54 (true, 0, g00)).1.2.2 _) _ = _
    rw [p4]; rfl
  have go : qo (rht L B).2.2 = 0 := by rw [hh]; rfl
  have gn : qn (rht L B).2.2 = 0 := by rw [hh]; rfl
  have gk : kdG (rht L B).2.2 := by
    rw [hh]
    exact ⟨fun _ => by show 0 < 10; omega, Or.inr (Or.inl rfl), Or.inl rfl⟩
  have n2 : qw (rht L B).2.2 * qh (rht L B).2.2 ≤ 12 := by
    have : (rht L B).1 = true := m1
    rcases Nat.lt_or_ge 12 (qw (rht L B).2.2 * qh (rht L B).2.2) with q | q
    · exact absurd ⟨this, q⟩ n1
    · exact q
  obtain ⟨q1, q2, q3, q4, q5, q6⟩ := h2
  have ew : qw r2.2.2 = qw (rht L B).2.2 := i2.trans l2
  have eh : qh r2.2.2 = qh (rht L B).2.2 := i3.trans l3
  have eo : qo r2.2.2 = 0 := (i5.trans l5).trans go
  have ek : kdG r2.2.2 := i8 (l8 gk)
  have eb : qb r2.2.2 = qn (rmn L B (rsp L B 59 (rht L B))).2.2 := i4
  have en : qn (rmn L B (rsp L B 59 (rht L B))).2.2 < qn r2.2.2 := i6
  have en3 : qn r2.2.2 ≤ 3 := i7 (l7 (by omega))
  have kd := q5 ek
  refine ⟨⟨by omega, by omega, by omega, by omega, by rw [q1, q2, ew, eh]; exact n2, by omega, by omega, by omega, by omega, ?_, kd.1⟩, kd.2⟩
  rw [q1, q2]
  exact q6 (by rw [ew, eh]; exact n2) (by rw [eo]; exact Nat.two_pow_pos _)
def pop (n : Nat) : Nat := cN (fun i => n.testBit i) 12
theorem pop_step : ∀ n, n < 4096 → n ≠ 0 → pop (n &&& (n - 1)) + 1 = pop n ∧ n &&& (n - 1) < n := by
  have all : ∀ a, a < 64 → ∀ b, b < 64 → (64 * a + b == 0 || (pop ((64 * a + b) &&& (64 * a + b - 1)) + 1 == pop (64 * a + b) && decide ((64 * a + b) &&& (64 * a + b - 1) < 64 * a + b))) = true := by decide +kernel
  intro n hn h0
  have := all (n / 64) (by omega) (n % 64) (by omega)
  rw [show 64 * (n / 64) + n % 64 = n by omega] at this
  simpa [h0] using this
theorem pop_0 : pop 0 = 0 := by decide +kernel
section
variable {E : Wd} {h0 h : Hp} {M : Nat} {A : Nat → Nat → Int32} {f : Nat → Int32} {g : Gm} {d : Nat} {s : Sg}
theorem k_countBits {Q : Int32 → Hp → Prop} {n : Nat} (hn : n < 4096) (hq : Q (nI (pop n)) h) : OkI E YX8_countBits d [.int (nI n)] h Q := by
  refine rnX8_countBits (fun K4 k4 => ?_)
  have loop : ∀ b x c, x ≤ b → x < 4096 → c + pop x = pop n → K4 (nI c) (nI x) h := by
    intro b
    induction b with
    | zero =>
      intro x c h1 h2 h3
      have : x = 0 := by omega
      subst this
      rw [pop_0] at h3
      refine k4 _ _ _ ⟨fun _ => ?_, fun q => absurd rfl q⟩
      rw [show c = pop n by omega]; exact hq
    | succ b ih =>
      intro x c h1 h2 h3
      refine k4 _ _ _ ⟨fun q => ?_, fun q => ?_⟩
      · have : x = 0 := (nI_eq (b := 0) (by omega) (by omega)).mp q
        subst this
        rw [pop_0] at h3
        rw [show c = pop n by omega]; exact hq
      · have hx : x ≠ 0 := fun e => q (by rw [e]; rfl)
        obtain ⟨p1, p2⟩ := pop_step x h2 hx
        rw [nI_1, show nI x - 1 = nI (x - 1) from n_sub (show 1 ≤ x by omega), nx_and]
        exact ih _ _ (by omega) (by omega) (by omega)
  exact loop n n 0 (Nat.le_refl _) hn (by omega)
theorem Rf.len (R : Rf E h0 h M A f) (j : Nat) (hj : rK j = true) : okL E h (M + j) (rty j) ∧ lA h (M + j) = nI (rlen j) := by
  refine ⟨⟨_, R.arr hj⟩, ?_⟩
  simp [lA, R.arr hj, nI]
theorem k_copy {Q : Hp → Prop} {j t : Nat} (R : Rf E h0 h M A f) (hj : 2 ≤ j ∧ j < 5) (ht : 2 ≤ t ∧ t < 5) (hjt : j ≠ t)
    (hq : ∀ h' A', Rf E h0 h' M A' f → (∀ j' i, j' ≠ t → A' j' i = A j' i) → (∀ i, i < 10 → A' t i = A j i) → Q h') : OkV E YX8_copy d [.ref (M + j), .ref (M + t)] h Q := by
  refine rnX8_copy (fun K2 k2 => ?_)
  have kk : ∀ j, 2 ≤ j ∧ j < 5 → rK j = true ∧ rty j = 0 ∧ rlen j = 10 := fun j hj => by
    have : j = 2 ∨ j = 3 ∨ j = 4 := by omega
    rcases this with rfl | rfl | rfl <;> exact ⟨rfl, rfl, rfl⟩
  obtain ⟨j1, j2, j3⟩ := kk j hj
  obtain ⟨t1, t2, t3⟩ := kk t ht
  refine lp_up (K := fun i => ∀ h' A', Rf E h0 h' M A' f → (∀ j' i, j' ≠ t → A' j' i = A j' i) → (∀ i', i' < i → A' t i' = A j i') → K2 (M + j) (M + t) (nI i) h') 10 (fun i hi ih h' A' R' F' Z' => ?_) (fun h' A' R' F' Z' => ?_) 0 (Nat.zero_le _) h A R (fun _ _ _ => rfl) (fun i hi => absurd hi (Nat.not_lt_zero _))
  · refine k2 _ _ _ _ ?_
    obtain ⟨l1, l2⟩ := R'.len j j1
    rw [j2] at l1
    rw [j3] at l2
    refine ⟨l1, fun c => ?_, fun _ => ⟨R'.oR j _ j1 j2 (by rw [j3]; exact vpn hi), R'.oR t _ t1 t2 (by rw [t3]; exact vpn hi), fun h1 e1 => ?_⟩⟩
    · rw [l2, nI_leI (by omega) (by omega)] at c; omega
    · rw [R'.gR j _ j1, n_cl] at e1
      subst e1
      have R1 := R'.st (j := t) (nI i) (A' j i) t1
      rw [n_cl (n := i)] at R1
      rw [nI_1]
      refine ih _ _ R1 (fun j' i' o => (up2o (by rintro ⟨q, -⟩; exact o q)).trans (F' j' i' o)) (fun i' hi' => ?_)
      by_cases c : i' = i
      · subst c; rw [up2s]; exact F' j i' hjt
      · exact (up2o (by omega)).trans (Z' i' (by omega))
  · refine k2 _ _ _ _ ?_
    obtain ⟨l1, l2⟩ := R'.len j j1
    rw [j2] at l1
    rw [j3] at l2
    exact ⟨l1, fun _ => hq h' A' R' F' Z', fun c => absurd (by rw [l2]; exact nI_le (Nat.le_refl _) (by omega)) c⟩
theorem rA.cp {B B' : Nat → Int32} (h : rA B g) (e : ∀ i, i < 10 → B' i = B i) : rA B' g := by
  obtain ⟨a0, a1, a2, a3, a4, a5, a6, a7⟩ := h
  exact ⟨(e 0 (by omega)).trans a0, (e 1 (by omega)).trans a1, (e 2 (by omega)).trans a2, (e 3 (by omega)).trans a3, (e 4 (by omega)).trans a4, (e 5 (by omega)).trans a5, (e 6 (by omega)).trans a6, fun m hm => (e (7 + m) (by omega)).trans (a7 m hm)⟩
end
