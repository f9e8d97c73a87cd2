def szG (g : Gm) : Prop := qn g ≤ 3 ∧ qw g ≤ 6 ∧ qh g ≤ 6
def RR (A : Nat → Nat → Int32) (f : Nat → Int32) (L : Nat) (r : Rr) : Prop := f 3 = bI (!r.1) ∧ f 2 = nI r.2.1 ∧ r.2.1 ≤ L ∧ (r.1 = true → rA (A 3) r.2.2 ∧ szG r.2.2)
def RY (A0 : Nat → Nat → Int32) (f0 : Nat → Int32) (A : Nat → Nat → Int32) (f : Nat → Int32) : Prop := (∀ j, j ≠ 3 → A j = A0 j) ∧ ∀ k, k ≠ 2 → k ≠ 3 → f k = f0 k
theorem RY.p2 {A0 A : Nat → Nat → Int32} {f0 f : Nat → Int32} (Y : RY A0 f0 A f) (x : Int32) : RY A0 f0 A (upd f 2 x) := ⟨Y.1, fun k h2 h3 => by rw [← Y.2 k h2 h3]; simp [upd, h2]⟩
theorem RY.p3 {A0 A : Nat → Nat → Int32} {f0 f : Nat → Int32} (Y : RY A0 f0 A f) (x : Int32) : RY A0 f0 A (upd f 3 x) := ⟨Y.1, fun k h2 h3 => by rw [← Y.2 k h2 h3]; simp [upd, h3]⟩
theorem RY.st {A0 A : Nat → Nat → Int32} {f0 f : Nat → Int32} (Y : RY A0 f0 A f) (i : Nat) (x : Int32) : RY A0 f0 (up2 A 3 i x) f := ⟨fun j hj => by rw [← Y.1 j hj]; funext i'; simp [up2, hj], Y.2⟩
def RX (E : Wd) (h0 : Hp) (M : Nat) (A0 : Nat → Nat → Int32) (f0 : Nat → Int32) (L : Nat) (h : Hp) (r : Rr) : Prop := ∃ A f, Rf E h0 h M A f ∧ RY A0 f0 A f ∧ RR A f L r
section
variable {E : Wd} {h0 h : Hp} {M : Nat} {A0 A : Nat → Nat → Int32} {f0 f : Nat → Int32} {d L : Nat} {B : Nat → Nat} {r : Rr}
theorem RY.tp (Y : RY A0 f0 A f) (R : Rf E h0 h M A f) (hT : RTp A0 f0 L B) : f 1 = nI L ∧ L ≤ 40 ∧ ∀ i, i < L → gA h (M + 1) (nI i) = nI (B i) ∧ okR E h (M + 1) 0 (nI i) ∧ B i < 128 := by
  obtain ⟨t1, t2, t3⟩ := hT
  refine ⟨by rw [Y.2 1 (by omega) (by omega)]; exact t1, t2, fun i hi => ⟨?_, R.oR 1 _ rfl rfl (vpn (n := 40) (by omega)), (t3 i hi).2⟩⟩
  rw [R.gR 1 _ rfl, n_cl, Y.1 1 (by omega)]; exact (t3 i hi).1
theorem k_sees {Q : Int32 → Hp → Prop} {lo hi : Nat} (hT : RTp A0 f0 L B) (K : RX E h0 M A0 f0 L h r) (h1 : lo < 128) (h2 : hi < 128) (hq : Q (bI (see L B lo hi r)) h) : OkI E YX8_sees (d + 1) [.ref M, .int (nI lo), .int (nI hi)] h Q := by
  obtain ⟨A, f, R, Y, e3, e2, e4, -⟩ := K
  obtain ⟨t1, t2, t3⟩ := Y.tp R hT
  refine rnX8_sees ?_
  simp only [vcX8_sees_0, R.fs, true_and, e3, e2, t1, nI_leI (show L < 2 ^ 31 by omega) (show r.2.1 < 2 ^ 31 by omega)]
  refine bI_c' (fun c => ?_) (fun c => ⟨Or.inl rfl, ?_⟩)
  · have c : r.1 = true := by simpa using c
    refine ⟨fun c2 => ⟨Or.inl rfl, ?_⟩, fun c2 => ?_⟩
    · rw [show see L B lo hi r = false by unfold see; rw [decide_eq_false (show ¬ r.2.1 < L by omega)]; simp] at hq
      exact hq
    · obtain ⟨q1, q2, q3⟩ := t3 r.2.1 (by omega)
      rw [q1]
      refine ⟨q2, k_isBetween ?_⟩
      have e : decide (nI lo ≤ nI (B r.2.1) ∧ nI (B r.2.1) ≤ nI hi) = see L B lo hi r := Bool.eq_iff_iff.mpr (by
        rw [decide_eq_true_iff, see_iff, nI_leI (by omega) (by omega), nI_leI (by omega) (by omega)]
        exact ⟨fun q => ⟨c, by omega, q.1, q.2⟩, fun q => ⟨q.2.2.1, q.2.2.2⟩⟩)
      rw [e]
      refine bI_c (fun c3 => ⟨Or.inl rfl, ?_⟩) (fun c3 => ⟨Or.inr rfl, ?_⟩)
      · rw [c3] at hq; exact hq
      · rw [c3] at hq; exact hq
  · have c : r.1 = false := by simpa using c
    rw [show see L B lo hi r = false by unfold see; rw [c]; rfl] at hq
    exact hq
theorem see_stp {lo hi : Nat} (h : see L B lo hi r = true) : r.1 = true ∧ r.2.1 + 1 ≤ L := by
  have := see_iff.mp h
  exact ⟨this.1, this.2.1⟩
theorem RX.stp (R : Rf E h0 h M A f) (Y : RY A0 f0 A f) (P : RR A f L r) (hL : r.2.1 + 1 ≤ L) : RX E h0 M A0 f0 L (pF h M 2 (.int (f 2 + 1))) (stp r) := by
  refine ⟨A, _, R.put rfl, Y.p2 _, P.1, ?_, hL, P.2.2.2⟩
  show f 2 + 1 = nI (r.2.1 + 1)
  rw [P.2.1, nI_1]
theorem RX.stay (R : Rf E h0 h M A f) (Y : RY A0 f0 A f) (P : RR A f L r) : RX E h0 M A0 f0 L (pF h M 2 (.int (f 2 + 0))) r := by
  refine ⟨A, _, R.put rfl, Y.p2 _, P.1, ?_, P.2.2.1, P.2.2.2⟩
  show f 2 + 0 = nI r.2.1
  rw [P.2.1]; exact nI_add _ 0
theorem RX.bad (R : Rf E h0 h M A f) (Y : RY A0 f0 A f) (P : RR A f L r) : RX E h0 M A0 f0 L (pF h M 3 (.int 1)) (bad r) :=
  ⟨A, _, R.put rfl, Y.p3 _, rfl, P.2.1, P.2.2.1, fun e => Bool.noConfusion e⟩
theorem RX.same (R : Rf E h0 h M A f) (Y : RY A0 f0 A f) (P : RR A f L r) {x : Int32} (hx : x = f 3) : RX E h0 M A0 f0 L (pF h M 3 (.int x)) r := by
  subst hx
  exact ⟨A, _, R.put rfl, Y.p3 _, P.1, P.2.1, P.2.2.1, P.2.2.2⟩
theorem k_passes {Q : Int32 → Hp → Prop} {c : Nat} (hT : RTp A0 f0 L B) (K : RX E h0 M A0 f0 L h r) (h1 : c < 128)
    (hq : ∀ h', RX E h0 M A0 f0 L h' (rtk L B c r) → Q (bI (see L B c c r)) h') : OkI E YX8_passes (d + 2) [.ref M, .int (nI c)] h Q := by
  obtain ⟨A, f, R, Y, P⟩ := K
  refine rnX8_passes ?_
  refine ⟨⟨_, R.obj⟩, k_sees hT ⟨A, f, R, Y, P⟩ h1 h1 ?_⟩
  simp only [R.fs, true_and]
  unfold rtk at hq
  refine bI_c (fun c2 => ?_) (fun c2 => ?_)
  · intro h3 e3
    subst e3
    refine ⟨bI_m _, hq _ ?_⟩
    rw [if_neg (by rw [c2]; decide)]
    exact RX.stay R Y P
  · intro h3 e3
    subst e3
    refine ⟨bI_m _, hq _ ?_⟩
    rw [if_pos c2]
    exact RX.stp R Y P (see_stp c2).2
theorem k_passDigit {Q : Int32 → Hp → Prop} {lo hi : Nat} (hT : RTp A0 f0 L B) (K : RX E h0 M A0 f0 L h r) (h1 : lo < 128) (h2 : hi < 128) (h48 : 48 ≤ lo)
    (hq : ∀ h', RX E h0 M A0 f0 L h' (rdg L B lo hi r).1 → Q (nI (rdg L B lo hi r).2) h') : OkI E YX8_passDigit (d + 2) [.ref M, .int (nI lo), .int (nI hi)] h Q := by
  obtain ⟨A, f, R, Y, P⟩ := K
  refine rnX8_passDigit ?_
  simp only [vcX8_passDigit_0, R.fs, true_and]
  refine k_sees hT ⟨A, f, R, Y, P⟩ h1 h2 ?_
  unfold rdg at hq
  refine bI_c' (fun c => ?_) (fun c => ?_)
  · rw [if_neg (by rw [c]; decide)] at hq
    have e1 : f 3 ||| 1 = 1 := by rw [P.1]; cases r.1 <;> rfl
    simp only [vcX8_passDigit_19, R.fs, true_and, e1]
    refine ⟨Or.inr rfl, fun h3 e3 => ?_⟩
    subst e3
    have R3 := R.put (k := 3) (x := 1) rfl
    simp only [R3.fs, true_and, vcX8_passDigit_46, show upd f 3 1 3 = 1 from rfl, show upd f 3 1 2 = f 2 from rfl]
    refine ⟨fun q => absurd q (by decide), fun _ => ⟨fun q => absurd q (by decide), fun _ h5 e5 => ?_⟩⟩
    subst e5
    have P3 : RR A (upd f 3 1) L (bad r) := ⟨rfl, P.2.1, P.2.2.1, fun e => Bool.noConfusion e⟩
    exact hq _ (RX.stay (f := upd f 3 1) R3 (Y.p3 1) P3)
  · rw [if_pos c] at hq
    obtain ⟨c1, c2, c3, c4⟩ := see_iff.mp c
    obtain ⟨t1, t2, t3⟩ := Y.tp R hT
    have e0 : f 3 = 0 := by rw [P.1, c1]; rfl
    have e1 : f 3 ||| 0 = 0 := by rw [e0]; rfl
    simp only [vcX8_passDigit_19, R.fs, true_and, e1]
    refine ⟨Or.inl rfl, fun h3 e3 => ?_⟩
    subst e3
    have R3 := R.put (k := 3) (x := 0) rfl
    have Y3 := Y.p3 (0 : Int32)
    obtain ⟨u1, u2, u3⟩ := Y3.tp R3 hT
    obtain ⟨q1, q2, q3⟩ := u3 r.2.1 c2
    have P3 : RR A (upd f 3 0) L r := ⟨by rw [c1]; rfl, P.2.1, P.2.2.1, P.2.2.2⟩
    simp only [R3.fs, true_and, vcX8_passDigit_46, show upd f 3 0 3 = 0 from rfl, show upd f 3 0 2 = f 2 from rfl, P.2.1, q1, q2]
    refine ⟨fun _ => ⟨fun _ h5 e5 => ?_, fun q => absurd trivial q⟩, fun q => absurd trivial q⟩
    rw [← P.2.1] at e5
    subst e5
    rw [show nI (B r.2.1) - 48 = nI (B r.2.1 - 48) from n_sub (show 48 ≤ B r.2.1 by omega)]
    exact hq _ (RX.stp (f := upd f 3 0) R3 Y3 P3 c2)
theorem k_letterHere {Q : Int32 → Hp → Prop} (hT : RTp A0 f0 L B) (K : RX E h0 M A0 f0 L h r) (hq : Q (lxI (rlt L B r)) h) : OkI E YX8_letterHere (d + 4) [.ref M] h Q := by
  obtain ⟨A, f, R, Y, P⟩ := K
  refine rnX8_letterHere ?_
  obtain ⟨t1, t2, t3⟩ := Y.tp R hT
  have hP := P.2.2.1
  unfold rlt at hq
  simp only [vcX8_letterHere_0, R.fs, true_and, P.1, P.2.1, t1, nI_leI (show L < 2 ^ 31 by omega) (show r.2.1 < 2 ^ 31 by omega)]
  refine bI_c' (fun c => ?_) (fun c => ?_)
  · have c : r.1 = true := by simpa using c
    rw [c, Bool.true_and] at hq
    refine ⟨fun c2 => ?_, fun c2 => ?_⟩
    · rw [if_neg (by simpa using c2)] at hq; exact hq
    · rw [if_pos (by simpa using c2)] at hq
      obtain ⟨q1, q2, q3⟩ := t3 r.2.1 (by omega)
      rw [q1]
      exact ⟨q2, k_sIndexOf q3 hq⟩
  · have c : r.1 = false := by simpa using c
    rw [c, Bool.false_and] at hq
    exact hq
theorem lxI_neg {o : Option Nat} (h : ∀ i, o = some i → i < 2 ^ 31) : (lxI o < 0 ↔ o = none) ∧ (0 ≤ lxI o ↔ o.isSome = true) := by
  cases o with
  | none => exact ⟨⟨fun _ => rfl, fun _ => by decide⟩, ⟨fun q => absurd q (by decide), fun q => Bool.noConfusion q⟩⟩
  | some i => exact ⟨⟨fun q => absurd q (nI_pos (h i rfl)), fun q => by cases q⟩, ⟨fun _ => rfl, fun _ => nI_pos' (h i rfl)⟩⟩
theorem k_passMen {Q : Hp → Prop} (hT : RTp A0 f0 L B) (K : RX E h0 M A0 f0 L h r) (hq : ∀ h', RX E h0 M A0 f0 L h' (rmn L B r) → Q h') : OkV E YX8_passMen (d + 5) [.ref M] h Q := by
  refine rnX8_passMen (fun K21 k21 => ?_)
  have loop : ∀ k r, (r.1 = true → 4 ≤ k + qn r.2.2) → ∀ h, RX E h0 M A0 f0 L h r → (∀ h', RX E h0 M A0 f0 L h' (rmL L B k r) → Q h') → K21 M h := by
    intro k
    induction k with
    | zero =>
      intro r hk h K hq
      refine k21 _ _ ?_
      obtain ⟨A, f, R, Y, P⟩ := K
      simp only [vcX8_passMen_21, R.fs, true_and, P.1]
      refine bI_c' (fun c => ?_) (fun c => hq h ⟨A, f, R, Y, P⟩)
      have c : r.1 = true := by simpa using c
      have := hk c
      have := (P.2.2.2 c).2.1
      omega
    | succ k ih =>
      intro r hk h K hq
      refine k21 _ _ ?_
      obtain ⟨A, f, R, Y, P⟩ := K
      rw [rmL] at hq
      simp only [vcX8_passMen_21, R.fs, true_and, P.1]
      refine bI_c' (fun c => ?_) (fun c => ?_)
      · have c : r.1 = true := by simpa using c
        obtain ⟨hA, hn, -⟩ := P.2.2.2 c
        refine k_letterHere hT ⟨A, f, R, Y, P⟩ ?_
        rw [(lxI_neg (fun i hi => by have := rlt_lt hi; omega)).1]
        have g2 : gA h (M + 3) 2 = nI (qn r.2.2) := by rw [R.gR 3 2 rfl]; exact hA.2.2.1
        simp only [R.fs, true_and, g2, R.oR 3 2 rfl rfl (vpd rfl)]
        refine ⟨fun c2 => ?_, fun c2 => ?_⟩
        · rw [c2] at hq
          exact hq h ⟨A, f, R, Y, P⟩
        · obtain ⟨i, hi⟩ : ∃ i, rlt L B r = some i := by
            cases h' : rlt L B r with
            | none => exact absurd h' c2
            | some i => exact ⟨i, rfl⟩
          rw [hi] at hq
          have hi10 := rlt_lt hi
          have hlt : r.2.1 < L := by
            unfold rlt at hi
            split at hi
            · rename_i q; simp only [Bool.and_eq_true, decide_eq_true_eq] at q; exact q.2
            · cases hi
          rw [show (3 : Int32) = nI 3 from rfl, nI_eq (by omega) (by omega)]
          refine ⟨fun c3 => ?_, fun c3 => ?_⟩
          · simp only [c3, if_false] at hq
            simp only [vcX8_passMen_51, R.fs, true_and]
            refine ⟨Or.inl rfl, fun h1 e1 => ?_⟩
            subst e1
            have K1 : RX E h0 M A0 f0 L (pF h M 3 (.int 0)) r := RX.same R Y P (by rw [P.1, c]; rfl)
            obtain ⟨A1, f1, R1, Y1, P1⟩ := K1
            have P1c := P1
            rw [RR, c] at P1c
            obtain ⟨hA1, hn1, hn2⟩ := P1.2.2.2 c
            have g3 : gA (pF h M 3 (.int 0)) (M + 3) 2 = nI (qn r.2.2) := by rw [R1.gR 3 2 rfl]; exact hA1.2.2.1
            simp only [R1.fs, true_and, P1c.1, g3, R1.oR 3 2 rfl rfl (vpd rfl)]
            refine ⟨fun q => absurd rfl q, fun _ => ?_⟩
            refine k_letterHere hT ⟨A1, f1, R1, Y1, P1⟩ ?_
            rw [hi, show (7 : Int32) + nI (qn r.2.2) = nI (7 + qn r.2.2) from nI_add 7 _]
            refine ⟨R1.oR 3 _ rfl rfl (vpn (n := 10) (by omega)), fun h4 e4 => ?_⟩
            subst e4
            have R4 := R1.st (j := 3) (nI (7 + qn r.2.2)) (lxI (some i)) rfl
            rw [n_cl (n := 7 + qn r.2.2)] at R4
            have Y4 := Y1.st (7 + qn r.2.2) (lxI (some i))
            have g4 : gA (sA (pF h M 3 (.int 0)) (M + 3) (nI (7 + qn r.2.2)) (lxI (some i))) (M + 3) 2 = nI (qn r.2.2) := by
              rw [R4.gR 3 2 rfl]
              show up2 A1 3 (7 + qn r.2.2) _ 3 2 = _
              have : ¬ (2 = 7 + qn r.2.2) := by omega
              simp only [up2, this, and_false, if_false]
              exact hA1.2.2.1
            simp only [R4.fs, true_and, g4, R4.oR 3 2 rfl rfl (vpd rfl), nI_1]
            intro h5 e5
            subst e5
            have R5 := R4.st (j := 3) 2 (nI (qn r.2.2 + 1)) rfl
            have Y5 := Y4.st 2 (nI (qn r.2.2 + 1))
            simp only [R5.fs, true_and]
            intro h6 e6
            subst e6
            refine ih _ (fun _ => ?_) _ (RX.stp (r := onG (fun g => gAdd g i) r) R5 Y5 ⟨P1.1, P1.2.1, P1.2.2.1, fun _ => ⟨?_, ?_⟩⟩ hlt) hq
            · have := hk c
              show 4 ≤ k + (qn r.2.2 + 1)
              omega
            · obtain ⟨a0, a1, a2, a3, a4, a5, a6, a7⟩ := hA1
              refine ⟨?_, ?_, ?_, ?_, ?_, ?_, ?_, fun m hm => ?_⟩
              · show up2 (up2 A1 3 _ _) 3 2 _ 3 0 = _
                rw [up2, if_neg (by omega), up2, if_neg (by omega)]; exact a0
              · show up2 (up2 A1 3 _ _) 3 2 _ 3 1 = _
                rw [up2, if_neg (by omega), up2, if_neg (by omega)]; exact a1
              · show up2 (up2 A1 3 _ _) 3 2 _ 3 2 = _
                rw [up2, if_pos ⟨rfl, rfl⟩]; rfl
              · show up2 (up2 A1 3 _ _) 3 2 _ 3 3 = _
                rw [up2, if_neg (by omega), up2, if_neg (by omega)]; exact a3
              · show up2 (up2 A1 3 _ _) 3 2 _ 3 4 = _
                rw [up2, if_neg (by omega), up2, if_neg (by omega)]; exact a4
              · show up2 (up2 A1 3 _ _) 3 2 _ 3 5 = _
                rw [up2, if_neg (by omega), up2, if_neg (by omega)]; exact a5
              · show up2 (up2 A1 3 _ _) 3 2 _ 3 6 = _
                rw [up2, if_neg (by omega), up2, if_neg (by omega)]; exact a6
              · show up2 (up2 A1 3 _ _) 3 2 _ 3 (7 + m) = nI (if m = qn r.2.2 then i else qk r.2.2 m)
                rw [up2, if_neg (by rintro ⟨-, q⟩; have : 7 + m = 2 := q; omega), up2]
                by_cases q : m = qn r.2.2
                · rw [if_pos ⟨rfl, by omega⟩, if_pos q]; rfl
                · rw [if_neg (by rintro ⟨-, q2⟩; omega), if_neg q]; exact a7 m hm
            · exact ⟨by show qn r.2.2 + 1 ≤ 3; omega, hn2⟩
          · simp only [c3, if_true] at hq
            simp only [vcX8_passMen_51, R.fs, true_and]
            refine ⟨Or.inr rfl, fun h1 e1 => ?_⟩
            subst e1
            have R1 := R.put (k := 3) (x := 1) rfl
            simp only [R1.fs, true_and, show upd f 3 1 3 = 1 from rfl]
            refine ⟨fun _ => ?_, fun q => absurd q (by decide)⟩
            have Kb := RX.bad (L := L) R Y P
            refine ih (bad r) (fun q => Bool.noConfusion q) _ Kb (fun h' K' => hq h' ?_)
            have : rmL L B k (bad r) = bad r := by
              cases k with
              | zero => rfl
              | succ k => rw [rmL]; rfl
            rw [this] at K'; exact K'
      · have c : r.1 = false := by simpa using c
        have : rlt L B r = none := by unfold rlt; rw [c]; rfl
        rw [this] at hq
        exact hq h ⟨A, f, R, Y, P⟩
  obtain ⟨A, f, R, Y, P⟩ := K
  simp only [vcX8_passMen_0, R.fs, true_and]
  refine k_letterHere hT ⟨A, f, R, Y, P⟩ ?_
  rw [(lxI_neg (fun i hi => by have := rlt_lt hi; omega)).2]
  simp only [R.fs, true_and]
  unfold rmn at hq
  refine ⟨fun c => ?_, fun c => ?_⟩
  · rw [if_pos c] at hq
    have c1 : r.1 = true := by
      unfold rlt at c
      by_cases q : r.1 = true
      · exact q
      · rw [show r.1 = false by simpa using q] at c; cases c
    refine ⟨by rw [P.1, c1]; exact Or.inl rfl, fun h3 e3 => ?_⟩
    subst e3
    exact loop 4 r (fun _ => by omega) _ (RX.same R Y P (by rw [P.1, c1]; rfl)) hq
  · rw [if_neg c] at hq
    have e1 : f 3 ||| 1 = 1 := by rw [P.1]; cases r.1 <;> rfl
    rw [e1]
    refine ⟨Or.inr rfl, fun h3 e3 => ?_⟩
    subst e3
    exact loop 4 (bad r) (fun q => Bool.noConfusion q) _ (RX.bad R Y P) (fun h' K' => hq h' (by
      rw [show rmL L B 4 (bad r) = bad r from rfl] at K'; exact K'))
end
