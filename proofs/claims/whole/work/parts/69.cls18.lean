theorem rhc_f {L : Nat} {B : Nat → Nat} {r : Rr} (h : r.1 = false) : ∀ k, rhc L B k r = r
  | 0 => rfl
  | k + 1 => by rw [rhc, if_neg (by rw [see_iff, h]; intro q; cases q.1)]
theorem rcL_f {L : Nat} {B : Nat → Nat} {r : Rr} (h : r.1 = false) : ∀ k, rcL L B k r = r
  | 0 => rfl
  | k + 1 => by rw [rcL, h, Bool.false_and, if_neg (by decide)]
theorem rsp_f {L : Nat} {B : Nat → Nat} {r : Rr} (h : r.1 = false) (c : Nat) : rsp L B c r = bad r := by rw [rsp, if_neg (by rw [see_iff, h]; intro q; cases q.1)]
theorem rmn_f {L : Nat} {B : Nat → Nat} {r : Rr} (h : r.1 = false) : rmn L B r = bad r := by
  have : rlt L B r = none := by unfold rlt; rw [h]; rfl
  rw [rmn, this, if_neg (by decide)]
theorem rg2_f {L : Nat} {B : Nat → Nat} (h : (rg1 L B).1 = false) : (rgm L B).1 = false ∧ (rgm L B).2.1 = (rg1 L B).2.1 := by
  have e : rg2 L B = bad (bad (rg1 L B)) := by rw [rg2, rsp_f h, rmn_f rfl]
  rw [rgm, e, rcL_f rfl]; exact ⟨rfl, rfl⟩
theorem rgm_f {L : Nat} {B : Nat → Nat} (h : (rg2 L B).1 = false) : (rgm L B).1 = false ∧ (rgm L B).2.1 = (rg2 L B).2.1 := by
  rw [rgm, rcL_f h]; exact ⟨h, rfl⟩
theorem rg1_f {L : Nat} {B : Nat → Nat} (h : (rmn L B (rsp L B 59 (rsz L B))).1 = false) : (rgm L B).1 = false ∧ (rgm L B).2.1 = (rmn L B (rsp L B 59 (rsz L B))).2.1 := rg2_f h
theorem rsz_f {L : Nat} {B : Nat → Nat} (h : (rsp L B 59 (rsz L B)).1 = false) : (rgm L B).1 = false ∧ (rgm L B).2.1 = (rsp L B 59 (rsz L B)).2.1 := by
  have := @rg1_f L B (by rw [rmn_f h]; rfl)
  rw [rmn_f h] at this; exact this
section
variable {E : Wd} {h hb : Hp} {t tp L : Nat} {B : Nat → Nat} {r : Rr} {d : Nat}
theorem Kt.rd (K : Kt E h t tp L B r) : RdR E h t tp L B r := ⟨fun _ => K, fun z => (by rw [K.2.2.2.2] at z; cases z)⟩
theorem Kf.rd {g : Gm} {p : Nat} (K : Kf h t p) : RdR E h t tp L B (false, p, g) := ⟨fun z => (by cases z), fun _ => K⟩
def rnI (L : Nat) (B : Nat → Nat) (r : Rr) : Int32 := if (rnm L B r).1.1 = true then nI (rnm L B r).2 else -1
theorem c_readNumber {Q : Int32 → Hp → Prop} (K : Kt E h t tp L B r) (hq : ∀ h', Fr2 h h' t → RdR E h' t tp L B (rnm L B r).1 → Q (rnI L B r) h') : OkI E YX3_readNumber (d + 2) [.ref t] h Q := by
  refine rnX3_readNumber ⟨⟨_, K.1⟩, c_digitAhead K ?_⟩
  have hr := K.2.2.2.2
  unfold dgt
  by_cases s1 : see L B 48 57 r = true
  · obtain ⟨-, s2, s3, s4⟩ := see_iff.mp s1
    obtain ⟨v, hv⟩ : ∃ v, B r.2.1 - 48 = v := ⟨_, rfl⟩
    have e1 : rdg L B 48 57 r = (stp r, v) := by rw [rdg, if_pos s1, hv]
    rw [if_pos s1, hv]
    simp only [K.fs, true_and]
    refine ⟨fun _ h3 e3 => ?_, fun q => absurd (nI_pos' (by omega)) q⟩
    rw [nI_1] at e3
    have K3 : Kt E h3 t tp L B (stp r) := by rw [e3]; exact K.stp (by omega)
    have F3 : Fr2 h h3 t := by rw [e3]; exact K.fr
    clear e3
    refine ⟨⟨_, K3.1⟩, c_digitAhead K3 ?_⟩
    have one : ¬ (0 < v ∧ see L B 48 57 (stp r) = true) → Q (nI v) h3 := fun q => by
      have e2 : rnm L B r = (stp r, v) := by rw [rnm, e1, if_neg q]
      have := hq h3 F3 (by rw [e2]; exact K3.rd)
      rw [rnI, e2, if_pos (show (stp r, v).1.1 = true from hr)] at this; exact this
    rw [← nI_0, nI_eq (by omega) (by omega)]
    refine ⟨fun q => one (by omega), fun q => ?_⟩
    unfold dgt
    by_cases s5 : see L B 48 57 (stp r) = true
    · obtain ⟨-, t2, t3, t4⟩ := see_iff.mp s5
      obtain ⟨v2, hv2⟩ : ∃ v2, B (stp r).2.1 - 48 = v2 := ⟨_, rfl⟩
      have e3 : rdg L B 48 57 (stp r) = (stp (stp r), v2) := by rw [rdg, if_pos s5, hv2]
      rw [if_pos s5, hv2]
      simp only [K3.fs, true_and]
      refine ⟨fun _ h4 e4 => ?_, fun q => absurd (by rw [nI_0]; exact nI_pos' (by omega)) q⟩
      rw [nI_1] at e4
      have K4 : Kt E h4 t tp L B (stp (stp r)) := by rw [e4]; exact K3.stp (by omega)
      have F4 : Fr2 h3 h4 t := by rw [e4]; exact K3.fr
      have e5 : rnm L B r = (stp (stp r), 10 * v + v2) := by
        rw [rnm, e1]
        show (if 0 < v ∧ see L B 48 57 (stp r) = true then ((rdg L B 48 57 (stp r)).1, 10 * v + (rdg L B 48 57 (stp r)).2) else _) = _
        rw [if_pos ⟨by omega, s5⟩, e3]
      have := hq h4 (F3.tr F4) (by rw [e5]; exact K4.rd)
      rw [rnI, e5, if_pos (show (stp (stp r), 10 * v + v2).1.1 = true from hr)] at this
      rw [show (10 : Int32) = nI 10 from rfl, pk_mul, nI_add, Nat.mul_comm]
      exact this
    · rw [if_neg s5]
      exact ⟨fun q => absurd q (by decide), fun _ => one (fun q => s5 q.2)⟩
  · rw [if_neg s1]
    refine ⟨fun q => absurd q (by decide), fun _ => ?_⟩
    have e1 : rdg L B 48 57 r = (bad r, 0) := by rw [rdg, if_neg s1]
    have e2 : rnm L B r = (bad r, 0) := by rw [rnm, e1, if_neg (by intro q; omega)]
    have := hq h (Fr2.rfl h t) (by rw [e2]; exact ⟨fun z => (by cases z), fun _ => K.bad0⟩)
    rw [rnI, e2, if_neg (by intro z; cases z)] at this
    exact this
theorem rnI_c {P R : Prop} (h0 : (rnm L B r).1.1 = false → P) (h1 : (rnm L B r).1.1 = true → rnI L B r = nI (rnm L B r).2 → R) : (0 ≤ rnI L B r → R) ∧ (¬ 0 ≤ rnI L B r → P) := by
  have hl := @rnm_lt L B r
  by_cases c : (rnm L B r).1.1 = true
  · have e : rnI L B r = nI (rnm L B r).2 := by rw [rnI, if_pos c]
    exact ⟨fun _ => h1 c e, fun q => absurd (by rw [e]; exact nI_pos' (by omega)) q⟩
  · have e : rnI L B r = -1 := by rw [rnI, if_neg c]
    exact ⟨fun q => by rw [e] at q; exact absurd q (by decide), fun _ => h0 (by simpa using c)⟩
theorem c_readLimit {Q : Int32 → Hp → Prop} (K : Kt E h t tp L B r) (hq : ∀ h', Fr2 h h' t → RdR E h' t tp L B (onG (fun g => gL g (nI (rnm L B r).2)) (rnm L B r).1) → Q (bI (rnm L B r).1.1) h') : OkI E YX3_readLimit (d + 3) [.ref t] h Q := by
  refine rnX3_readLimit ⟨⟨_, K.1⟩, c_readNumber K (fun h1 F1 R1 => rnI_c (fun c => ⟨Or.inl rfl, ?_⟩) (fun c e => ?_))⟩
  · have := hq h1 F1 ⟨fun z => (by rw [show (onG _ (rnm L B r).1).1 = (rnm L B r).1.1 from rfl, c] at z; cases z), fun _ => R1.2 c⟩
    rw [c] at this; exact this
  · have K1 := R1.1 c
    simp only [K1.fs, true_and, e]
    intro h3 e3
    subst e3
    have K3 : Kt E (pF h1 t 9 (.int (nI (rnm L B r).2))) t tp L B (onG (fun g => gL g (nI (rnm L B r).2)) (rnm L B r).1) := K1.up rfl K1.2.2.2.1.1 c rfl rfl K1.2.2.2.1.2.2.2.2
    have := hq _ (F1.tr K1.fr) K3.rd
    rw [c] at this
    exact ⟨Or.inr rfl, this⟩
theorem c_readHoles {Q : Int32 → Hp → Prop} (K : Kt E h t tp L B r) (hq : ∀ h', Fr2 h h' t → RdR E h' t tp L B (rhc L B 41 (rsq L B r)) → Q (bI (rhc L B 41 (rsq L B r)).1) h') : OkI E YX3_readHoles (d + 3) [.ref t] h Q := by
  refine rnX3_readHoles (fun K2 k2 => ?_)
  obtain ⟨z, hz⟩ : ∃ z, z = rhc L B 41 (rsq L B r) := ⟨_, rfl⟩
  rw [← hz] at hq
  have hL := K.2.2.1.1
  have fail : ∀ h' r', Fr2 h h' t → r'.1 = false → Kf h' t r'.2.1 → z = r' → Q 0 h' := fun h' r' F c K' e => by
    have := hq h' F (by rw [e]; exact ⟨fun q => (by rw [c] at q; cases q), fun _ => K'⟩)
    rw [e, c] at this; exact this
  have loop : ∀ k j r', k + j = 40 → j ≤ r'.2.1 → ∀ h', Fr2 h h' t → Kt E h' t tp L B r' → z = rhc L B (k + 1) (rsq L B r') → K2 t (nI j) h' := by
    intro k
    induction k with
    | zero =>
      intro j r' hj hat h' F K' e
      refine k2 _ _ _ ?_
      rw [vcX3_readHoles_2, show (40 : Int32) = nI 40 from rfl, nI_leI (by omega) (by omega)]
      refine ⟨fun _ => ⟨Or.inl rfl, ?_⟩, fun q => absurd (by omega) q⟩
      have ns : ∀ lo hi, ¬ see L B lo hi r' = true := fun lo hi q => by have := (see_iff.mp q).2.1; omega
      have e1 : rdg L B 48 57 r' = (bad r', 0) := by rw [rdg, if_neg (ns _ _)]
      have e2 : rnm L B r' = (bad r', 0) := by rw [rnm, e1, if_neg (by intro q; omega)]
      have e3 : rsq L B r' = bad r' := by rw [rsq, e2, if_neg (by intro q; cases q)]
      rw [e3, rhc_f rfl] at e
      exact fail h' (bad r') F rfl K'.bad0 e
    | succ k ih =>
      intro j r' hj hat h' F K' e
      refine k2 _ _ _ ?_
      rw [vcX3_readHoles_2, show (40 : Int32) = nI 40 from rfl, nI_leI (by omega) (by omega)]
      simp only [K'.fs, true_and]
      refine ⟨fun q => absurd q (by omega), fun _ => c_readNumber K' (fun h1 F1 R1 => ?_)⟩
      refine rnI_c (fun c => ⟨Or.inl rfl, ?_⟩) (fun c ev => ?_)
      · have e3 : rsq L B r' = (rnm L B r').1 := by rw [rsq, if_neg (by rw [c]; decide)]
        rw [e3, rhc_f c] at e
        exact fail h1 _ (F.tr F1) c (R1.2 c) e
      · have K1 := R1.1 c
        obtain ⟨a1, a2, -⟩ := rnm_at c
        have hv := @rnm_lt L B r'
        have hw : qw (rnm L B r').1.2.2 = qw r'.2.2 := by rw [a2]
        simp only [K1.fs, true_and, ev, pk_mul]
        obtain ⟨v, hve⟩ : ∃ v, v = (rnm L B r').2 := ⟨_, rfl⟩
        obtain ⟨r1, hr1⟩ : ∃ r1, r1 = (rnm L B r').1 := ⟨_, rfl⟩
        rw [← hve] at hv ⊢
        rw [← hr1] at K1 a1 a2 c ⊢
        obtain ⟨b1, b2⟩ := K1.2.2.2.1
        have hwh : qw r1.2.2 * qh r1.2.2 < 2 ^ 31 := Nat.lt_of_le_of_lt (Nat.mul_le_mul b2.2.2.2.1 b2.2.2.2.2) (by decide)
        rw [nI_ltI (by omega) hwh]
        refine ⟨fun q h3 e3 => ?_, fun q h3 e3 => ⟨Or.inl rfl, ?_⟩⟩
        · rw [n_sh31 v hv, nx_or] at e3
          have e4 : rsq L B r' = onG (fun g => gO g (qo g ||| 2 ^ (v % 32))) r1 := by
            rw [rsq, ← hr1, ← hve, if_pos c, if_pos q]
          have K3 : Kt E h3 t tp L B (rsq L B r') := by
            rw [e3, e4]; exact K1.up rfl b1 c rfl rfl b2.2.2.2
          have F3 : Fr2 h h3 t := by rw [e3]; exact (F.tr F1).tr K1.fr
          clear e3
          have hat3 : (rsq L B r').2.1 = r1.2.1 := by rw [e4]; rfl
          obtain ⟨r3, hr3⟩ : ∃ r3, r3 = rsq L B r' := ⟨_, rfl⟩
          rw [← hr3] at K3 e hat3
          refine ⟨⟨_, K3.1⟩, c_take (c := 44) K3 (by omega) (fun s => ?_) (fun s h5 K5 F5 => ?_)⟩
          · refine ⟨fun q => absurd rfl q, fun _ => ⟨Or.inr rfl, ?_⟩⟩
            rw [rhc, if_neg (by rw [s]; decide)] at e
            have := hq h3 F3 (by rw [e]; exact K3.rd)
            rw [e, K3.2.2.2.2] at this; exact this
          · refine ⟨fun _ => ?_, fun q => absurd q (by decide)⟩
            rw [rhc, if_pos s] at e
            rw [nI_1]
            exact ih (j + 1) (stp r3) (by omega) (by show j + 1 ≤ r3.2.1 + 1; omega) h5 (F3.tr F5) K5 e
        · have e4 : rsq L B r' = (false, r'.2.1, r1.2.2) := by
            rw [rsq, ← hr1, ← hve, if_pos c, if_neg q]
          rw [e4, rhc_f rfl] at e
          subst e3
          refine fail _ _ ((F.tr F1).tr K1.fr) rfl ⟨_, by simp [pF, K1.1]; rfl, rfl⟩ e
  rw [vcX3_readHoles_0]
  exact loop 40 0 r rfl (Nat.zero_le _) h (Fr2.rfl h t) K hz
end
