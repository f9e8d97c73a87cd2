def rdf (t tp L : Nat) (r : Rr) : List Value := [.ref tp, .int (nI L), .int (nI r.2.1), .int (nI (qw r.2.2)), .int (nI (qh r.2.2)), .int (nI (qn r.2.2)), .int (nI (qb r.2.2)), .int (nI (qo r.2.2)), .int (qs r.2.2), .int (ql r.2.2), .ref (t + 1)]
/-- the tape: L bytes B in the row at tp -/
def TPk (E : Wd) (h : Hp) (tp L : Nat) (B : Nat → Nat) : Prop := L ≤ 40 ∧ ∃ T, h.2 tp = some (.inl (eA E 0, 40, .inl T)) ∧ ∀ i, i < L → T i = nI (B i) ∧ B i < 128
def Kt (E : Wd) (h : Hp) (t tp L : Nat) (B : Nat → Nat) (r : Rr) : Prop := h.2 t = some (.inr (3, rdf t tp L r)) ∧ (∃ F, h.2 (t + 1) = some (.inl (eA E 0, 3, .inl F)) ∧ ∀ m, m < qn r.2.2 → F m = nI (qk r.2.2 m)) ∧ TPk E h tp L B ∧ (r.2.1 ≤ L ∧ qn r.2.2 ≤ 3 ∧ tp ≠ t ∧ tp ≠ t + 1 ∧ qw r.2.2 ≤ 6 ∧ qh r.2.2 ≤ 6) ∧ r.1 = true
def Kf (h : Hp) (t p : Nat) : Prop := ∃ fs, h.2 t = some (.inr (3, fs)) ∧ fs[2]? = some (.int (nI p))
def RdR (E : Wd) (h : Hp) (t tp L : Nat) (B : Nat → Nat) (r : Rr) : Prop := (r.1 = true → Kt E h t tp L B r) ∧ (r.1 = false → Kf h t r.2.1)
theorem Fr2.rfl (h : Hp) (p : Nat) : Fr2 h h p := ⟨Eq.refl _, fun _ _ _ => Eq.refl _⟩
section
variable {E : Wd} {h : Hp} {t tp L : Nat} {B : Nat → Nat} {r : Rr} {d : Nat}
theorem Kt.bad0 (K : Kt E h t tp L B r) : Kf h t r.2.1 := ⟨_, K.1, rfl⟩
theorem Kt.bad1 (K : Kt E h t tp L B r) {k : Nat} {v : Value} (hk : k ≠ 2) : Kf (pF h t k v) t r.2.1 := by
  refine ⟨(rdf t tp L r).set k v, by simp [pF, K.1], ?_⟩
  rw [List.getElem?_set_ne hk]; rfl
theorem Kt.fr (K : Kt E h t tp L B r) {k : Nat} {v : Value} : Fr2 h (pF h t k v) t := ⟨rfl, fun a o1 _ => by simp [pF, o1]⟩
theorem Kt.up (K : Kt E h t tp L B r) {k : Nat} {v : Value} {r' : Rr} (e : (rdf t tp L r).set k v = rdf t tp L r') (h1 : r'.2.1 ≤ L) (h2 : r'.1 = true) (h3 : qn r'.2.2 = qn r.2.2) (h4 : qk r'.2.2 = qk r.2.2) (h5 : qw r'.2.2 ≤ 6 ∧ qh r'.2.2 ≤ 6) : Kt E (pF h t k v) t tp L B r' := by
  obtain ⟨k1, ⟨F, k2, k3⟩, ⟨k4, T, k5, k6⟩, ⟨k7, k8, k9, k10, -⟩, -⟩ := K
  have ne : t + 1 ≠ t := by omega
  refine ⟨by simp [pF, k1, e], ⟨F, by simp only [pF, ne, if_false]; exact k2, ?_⟩, ⟨k4, T, by simp only [pF, k9, if_false]; exact k5, k6⟩, ⟨h1, by rw [h3]; exact k8, k9, k10, h5⟩, h2⟩
  rw [h3, h4]; exact k3
theorem Kt.fs (K : Kt E h t tp L B r) : isO h t 3 ∧ okA h t 3 0 ∧ vA (hF h t 0) = tp ∧ okI h t 3 1 ∧ vI (hF h t 1) = nI L ∧ okI h t 3 2 ∧ okP h t 3 2 ∧ vI (hF h t 2) = nI r.2.1 ∧ okI h t 3 3 ∧ okP h t 3 3 ∧ vI (hF h t 3) = nI (qw r.2.2) ∧ okI h t 3 4 ∧ okP h t 3 4 ∧ vI (hF h t 4) = nI (qh r.2.2) ∧ okI h t 3 5 ∧ okP h t 3 5 ∧ vI (hF h t 5) = nI (qn r.2.2) ∧ okI h t 3 6 ∧ okP h t 3 6 ∧ vI (hF h t 6) = nI (qb r.2.2) ∧ okI h t 3 7 ∧ okP h t 3 7 ∧ vI (hF h t 7) = nI (qo r.2.2) ∧ okI h t 3 8 ∧ okP h t 3 8 ∧ vI (hF h t 8) = qs r.2.2 ∧ okI h t 3 9 ∧ okP h t 3 9 ∧ vI (hF h t 9) = ql r.2.2 ∧ okA h t 3 10 ∧ vA (hF h t 10) = t + 1 ∧ okL E h tp 0 ∧ lA h tp = nI 40 ∧ okL E h (t + 1) 0 ∧ lA h (t + 1) = nI 3 := by
  obtain ⟨e, ⟨F, k2, k3⟩, ⟨k4, T, k5, k6⟩, -⟩ := K
  exact ⟨⟨_, e⟩, ⟨_, _, e, rfl⟩, (by rw [hF_of e rfl]; rfl), ⟨_, _, e, rfl⟩, (by rw [hF_of e rfl]; rfl), ⟨_, _, e, rfl⟩, ⟨_, e, Nat.le_of_ble_eq_true rfl⟩, (by rw [hF_of e rfl]; rfl), ⟨_, _, e, rfl⟩, ⟨_, e, Nat.le_of_ble_eq_true rfl⟩, (by rw [hF_of e rfl]; rfl), ⟨_, _, e, rfl⟩, ⟨_, e, Nat.le_of_ble_eq_true rfl⟩, (by rw [hF_of e rfl]; rfl), ⟨_, _, e, rfl⟩, ⟨_, e, Nat.le_of_ble_eq_true rfl⟩, (by rw [hF_of e rfl]; rfl), ⟨_, _, e, rfl⟩, ⟨_, e, Nat.le_of_ble_eq_true rfl⟩, (by rw [hF_of e rfl]; rfl), ⟨_, _, e, rfl⟩, ⟨_, e, Nat.le_of_ble_eq_true rfl⟩, (by rw [hF_of e rfl]; rfl), ⟨_, _, e, rfl⟩, ⟨_, e, Nat.le_of_ble_eq_true rfl⟩, (by rw [hF_of e rfl]; rfl), ⟨_, _, e, rfl⟩, ⟨_, e, Nat.le_of_ble_eq_true rfl⟩, (by rw [hF_of e rfl]; rfl), ⟨_, _, e, rfl⟩, (by rw [hF_of e rfl]; rfl), ⟨_, k5⟩, by simp [lA, k5, nI], ⟨_, k2⟩, by simp [lA, k2, nI]⟩
theorem Kt.tpe (K : Kt E h t tp L B r) {i : Nat} (hi : i < L) : okR E h tp 0 (nI i) ∧ gA h tp (nI i) = nI (B i) ∧ B i < 128 := by
  obtain ⟨-, -, ⟨k4, T, k5, k6⟩, -⟩ := K
  exact ⟨⟨_, _, k5, vpn (by omega)⟩, by rw [gA_of k5, n_cl]; exact (k6 i hi).1, (k6 i hi).2⟩
theorem Kt.stp (K : Kt E h t tp L B r) (hL : r.2.1 + 1 ≤ L) : Kt E (pF h t 2 (.int (nI (r.2.1 + 1)))) t tp L B (stp r) := K.up rfl hL K.2.2.2.2 rfl rfl K.2.2.2.1.2.2.2.2
def ahd (L : Nat) (B : Nat → Nat) (r : Rr) : Int32 := if r.2.1 < L then nI (B r.2.1) else -1
theorem c_ahead {Q : Int32 → Hp → Prop} (K : Kt E h t tp L B r) (hq : Q (ahd L B r) h) : OkI E YX3_ahead d [.ref t] h Q := by
  refine rnX3_ahead ?_
  have hL := K.2.2.1.1
  have ha := K.2.2.2.1.1
  unfold ahd at hq
  simp only [vcX3_ahead_0, K.fs, true_and, nI_leI (show L < 2 ^ 31 by omega) (show r.2.1 < 2 ^ 31 by omega), nI_leI (show 40 < 2 ^ 31 by omega) (show r.2.1 < 2 ^ 31 by omega)]
  refine ⟨fun q => absurd q (nI_pos (by omega)), fun _ => ⟨fun q => ?_, fun q => ⟨fun q2 => absurd q2 (by omega), fun _ => ?_⟩⟩⟩
  · rw [if_neg (by omega)] at hq; exact hq
  · rw [if_pos (by omega)] at hq
    obtain ⟨t1, t2, -⟩ := K.tpe (show r.2.1 < L by omega)
    rw [t2]
    exact ⟨t1, hq⟩
theorem ahd_eq (K : Kt E h t tp L B r) {c : Nat} (hc : c < 128) : ahd L B r = nI c ↔ see L B c c r = true := by
  rw [see_iff]
  unfold ahd
  by_cases q : r.2.1 < L
  · obtain ⟨-, -, t3⟩ := K.tpe q
    rw [if_pos q, nI_eq (by omega) (by omega)]
    exact ⟨fun e => ⟨K.2.2.2.2, q, by omega, by omega⟩, fun e => by omega⟩
  · rw [if_neg q]
    constructor
    · intro e
      exact absurd (show nI c < 0 by rw [← e]; decide) (nI_pos (by omega))
    · intro e; exact absurd e.2.1 q
theorem c_take {Q : Int32 → Hp → Prop} {c : Nat} (K : Kt E h t tp L B r) (hc : c < 128) (h0 : see L B c c r = false → Q 0 h) (h1 : see L B c c r = true → ∀ h', Kt E h' t tp L B (stp r) → Fr2 h h' t → Q 1 h') : OkI E YX3_take (d + 1) [.ref t, .int (nI c)] h Q := by
  refine rnX3_take ⟨⟨_, K.1⟩, c_ahead K ?_⟩
  rw [ahd_eq K hc]
  simp only [K.fs, true_and]
  refine ⟨fun q h3 e3 => ⟨Or.inr rfl, ?_⟩, fun q => ⟨Or.inl rfl, h0 (by simpa using q)⟩⟩
  rw [nI_1] at e3
  subst e3
  have := see_iff.mp q
  exact h1 q _ (K.stp (by omega)) K.fr
def dgt (L : Nat) (B : Nat → Nat) (r : Rr) : Int32 := if see L B 48 57 r = true then nI (B r.2.1 - 48) else -1
theorem c_digitAhead {Q : Int32 → Hp → Prop} (K : Kt E h t tp L B r) (hq : Q (dgt L B r) h) : OkI E YX3_digitAhead (d + 1) [.ref t] h Q := by
  refine rnX3_digitAhead ⟨⟨_, K.1⟩, c_ahead K ?_⟩
  unfold dgt at hq
  unfold ahd
  by_cases q : r.2.1 < L
  · obtain ⟨-, -, t3⟩ := K.tpe q
    rw [if_pos q, show (48 : Int32) = nI 48 from rfl, show (57 : Int32) = nI 57 from rfl, nI_ltI (by omega) (by omega), nI_ltI (by omega) (by omega)]
    refine ⟨fun c => ?_, fun c => ⟨fun c2 => ?_, fun c2 => ?_⟩⟩
    · rw [if_neg (by rw [see_iff]; omega)] at hq; exact hq
    · rw [if_neg (by rw [see_iff]; omega)] at hq; exact hq
    · rw [if_pos (see_iff.mpr ⟨K.2.2.2.2, q, by omega, by omega⟩)] at hq
      rw [n_sub (by omega)]; exact hq
  · rw [if_neg q]
    rw [if_neg (by rw [see_iff]; omega)] at hq
    exact ⟨fun _ => hq, fun c => absurd (by decide) c⟩
theorem c_kindAhead {Q : Int32 → Hp → Prop} (K : Kt E h t tp L B r) (hq : Q (lxI (rlt L B r)) h) : OkI E YX3_kindAhead (d + 4) [.ref t] h Q := by
  refine rnX3_kindAhead ⟨⟨_, K.1⟩, c_ahead K ?_⟩
  unfold rlt at hq
  rw [K.2.2.2.2, Bool.true_and] at hq
  unfold ahd
  by_cases q : r.2.1 < L
  · obtain ⟨-, -, t3⟩ := K.tpe q
    rw [if_pos q]
    rw [if_pos (by simpa using q)] at hq
    refine ⟨fun _ => ?_, fun c => absurd (nI_pos' (by omega)) c⟩
    have e : ∀ c, c < 128 → ((((nI c : Int32).toUInt32 % 65536).toInt32) : Int32) = nI c := by decide +kernel
    rw [e _ t3]
    exact k_sIndexOf t3 hq
  · rw [if_neg q]
    rw [if_neg (by simpa using q)] at hq
    exact ⟨fun c => absurd c (by decide), fun _ => hq⟩
theorem c_readMan {Q : Int32 → Hp → Prop} (K : Kt E h t tp L B r) (hN : (rlt L B r = none ∨ qn r.2.2 = 3) → Q 0 h) (hS : ∀ i, rlt L B r = some i → qn r.2.2 ≠ 3 → ∀ h', Kt E h' t tp L B (stp (onG (fun g => gAdd g i) r)) → Fr2 h h' t → Q 1 h') : OkI E YX3_readMan (d + 5) [.ref t] h Q := by
  refine rnX3_readMan ⟨⟨_, K.1⟩, c_kindAhead K ?_⟩
  have hn3 := K.2.2.2.1.2.1
  rw [(lxI_neg (fun i hi => by have := rlt_lt hi; omega)).1]
  refine ⟨fun c => ⟨Or.inl rfl, hN (Or.inl c)⟩, fun c => ?_⟩
  obtain ⟨i, hi⟩ : ∃ i, rlt L B r = some i := by
    cases e : rlt L B r with
    | none => exact absurd e c
    | some i => exact ⟨i, rfl⟩
  have hi10 := rlt_lt hi
  have haL : r.2.1 + 1 ≤ L := by
    unfold rlt at hi
    split at hi
    · rename_i z; simp at z; omega
    · cases hi
  rw [hi]
  simp only [K.fs, true_and, nI_ltI (show qn r.2.2 < 2 ^ 31 by omega) (show 3 < 2 ^ 31 by omega)]
  refine ⟨fun q => absurd q (nI_pos (by omega)), fun _ => ⟨fun q => ?_, fun q => ⟨Or.inl rfl, hN (Or.inr (by omega))⟩⟩⟩
  obtain ⟨k1, ⟨F, k2, k3⟩, ⟨k4, T, k5, k6⟩, ⟨k7, k8, k9, k10, k12⟩, k11⟩ := id K
  refine ⟨⟨_, _, k2, vpn q⟩, fun h3 e3 => ?_⟩
  have ne : t + 1 ≠ t := by omega
  have ne' : t ≠ t + 1 := by omega
  have w1 : h3.2 (t + 1) = some (.inl (eA E 0, 3, .inl (upd F (qn r.2.2) (nI i)))) := by
    rw [e3]
    have := sA_of (i := nI (qn r.2.2)) (x := nI i) k2
    rw [n_cl] at this; exact this
  have w2 : ∀ a, a ≠ t + 1 → h3.2 a = h.2 a := fun a ha => by rw [e3]; simp [sA, ha]
  have w3 : h3.1 = h.1 := by rw [e3]; rfl
  clear e3
  have u1 : h3.2 t = some (.inr (3, rdf t tp L r)) := by rw [w2 _ ne']; exact k1
  refine ⟨⟨_, _, u1, rfl⟩, ⟨_, u1, Nat.le_of_ble_eq_true rfl⟩, fun h4 e4 => ?_⟩
  rw [show fI h3 t 5 = nI (qn r.2.2) by show vI (hF h3 t 5) = _; rw [hF_of u1 rfl]; rfl, nI_1] at e4
  have K4 : Kt E h4 t tp L B (onG (fun g => gAdd g i) r) ∧ Fr2 h h4 t := by
    rw [e4]
    refine ⟨⟨by simp [pF, u1]; rfl, ⟨upd F (qn r.2.2) (nI i), by simp only [pF, ne, if_false]; exact w1, fun m hm => ?_⟩, ⟨k4, T, ?_, k6⟩, ⟨k7, by show qn r.2.2 + 1 ≤ 3; omega, k9, k10, k12⟩, k11⟩, w3, fun a o1 o2 => ?_⟩
    · have hm : m < qn r.2.2 + 1 := hm
      show upd F (qn r.2.2) (nI i) m = nI (if m = qn r.2.2 then i else qk r.2.2 m)
      by_cases z : m = qn r.2.2
      · subst z; simp [upd]
      · simp only [upd, z, if_false]; exact k3 m (by omega)
    · simp only [pF, k9, if_false]; rw [w2 _ k10]; exact k5
    · simp only [pF, o1, if_false]; exact w2 a o2
  clear e4
  simp only [K4.1.fs, true_and]
  intro h5 e5
  rw [nI_1] at e5
  subst e5
  exact ⟨Or.inr rfl, hS i hi (by omega) _ (K4.1.stp haL) (K4.2.tr K4.1.fr)⟩
theorem c_readMen {Q : Int32 → Hp → Prop} (K : Kt E h t tp L B r) (hq : ∀ h', Fr2 h h' t → RdR E h' t tp L B (rmn L B r) → Q (bI (rmn L B r).1) h') : OkI E YX3_readMen (d + 6) [.ref t] h Q := by
  refine rnX3_readMen (fun K11 k11 => ?_)
  have good : ∀ h' r', Fr2 h h' t → Kt E h' t tp L B r' → rmn L B r = r' → Q 1 h' := fun h' r' F K' e => by
    have := hq h' F (by rw [e]; exact ⟨fun _ => K', fun z => by rw [K'.2.2.2.2] at z; cases z⟩)
    rw [e, K'.2.2.2.2] at this; exact this
  have fail : ∀ h' r', Fr2 h h' t → Kt E h' t tp L B r' → rmn L B r = bad r' → Q 0 h' := fun h' r' F K' e => by
    have := hq h' F (by rw [e]; exact ⟨fun z => (by cases z), fun _ => K'.bad0⟩)
    rw [e] at this; exact this
  have loop : ∀ k j r', k + j = 3 → ∀ h', Fr2 h h' t → Kt E h' t tp L B r' → rmn L B r = rmL L B k r' → K11 t (nI j) h' := by
    intro k
    induction k with
    | zero =>
      intro j r' hj h' F K' e
      refine k11 _ _ _ ?_
      rw [vcX3_readMen_11, show (3 : Int32) = nI 3 from rfl, nI_leI (by omega) (by omega)]
      exact ⟨fun _ => ⟨Or.inr rfl, good h' r' F K' e⟩, fun q => absurd (by omega) q⟩
    | succ k ih =>
      intro j r' hj h' F K' e
      refine k11 _ _ _ ?_
      rw [vcX3_readMen_11, show (3 : Int32) = nI 3 from rfl, nI_leI (by omega) (by omega)]
      refine ⟨fun q => absurd q (by omega), fun _ => ⟨⟨_, K'.1⟩, c_kindAhead K' ?_⟩⟩
      rw [(lxI_neg (fun i hi => by have := rlt_lt hi; omega)).1]
      rw [rmL] at e
      refine ⟨fun q => ⟨Or.inr rfl, good h' r' F K' (by rw [e, q])⟩, fun q => ⟨⟨_, K'.1⟩, c_readMan K' (fun z => ?_) (fun i hi hn h2 K2 F2 => ?_)⟩⟩
      · refine ⟨fun q => absurd rfl q, fun _ => ⟨Or.inl rfl, fail h' r' F K' ?_⟩⟩
        rcases z with z | z
        · exact absurd z q
        · rw [e]
          cases hr : rlt L B r' with
          | none => exact absurd hr q
          | some i => show (if qn r'.2.2 = 3 then bad r' else _) = _; rw [if_pos z]
      · refine ⟨fun _ => ?_, fun q => absurd q (by decide)⟩
        rw [nI_1]
        refine ih (j + 1) _ (by omega) h2 (F.tr F2) K2 ?_
        rw [e, hi]
        show (if qn r'.2.2 = 3 then bad r' else _) = _
        rw [if_neg hn]
  refine ⟨⟨_, K.1⟩, c_readMan K (fun z => ?_) (fun i hi hn h2 K2 F2 => ?_)⟩
  · refine ⟨fun q => absurd rfl q, fun _ => ⟨Or.inl rfl, fail h r (Fr2.rfl h t) K ?_⟩⟩
    rw [rmn]
    rcases z with z | z
    · rw [z, if_neg (by decide)]
    · cases hr : rlt L B r with
      | none => rw [if_neg (by decide)]
      | some i => rw [if_pos (show (some i).isSome = true from rfl), rmL, hr]; show (if qn r.2.2 = 3 then bad r else _) = _; rw [if_pos z]
  · refine ⟨fun _ => loop 3 0 _ rfl h2 F2 K2 ?_, fun q => absurd q (by decide)⟩
    rw [rmn, hi, if_pos (show (some i).isSome = true from rfl), rmL, hi]
    show (if qn r.2.2 = 3 then bad r else _) = _
    rw [if_neg hn]
end
