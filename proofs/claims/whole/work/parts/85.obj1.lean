/-- a place for a table: its address, and where it is built its rules' address and its game -/
abbrev Sl : Type := Option (Nat × Option (Nat × Gm))
def slH (E : Wd) (h : Hp) : Sl → Prop
  | none => True
  | some (t, none) => TR E h t
  | some (t, some (r, g)) => (∃ A, TF E h t r g A) ∧ qF g ∧ qV g ∧ bnd g
def slW : Sl → Nat → Prop
  | none, _ => False
  | some (t, none), a => t ≤ a ∧ a < t + 9
  | some (t, some (r, _)), a => (t ≤ a ∧ a < t + 9) ∨ (r ≤ a ∧ a < r + 10)
def slA (c : Sl) : Option Nat := c.map (fun x => x.1)
def slG (c : Sl) : Option Gm := c.bind (fun x => x.2.map (fun y => y.2))
def pick (c1 c2 : Sl) : Option Bool → Sl
  | none => none
  | some false => c1
  | some true => c2
def tn : Sl → Nat
  | none => 0
  | some _ => 1
def objf (O L : Nat) (f1 f2 tb kt : Option Nat) (kp : Bool) : List Value := [.ref (O + 1), .int (nI L), va_rf f1, va_rf f2, va_rf tb, va_rf kt, .ref (O + 2), .ref (O + 4), .int (bI kp)]
/-- a play of a game: its positions are possible ones, and a move captured where more men are missing behind it -/
def PV (go : Option Gm) (p : Pl) : Prop := (go = none → pN p = 0) ∧ ∀ g, go = some g → (∀ k, k < pN p → Ps g (pP p k) = true) ∧ ∀ k, 0 < k → k < pN p → pC p k = decide (ms g (plc g (pP p (k - 1))) < ms g (plc g (pP p k)))
def KPV (E : Wd) (h : Hp) (O : Nat) (c1 c2 : Sl) (bk : Option Bool) : Option (Option Gm × Pl) → Prop
  | none => bk = none ∧ ∃ p, Ky E h (O + 4) p
  | some k => k.1 = slG (pick c1 c2 bk) ∧ (bk.isSome = true → k.1.isSome = true) ∧ Ky E h (O + 4) k.2 ∧ PV k.1 k.2
def OWN (O : Nat) (c1 c2 : Sl) (a : Nat) : Prop := (O ≤ a ∧ a < O + 6) ∨ slW c1 a ∨ slW c2 a
def CT (E : Wd) (h : Hp) (O M : Nat) (s : Sg) (c1 c2 : Sl) (bt bk : Option Bool) : Prop :=
  h.2 O = some (.inr (7, objf O (sL s) (slA c1) (slA c2) (slA (pick c1 c2 bt)) (slA (pick c1 c2 bk)) (sK s).isSome)) ∧
  TPk E h (O + 1) (sL s) (sB s) ∧ Ky E h (O + 2) (sP s) ∧ (slH E h c1 ∧ slH E h c2) ∧ (sG s = slG (pick c1 c2 bt) ∧ (bt.isSome = true → (sG s).isSome = true)) ∧ PV (sG s) (sP s) ∧ KPV E h O c1 c2 bk (sK s) ∧
  (∀ a, slW c1 a → ¬ slW c2 a) ∧ (∀ a, slW c1 a ∨ slW c2 a → O + 6 ≤ a) ∧ (∀ a, OWN O c1 c2 a → a < h.1 ∧ ¬ (M ≤ a ∧ a < M + 54)) ∧ M + 54 ≤ h.1
def CS (E : Wd) (h : Hp) (O M : Nat) (s : Sg) (n : Nat) : Prop := ∃ c1 c2 bt bk, CT E h O M s c1 c2 bt bk ∧ n = tn c1 + tn c2
/-- the reference's cells stay -/
def FQ (M : Nat) (h h' : Hp) : Prop := h.1 ≤ h'.1 ∧ ∀ a, M ≤ a → a < M + 54 → h'.2 a = h.2 a
theorem FQ.rfl (M : Nat) (h : Hp) : FQ M h h := ⟨Nat.le_refl _, fun _ _ _ => Eq.refl _⟩
theorem FQ.tr {M : Nat} {h h' h'' : Hp} (F : FQ M h h') (G : FQ M h' h'') : FQ M h h'' := ⟨Nat.le_trans F.1 G.1, fun a o1 o2 => (G.2 a o1 o2).trans (F.2 a o1 o2)⟩
section
variable {E : Wd} {h h' : Hp} {O M t r : Nat} {s : Sg} {c c1 c2 : Sl} {bt bk : Option Bool} {g : Gm} {A A' : Nat → Nat → Int32} {d : Nat}
theorem slH.of (H : slH E h c) (e : ∀ a, slW c a → h'.2 a = h.2 a) : slH E h' c := by
  match c, H, e with
  | none, _, _ => trivial
  | some (t, none), H, e => exact TR.of H (fun j hj => e _ ⟨by omega, by omega⟩)
  | some (t, some (r, g)), H, e =>
    obtain ⟨⟨A, T, G, V⟩, q⟩ := H
    exact ⟨⟨A, T.of (fun j hj => e _ (Or.inl ⟨by omega, by omega⟩)) (fun j hj => e _ (Or.inr ⟨by omega, by omega⟩)), G, V⟩, q⟩
theorem KPV.of {k : Option (Option Gm × Pl)} (K : KPV E h O c1 c2 bk k) (e0 : h'.2 (O + 4) = h.2 (O + 4)) (e1 : h'.2 (O + 5) = h.2 (O + 5)) : KPV E h' O c1 c2 bk k := by
  cases k with
  | none => exact ⟨K.1, K.2.choose, K.2.choose_spec.of e0 e1⟩
  | some k => exact ⟨K.1, K.2.1, K.2.2.1.of e0 e1, K.2.2.2⟩
theorem TPk.of {tp L : Nat} {B : Nat → Nat} (T : TPk E h tp L B) (e : h'.2 tp = h.2 tp) : TPk E h' tp L B := by
  obtain ⟨t1, T, t2, t3⟩ := T
  exact ⟨t1, T, by rw [e]; exact t2, t3⟩
/-- nothing of the object's cells changes -/
theorem CT.of (C : CT E h O M s c1 c2 bt bk) (e : ∀ a, OWN O c1 c2 a → h'.2 a = h.2 a) (hs : h.1 ≤ h'.1) : CT E h' O M s c1 c2 bt bk := by
  obtain ⟨k1, k2, k3, ⟨k4, k5⟩, k6, k7, k8, k9, k10, k11, k12⟩ := C
  have e0 : ∀ j, j < 6 → h'.2 (O + j) = h.2 (O + j) := fun j hj => e _ (Or.inl ⟨by omega, by omega⟩)
  exact ⟨by rw [← k1]; exact e0 0 (by omega), k2.of (e0 1 (by omega)), k3.of (e0 2 (by omega)) (e0 3 (by omega)), ⟨k4.of (fun a ha => e a (Or.inr (Or.inl ha))), k5.of (fun a ha => e a (Or.inr (Or.inr ha)))⟩, k6, k7, k8.of (e0 4 (by omega)) (e0 5 (by omega)), k9, k10, fun a ha => ⟨by have := (k11 a ha).1; omega, (k11 a ha).2⟩, by omega⟩
/-- one of the tables has been asked -/
theorem CT.ft {b : Bool} (C : CT E h O M s c1 c2 bt bk) (hp : pick c1 c2 (some b) = some (t, some (r, g))) (T : TF E h' t r g A') (F : FT h h' t r) : CT E h' O M s c1 c2 bt bk ∧ FQ M h h' := by
  obtain ⟨k1, k2, k3, ⟨k4, k5⟩, k6, k7, k8, k9, k10, k11, k12⟩ := C
  have in' : ∀ a, (t ≤ a ∧ a < t + 9) ∨ a = r + 5 ∨ a = r + 6 → slW c1 a ∨ slW c2 a := fun a ha => by
    cases b with
    | false => have hp : c1 = _ := hp; left; rw [hp]; show _ ∨ _; omega
    | true => have hp : c2 = _ := hp; right; rw [hp]; show _ ∨ _; omega
  have fr : ∀ a, ¬ ((t ≤ a ∧ a < t + 9) ∨ a = r + 5 ∨ a = r + 6) → h'.2 a = h.2 a := fun a ha => F.2 a (fun z => ha (Or.inl z)) (fun z => ha (Or.inr (Or.inl z))) (fun z => ha (Or.inr (Or.inr z)))
  have e0 : ∀ j, j < 6 → h'.2 (O + j) = h.2 (O + j) := fun j hj => fr _ (fun z => by have := k10 _ (in' _ z); omega)
  have hsl : slH E h' c1 ∧ slH E h' c2 := by
    cases b with
    | false =>
      have hp : c1 = _ := hp
      refine ⟨?_, k5.of (fun a ha => fr a (fun z => k9 a (by rw [hp]; show _ ∨ _; omega) ha))⟩
      rw [hp] at k4 ⊢
      exact ⟨⟨A', T⟩, k4.2⟩
    | true =>
      have hp : c2 = _ := hp
      refine ⟨k4.of (fun a ha => fr a (fun z => k9 a ha (by rw [hp]; show _ ∨ _; omega))), ?_⟩
      rw [hp] at k5 ⊢
      exact ⟨⟨A', T⟩, k5.2⟩
  refine ⟨⟨by rw [← k1]; exact e0 0 (by omega), k2.of (e0 1 (by omega)), k3.of (e0 2 (by omega)) (e0 3 (by omega)), hsl, k6, k7, k8.of (e0 4 (by omega)) (e0 5 (by omega)), k9, k10, fun a ha => ⟨by have := (k11 a ha).1; rw [F.1]; exact this, (k11 a ha).2⟩, by rw [F.1]; exact k12⟩, Nat.le_of_eq F.1.symm, fun a h1 h2 => fr a (fun z => (k11 a (Or.inr (in' a z))).2 ⟨h1, h2⟩)⟩
/-- the play has changed -/
theorem CT.play {pl : Pl} (C : CT E h O M s c1 c2 bt bk) (K : Ky E h' (O + 2) pl) (F : Fr2 h h' (O + 2)) (V : PV (sG s) pl) : CT E h' O M (sPl s pl) c1 c2 bt bk ∧ FQ M h h' := by
  obtain ⟨k1, k2, k3, ⟨k4, k5⟩, k6, k7, k8, k9, k10, k11, k12⟩ := C
  have e : ∀ a, a ≠ O + 2 → a ≠ O + 3 → h'.2 a = h.2 a := fun a h1 h2 => F.2 a h1 h2
  refine ⟨⟨by rw [e _ (by omega) (by omega)]; exact k1, k2.of (e _ (by omega) (by omega)), K, ⟨k4.of (fun a ha => by have := k10 a (Or.inl ha); exact e _ (by omega) (by omega)), k5.of (fun a ha => by have := k10 a (Or.inr ha); exact e _ (by omega) (by omega))⟩, k6, V, k8.of (e _ (by omega) (by omega)) (e _ (by omega) (by omega)), k9, k10, fun a ha => ⟨by have := (k11 a ha).1; rw [F.1]; exact this, (k11 a ha).2⟩, by rw [F.1]; exact k12⟩, Nat.le_of_eq F.1.symm, fun a h1 h2 => ?_⟩
  have q2 := (k11 (O + 2) (Or.inl ⟨by omega, by omega⟩)).2
  have q3 := (k11 (O + 3) (Or.inl ⟨by omega, by omega⟩)).2
  exact e a (fun z => q2 (by omega)) (fun z => q3 (by omega))
theorem vN_rf (o : Option Nat) : vN (va_rf o) = o := by cases o <;> rfl
theorem CT.fs (C : CT E h O M s c1 c2 bt bk) : isO h O 7 ∧ okA h O 7 0 ∧ vA (hF h O 0) = O + 1 ∧ okI h O 7 1 ∧ okP h O 7 1 ∧ vI (hF h O 1) = nI (sL s) ∧ okN h O 7 2 ∧ vN (hF h O 2) = slA c1 ∧ okN h O 7 3 ∧ vN (hF h O 3) = slA c2 ∧ okN h O 7 4 ∧ okP h O 7 4 ∧ vN (hF h O 4) = slA (pick c1 c2 bt) ∧ okN h O 7 5 ∧ okP h O 7 5 ∧ vN (hF h O 5) = slA (pick c1 c2 bk) ∧ okA h O 7 6 ∧ vA (hF h O 6) = O + 2 ∧ okA h O 7 7 ∧ vA (hF h O 7) = O + 4 ∧ okI h O 7 8 ∧ okP h O 7 8 ∧ vI (hF h O 8) = bI (sK s).isSome ∧ isO h (O + 2) 0 ∧ isO h (O + 4) 0 := by
  obtain ⟨e, -, k3, -, -, -, k8, -⟩ := C
  have k4 : isO h (O + 4) 0 := by
    revert k8
    cases sK s with
    | none => intro k8; exact ⟨_, k8.2.choose_spec.2.1⟩
    | some k => intro k8; exact ⟨_, k8.2.2.1.2.1⟩
  exact ⟨⟨_, e⟩, ⟨_, _, e, rfl⟩, (by rw [hF_of e rfl]; rfl), ⟨_, _, e, rfl⟩, ⟨_, e, Nat.le_of_ble_eq_true rfl⟩, (by rw [hF_of e rfl]; rfl), ⟨_, _, e, rfl⟩, (by rw [hF_of e rfl, vN_rf]), ⟨_, _, e, rfl⟩, (by rw [hF_of e rfl, vN_rf]), ⟨_, _, e, rfl⟩, ⟨_, e, Nat.le_of_ble_eq_true rfl⟩, (by rw [hF_of e rfl, vN_rf]), ⟨_, _, e, rfl⟩, ⟨_, e, Nat.le_of_ble_eq_true rfl⟩, (by rw [hF_of e rfl, vN_rf]), ⟨_, _, e, rfl⟩, (by rw [hF_of e rfl]; rfl), ⟨_, _, e, rfl⟩, (by rw [hF_of e rfl]; rfl), ⟨_, _, e, rfl⟩, ⟨_, e, Nat.le_of_ble_eq_true rfl⟩, (by rw [hF_of e rfl]; rfl), ⟨_, k3.2.1⟩, k4⟩
/-- the game's table, where there is a game -/
theorem CT.tb (C : CT E h O M s c1 c2 bt bk) (hg : sG s = some g) : ∃ b t r A, bt = some b ∧ pick c1 c2 (some b) = some (t, some (r, g)) ∧ TF E h t r g A ∧ qF g ∧ qV g ∧ bnd g ∧ okA h O 7 4 ∧ vA (hF h O 4) = t ∧ vN (hF h O 4) = some t := by
  obtain ⟨e, -, -, ⟨k4, k5⟩, ⟨k6, -⟩, -⟩ := C
  cases bt with
  | none => rw [hg] at k6; cases k6
  | some b =>
    rw [hg] at k6
    obtain ⟨c, hc⟩ : ∃ c, c = pick c1 c2 (some b) := ⟨_, rfl⟩
    have hH : slH E h c := by
      rw [hc]; cases b
      · exact k4
      · exact k5
    rw [← hc] at k6 e
    match c, hc, k6, hH, e with
    | none, _, k6, _, _ => cases k6
    | some (t, none), _, k6, _, _ => cases k6
    | some (t, some (r, g')), hc, k6, hH, e =>
      cases k6
      obtain ⟨⟨A, T⟩, h1, h2, h3⟩ := hH
      exact ⟨b, t, r, A, rfl, hc.symm, T, h1, h2, h3, ⟨_, _, e, rfl⟩, (by rw [hF_of e rfl]; rfl), (by rw [hF_of e rfl]; rfl)⟩
theorem CT.notb (C : CT E h O M s c1 c2 bt bk) (hg : sG s = none) : bt = none ∧ vN (hF h O 4) = none := by
  have h1 : bt = none := by
    cases bt with
    | none => rfl
    | some b => have := C.2.2.2.2.1.2 rfl; rw [hg] at this; cases this
  refine ⟨h1, ?_⟩
  have := C.fs.2.2.2.2.2.2.2.2.2.2.2.2.1
  rw [this, h1]; rfl
end
