abbrev Pl : Type := Nat × (Nat → Nat) × (Nat → Bool)
abbrev Sg : Type := Nat × (Nat → Nat) × Option Gm × Pl × Option (Option Gm × Pl)
abbrev sL (s : Sg) : Nat := s.1
abbrev sB (s : Sg) : Nat → Nat := s.2.1
abbrev sG (s : Sg) : Option Gm := s.2.2.1
abbrev sP (s : Sg) : Pl := s.2.2.2.1
abbrev sK (s : Sg) : Option (Option Gm × Pl) := s.2.2.2.2
abbrev pN (p : Pl) : Nat := p.1
abbrev pP (p : Pl) : Nat → Nat := p.2.1
abbrev pC (p : Pl) : Nat → Bool := p.2.2
def sPl (s : Sg) (p : Pl) : Sg := (sL s, sB s, sG s, p, sK s)
def pHe (p : Pl) : Nat := pP p (pN p - 1)
def plB (x : Nat) : Pl := (1, fun _ => x, fun _ => false)
def plA (p : Pl) (y : Nat) (b : Bool) : Pl := (pN p + 1, fun k => if k = pN p then y else pP p k, fun k => if k = pN p then b else pC p k)
def plK (p : Pl) : Pl := (pN p - 1, pP p, pC p)
def ocP (p : Pl) : Nat := cN (fun k => pP p k == pHe p) (pN p)
def RGo (A : Nat → Nat → Int32) (f : Nat → Int32) : Option Gm → Prop
  | none => f 7 = 0
  | some g => f 7 = 1 ∧ RG A f g
def RPl (A : Nat → Nat → Int32) (a b : Nat) (x : Int32) (go : Option Gm) (p : Pl) : Prop :=
  pN p ≤ 41 ∧ x = nI (pN p) - 1 ∧ ((go = none → pN p = 0) ∧ ∀ k, k < 41 → mB (A b k)) ∧ ∀ k, k < pN p → A a k = nI (pP p k) ∧ A b k = bI (pC p k) ∧ ∀ g, go = some g → Ps g (pP p k) = true
def RKp (A : Nat → Nat → Int32) (f : Nat → Int32) : Option (Option Gm × Pl) → Prop
  | none => f 30 = 0
  | some k => f 30 = 1 ∧ f 31 = bI k.1.isSome ∧ (∀ g, k.1 = some g → rA (A 4) g ∧ qF g ∧ qV g) ∧ RPl A 50 52 (f 24) k.1 k.2
def RTp (A : Nat → Nat → Int32) (f : Nat → Int32) (L : Nat) (B : Nat → Nat) : Prop := f 1 = nI L ∧ L ≤ 40 ∧ ∀ i, i < L → A 1 i = nI (B i) ∧ B i < 128
def RS (A : Nat → Nat → Int32) (f : Nat → Int32) (s : Sg) : Prop := RTp A f (sL s) (sB s) ∧ RGo A f (sG s) ∧ RPl A 49 51 (f 23) (sG s) (sP s) ∧ RKp A f (sK s)
def FS (A A' : Nat → Nat → Int32) : Prop := ∀ j, (j = 1 ∨ j = 2 ∨ j = 4 ∨ (41 ≤ j ∧ j < 47) ∨ (49 ≤ j ∧ j < 53)) → A' j = A j
theorem FS.tr {A A' A'' : Nat → Nat → Int32} (F : FS A A') (G : FS A' A'') : FS A A'' := fun j o => (G j o).trans (F j o)
theorem FS.rfl (A : Nat → Nat → Int32) : FS A A := fun _ _ => Eq.refl _
theorem FM.fs {A A' : Nat → Nat → Int32} {g : Gm} {e : Nat} {P : Nat → Nat} {L : List (Nat × Nat × Option Nat × Nat)} (he : e < 6) (F : FM g A A' e P L) : FS A A' := fun j _ => funext fun i => F.2.2 j i (by omega) ⟨by omega, by omega, by omega, by omega, by omega⟩
theorem FI.fs {A A' : Nat → Nat → Int32} (F : FI A A') : FS A A' := fun j _ => funext fun i => F j i (by omega) (by omega)
theorem RPl.of {A A' : Nat → Nat → Int32} {a b : Nat} {x : Int32} {go : Option Gm} {p : Pl} (P : RPl A a b x go p) (ha : A' a = A a) (hb : A' b = A b) : RPl A' a b x go p := by
  unfold RPl at P ⊢
  rw [ha, hb]; exact P
theorem RGo.of {A A' : Nat → Nat → Int32} {f : Nat → Int32} {go : Option Gm} (P : RGo A f go) (F : FS A A') : RGo A' f go := by
  cases go with
  | none => exact P
  | some g => exact ⟨P.1, P.2.of (fun j hj => F j (by omega))⟩
theorem RKp.of {A A' : Nat → Nat → Int32} {f : Nat → Int32} {k : Option (Option Gm × Pl)} (P : RKp A f k) (F : FS A A') : RKp A' f k := by
  cases k with
  | none => exact P
  | some k => exact ⟨P.1, P.2.1, fun g e => by rw [F 4 (by omega)]; exact P.2.2.1 g e, P.2.2.2.of (F 50 (by omega)) (F 52 (by omega))⟩
theorem RS.of {A A' : Nat → Nat → Int32} {f : Nat → Int32} {s : Sg} (S : RS A f s) (F : FS A A') : RS A' f s := by
  obtain ⟨h1, h2, h3, h4⟩ := S
  refine ⟨?_, h2.of F, h3.of (F 49 (by omega)) (F 51 (by omega)), h4.of F⟩
  unfold RTp at h1 ⊢
  rw [F 1 (by omega)]; exact h1
theorem RS.go {A : Nat → Nat → Int32} {f : Nat → Int32} {s : Sg} {g : Gm} (S : RS A f s) (h : sG s = some g) : RG A f g := by
  have := S.2.1
  rw [h] at this; exact this.2
theorem RS.pl {A : Nat → Nat → Int32} {f : Nat → Int32} {s : Sg} (S : RS A f s) (hn : pN (sP s) ≠ 0) : ∃ g m, sG s = some g ∧ pN (sP s) = m + 1 ∧ m ≤ 40 ∧ f 23 = nI m ∧ A 49 m = nI (pHe (sP s)) ∧ Ps g (pHe (sP s)) = true := by
  obtain ⟨h1, h2, ⟨h3, h4, h5, h6⟩, -⟩ := S
  obtain ⟨m, hm⟩ : ∃ m, pN (sP s) = m + 1 := ⟨pN (sP s) - 1, by omega⟩
  cases hg : sG s with
  | none => exact absurd (h5.1 hg) hn
  | some g =>
    have := h6 m (by omega)
    refine ⟨g, m, rfl, hm, by omega, by rw [h4, hm, nI_pred], ?_, ?_⟩
    · unfold pHe; rw [hm]; exact this.1
    · unfold pHe; rw [hm]; exact this.2.2 g hg
section
variable {E : Wd} {h0 h : Hp} {M : Nat} {A : Nat → Nat → Int32} {f : Nat → Int32} {g : Gm} {d : Nat} {s : Sg}
theorem k_isPlaying {Q : Int32 → Hp → Prop} (R : Rf E h0 h M A f) (S : RS A f s) (hq : Q (bI (decide (pN (sP s) ≠ 0))) h) : OkI E YX8_isPlaying d [.ref M] h Q := by
  refine rnX8_isPlaying ?_
  simp only [vcX8_isPlaying_0, R.fs, true_and]
  by_cases c : pN (sP s) = 0
  · rw [decide_eq_false (by omega)] at hq
    obtain ⟨-, -, ⟨-, h4, -, -⟩, -⟩ := S
    rw [h4, c]
    exact ⟨fun _ => ⟨Or.inl rfl, hq⟩, fun _ => ⟨fun _ => ⟨Or.inl rfl, hq⟩, fun q => absurd (by decide) q⟩⟩
  · rw [decide_eq_true c] at hq
    obtain ⟨g, m, e1, e2, e3, e4, -⟩ := S.pl c
    have e7 : f 7 = 1 := by have := S.2.1; rw [e1] at this; exact this.1
    rw [e7, e4]
    exact ⟨fun q => absurd q (by decide), fun _ => ⟨fun q => absurd q (nI_pos (by omega)), fun _ => ⟨Or.inr rfl, hq⟩⟩⟩
theorem k_here {Q : Int32 → Hp → Prop} (R : Rf E h0 h M A f) (S : RS A f s) (c : pN (sP s) ≠ 0) (hq : Q (nI (pHe (sP s))) h) : OkI E YX8_here d [.ref M] h Q := by
  refine rnX8_here ?_
  obtain ⟨g, m, e1, e2, e3, e4, e5, -⟩ := S.pl c
  have ho : okR E h (M + 49) 0 (nI m) := R.oR 49 _ rfl rfl (vpn (n := 41) (by omega))
  simp only [vcX8_here_0, R.fs, true_and, e4, ho]
  rw [R.gR 49 _ rfl, n_cl, e5]; exact hq
theorem k_begin {Q : Hp → Prop} {x : Nat} (R : Rf E h0 h M A f) (S : RS A f s) (hg : sG s = some g) (hx : Ps g x = true)
    (hq : ∀ h' A' f', Rf E h0 h' M A' f' → RS A' f' (sPl s (plB x)) → Q h') : OkV E YX8_begin d [.ref M, .int (nI x)] h Q := by
  refine rnX8_begin ?_
  simp only [vcX8_begin_0, R.fs, true_and]
  intro h1 e1
  subst e1
  have R1 := R.put (k := 23) (x := 0) rfl
  simp only [R1.fs, true_and, R1.oR 49 0 rfl rfl (vpd rfl)]
  intro h2 e2
  subst e2
  have R2 := R1.st (j := 49) 0 (nI x) rfl
  simp only [R2.fs, true_and, R2.oZ 51 0 rfl rfl (vpd rfl)]
  refine ⟨Or.inl rfl, fun h3 e3 => ?_⟩
  subst e3
  have R3 := R2.st (j := 51) 0 0 rfl
  refine hq _ _ _ R3 ?_
  obtain ⟨h1, h2, h3, h4⟩ := S
  have hn : ∀ j, j ≠ 49 → j ≠ 51 → up2 (up2 A 49 (0 : Int32).toNatClampNeg (nI x)) 51 (0 : Int32).toNatClampNeg 0 j = A j := fun j o1 o2 => funext fun i => by simp only [up2, o1, o2, false_and, if_false]
  refine ⟨?_, ?_, ?_, ?_⟩
  · show RTp _ (upd f 23 0) (sL s) (sB s)
    unfold RTp at h1 ⊢
    rw [hn 1 (by omega) (by omega)]; exact h1
  · show RGo _ (upd f 23 0) (sG s)
    rw [hg] at h2 ⊢
    have G2 : RG A (upd f 23 0) g := h2.2
    exact ⟨h2.1, G2.of (fun j hj => hn j (by omega) (by omega))⟩
  · show RPl _ 49 51 0 (sG s) (plB x)
    refine ⟨(by show 1 ≤ 41; omega), (nI_pred 0).symm, ⟨(fun e => by rw [hg] at e; cases e), fun k hk => ?_⟩, fun k hk => ?_⟩
    · by_cases c : k = 0
      · subst c; simp [up2, mB]
      · have := h3.2.2.1.2 k hk
        simpa [up2, c] using this
    have hk : k = 0 := by have : k < 1 := hk; omega
    subst hk
    refine ⟨by simp [up2, plB], by simp [up2, plB, bI], fun g' e => ?_⟩
    rw [hg] at e
    cases e; exact hx
  · show RKp _ (upd f 23 0) (sK s)
    cases hk : sK s with
    | none => rw [hk] at h4; exact h4
    | some k =>
      rw [hk] at h4
      exact ⟨h4.1, h4.2.1, fun g e => by rw [hn 4 (by omega) (by omega)]; exact h4.2.2.1 g e, h4.2.2.2.of (hn 50 (by omega) (by omega)) (hn 52 (by omega) (by omega))⟩
end
