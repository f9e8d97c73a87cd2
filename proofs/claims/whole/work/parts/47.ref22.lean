def pl0 : Pl := (0, fun _ => 0, fun _ => false)
def sDef (s : Sg) : Sg × Int32 := if (rgm (sL s) (sB s)).1 = true then ((0, sB s, some (rgm (sL s) (sB s)).2.2, pl0, sK s), nI (sq (rgm (sL s) (sB s)).2.2) - nI (pop (qo (rgm (sL s) (sB s)).2.2))) else ((0, sB s, sG s, sP s, sK s), -100 - nI (rgm (sL s) (sB s)).2.1)
def sIm (s : Sg) : Sg × Int32 := ((sL s, sB s, sG s, sP s, some (sG s, sP s)), bI (sG s).isSome)
def sUn (s : Sg) : Sg × Int32 := match sK s with
  | none => (s, -3)
  | some k => ((sL s, sB s, k.1, k.2, sK s), bI k.1.isSome)
theorem RGo.tr {A A' : Nat → Nat → Int32} {f f' : Nat → Int32} {go : Option Gm} (P : RGo A f go) (F : FS A A') (h7 : f' 7 = f 7) (h20 : f' 20 = f 20) : RGo A' f' go := by
  have P2 := P.of F
  cases go with
  | none => exact h7.trans P2
  | some g =>
    obtain ⟨p1, p2, p3, p4, p5, p6, p7⟩ := P2
    exact ⟨h7.trans p1, p2, p3, p4, h20.trans p5, p6, p7⟩
theorem RKp.tr {A A' : Nat → Nat → Int32} {f f' : Nat → Int32} {k : Option (Option Gm × Pl)} (P : RKp A f k) (F : FS A A') (h30 : f' 30 = f 30) (h31 : f' 31 = f 31) (h24 : f' 24 = f 24) : RKp A' f' k := by
  have P2 := P.of F
  cases k with
  | none => exact h30.trans P2
  | some k =>
    obtain ⟨p1, p2, p3, p4⟩ := P2
    exact ⟨h30.trans p1, h31.trans p2, p3, by rw [h24]; exact p4⟩
theorem RKp.t3 {A A' : Nat → Nat → Int32} {f f' : Nat → Int32} {k : Option (Option Gm × Pl)} (P : RKp A f k) (h4 : A' 4 = A 4) (h50 : A' 50 = A 50) (h52 : A' 52 = A 52) (h30 : f' 30 = f 30) (h31 : f' 31 = f 31) (h24 : f' 24 = f 24) : RKp A' f' k := by
  cases k with
  | none => exact h30.trans P
  | some k =>
    obtain ⟨p1, p2, p3, p4⟩ := P
    exact ⟨h30.trans p1, h31.trans p2, fun g e => by rw [h4]; exact p3 g e, by rw [h24]; exact p4.of h50 h52⟩
theorem RS.tr {A A' : Nat → Nat → Int32} {f f' : Nat → Int32} {s : Sg} (S : RS A f s) (F : FS A A') (h7 : f' 7 = f 7) (h20 : f' 20 = f 20) (h23 : f' 23 = f 23) (h30 : f' 30 = f 30) (h31 : f' 31 = f 31) (h24 : f' 24 = f 24) {L' : Nat} {B' : Nat → Nat} (hT : RTp A' f' L' B') : RS A' f' (L', B', sG s, sP s, sK s) := by
  obtain ⟨h1, h2, h3, h4⟩ := S
  exact ⟨hT, h2.tr F h7 h20, by show RPl A' 49 51 (f' 23) (sG s) (sP s); rw [h23]; exact h3.of (F 49 (by omega)) (F 51 (by omega)), h4.tr F h30 h31 h24⟩
section
variable {E : Wd} {h0 h : Hp} {M : Nat} {A : Nat → Nat → Int32} {f : Nat → Int32} {g : Gm} {d : Nat} {s : Sg}
theorem k_define {Q : Int32 → Hp → Prop} (R : Rf E h0 h M A f) (S : RS A f s)
    (hq : ∀ h' A' f', Rf E h0 h' M A' f' → RS A' f' (sDef s).1 → Q (sDef s).2 h') : OkI E YX8_define (d + 9) [.ref M] h Q := by
  refine rnX8_define ?_
  refine ⟨⟨_, R.obj⟩, k_passGame S.1 R (fun h1 K1 => ?_)⟩
  obtain ⟨A1, f1, R1, Y1, P1⟩ := K1
  have F1 : FS A A1 := fun j o => Y1.1 j (by omega)
  obtain ⟨r, hr⟩ : ∃ r, rgm (sL s) (sB s) = r := ⟨_, rfl⟩
  have hiv : r.1 = true → qF r.2.2 ∧ qV r.2.2 := fun c => by rw [← hr] at c ⊢; exact rgm_iv c
  unfold sDef at hq
  rw [hr] at hq P1
  simp only [R1.fs, true_and]
  intro h2 e2
  subst e2
  have R2 := R1.put (k := 1) (x := 0) rfl
  simp only [R2.fs, true_and, show upd f1 1 0 3 = f1 3 from rfl, show upd f1 1 0 2 = f1 2 from rfl, P1.1]
  have hT : ∀ A' f', f' 1 = 0 → RTp A' f' 0 (sB s) := fun A' f' e => ⟨e, Nat.zero_le _, fun i hi => absurd hi (Nat.not_lt_zero _)⟩
  refine bI_c (fun c => ?_) (fun c => ?_)
  · have c : r.1 = true := by simpa using c
    obtain ⟨w, v⟩ := hiv c
    rw [if_pos c] at hq
    obtain ⟨hA, -⟩ := P1.2.2.2 c
    refine k_copy (j := 3) (t := 2) R2 (by omega) (by omega) (by omega) (fun h3 A3 R3 F3 C3 => ?_)
    have hA3 : rA (A3 2) r.2.2 := hA.cp C3
    simp only [R3.fs, true_and]
    refine ⟨Or.inr rfl, fun h4 e4 => ?_⟩
    subst e4
    have R4 := R3.put (k := 7) (x := 1) rfl
    simp only [R4.fs, true_and]
    intro h5 e5
    subst e5
    have R5 := R4.put (k := 23) (x := -1) rfl
    refine ⟨⟨_, R5.obj⟩, k_build R5 hA3 w v (fun h6 A6 R6 T6 C6 F6 => ?_)⟩
    have hA6 := F6.g2 hA3
    refine ⟨⟨_, R6.obj⟩, k_squares R6 hA6 ?_⟩
    have ho := w.ho
    simp only [R6.fs, R6.gm hA6, true_and]
    refine k_countBits ho (hq _ _ _ R6 ⟨hT _ _ rfl, ⟨rfl, hA6, w, v, rfl, T6, C6⟩, ?_, ?_⟩)
    · show RPl A6 49 51 (-1) _ pl0
      refine ⟨Nat.zero_le _, rfl, ⟨fun _ => rfl, fun k hk => ?_⟩, fun k hk => absurd hk (Nat.not_lt_zero _)⟩
      have := S.2.2.1.2.2.1.2 k hk
      rw [F6 51 k (by omega) ⟨by omega, by omega, by omega, by omega, by omega⟩ (by omega), F3 51 k (by omega), Y1.1 51 (by omega)]
      exact this
    · have row : ∀ j, j = 4 ∨ j = 50 ∨ j = 52 → A6 j = A j := fun j o => funext fun i => by
        rw [F6 j i (by omega) ⟨by omega, by omega, by omega, by omega, by omega⟩ (by omega), F3 j i (by omega), Y1.1 j (by omega)]
      exact S.2.2.2.t3 (row 4 (by omega)) (row 50 (by omega)) (row 52 (by omega)) (Y1.2 30 (by omega) (by omega)) (Y1.2 31 (by omega) (by omega)) (Y1.2 24 (by omega) (by omega))
  · have c : r.1 = false := by simpa using c
    rw [c, if_neg (by decide)] at hq
    rw [P1.2.1]
    exact hq _ _ _ R2 (S.tr (f' := upd f1 1 0) F1 (Y1.2 7 (by omega) (by omega)) (Y1.2 20 (by omega) (by omega)) (Y1.2 23 (by omega) (by omega)) (Y1.2 30 (by omega) (by omega)) (Y1.2 31 (by omega) (by omega)) (Y1.2 24 (by omega) (by omega)) (hT _ _ rfl))
end
