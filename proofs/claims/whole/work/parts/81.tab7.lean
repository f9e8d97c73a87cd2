/-- a Table's cells, whatever they hold -/
def TR (E : Wd) (h : Hp) (t : Nat) : Prop := (∃ v8 v9 v10 a b c, h.2 t = some (.inr (6, [.ref (t + 1), .ref (t + 2), .ref (t + 3), .ref (t + 4), .ref (t + 5), .ref (t + 6), .ref (t + 7), .ref (t + 8), v8, v9, v10, .int a, .int b, .int c]))) ∧ ∃ A : Nat → Nat → Int32, ∀ j, 1 ≤ j → j < 9 → h.2 (t + j) = some (.inl (eA E 0, tln j, .inl (A j)))
def TF (E : Wd) (h : Hp) (t r : Nat) (g : Gm) (A : Nat → Nat → Int32) : Prop := Tb E h t r g A (nI (cN (Ps g) (nx g))) (nI (nx g)) (nI (stN g (nx g))) ∧ Tg A g ∧ Tv A g (nx g)
section
variable {E : Wd} {h hb : Hp} {t r : Nat} {g : Gm} {A : Nat → Nat → Int32} {a b c : Int32} {d : Nat}
theorem Tb.tr (T : Tb E h t r g A a b c) : TR E h t := ⟨⟨_, _, _, _, _, _, T.1⟩, A, T.2.1⟩
theorem TR.of {h' : Hp} (T : TR E h t) (e : ∀ j, j < 9 → h'.2 (t + j) = h.2 (t + j)) : TR E h' t := by
  obtain ⟨⟨v8, v9, v10, a, b, c, k1⟩, A, k2⟩ := T
  exact ⟨⟨v8, v9, v10, a, b, c, by rw [← k1]; exact e 0 (by omega)⟩, A, fun j h1 h2 => by rw [e j h2]; exact k2 j h1 h2⟩
theorem c_build {Q : Hp → Prop} {mc ms : Nat} (R : TR E h t) (K : Kr E h r g) (hr : h.1 = r + 3) (ht : t + 9 ≤ r) (w : qF g) (v : qV g) (bd : bnd g) (hcm : 7 ≤ mc ∧ 981 ≤ ms) (hq : ∀ h' A', TF E h' t r g A' → h'.1 = r + 10 → (∀ a, a < r + 3 → ¬ (t ≤ a ∧ a < t + 9) → h'.2 a = h.2 a) → Q h') : OkW E YX6_build (d + 5) mc ms [.ref t, .ref r] h Q := by
  refine rnX6_build (fun K53 K80 k53 k80 => ?_)
  have hnx := nx_le w
  obtain ⟨⟨v8, v9, v10, a, b, c, k1⟩, A, k2⟩ := R
  rw [vcX6_build_0]
  refine ⟨⟨_, k1, Nat.le_of_ble_eq_true rfl⟩, fun h1 e1 => ⟨⟨by omega, by omega⟩, fun h2 e2 => ?_⟩⟩
  have z1 : h1.1 = r + 3 ∧ h1.2 t = some (.inr (6, [.ref (t + 1), .ref (t + 2), .ref (t + 3), .ref (t + 4), .ref (t + 5), .ref (t + 6), .ref (t + 7), .ref (t + 8), .ref r, v9, v10, .int a, .int b, .int c])) ∧ ∀ q, q ≠ t → h1.2 q = h.2 q := by
    rw [e1]
    exact ⟨hr, by simp [pF, k1], fun q hq => by simp [pF, hq]⟩
  clear e1
  obtain ⟨z1, z2, z3⟩ := z1
  subst e2
  have K1 : Kr E h1 r g := K.of (fun j hj => z3 _ (by omega))
  refine ⟨1, 104, ⟨by omega, by omega⟩, c_symInit (hb := h1) K1 w (by omega) ⟨Nat.le_refl _, Nat.le_refl _⟩ (fun h4 Q4 s4 u4 => ?_)⟩
  rw [z1] at Q4 s4 u4 ⊢
  have y4 : h4.2 t = some (.inr (6, [.ref (t + 1), .ref (t + 2), .ref (t + 3), .ref (t + 4), .ref (t + 5), .ref (t + 6), .ref (t + 7), .ref (t + 8), .ref r, v9, v10, .int a, .int b, .int c])) := by rw [u4 t (by omega)]; exact z2
  refine ⟨⟨_, y4, Nat.le_of_ble_eq_true rfl⟩, fun h8 e8 => ⟨⟨by omega, by omega⟩, fun h9 e9 => ?_⟩⟩
  have y8 : h8.1 = r + 5 ∧ h8.2 t = some (.inr (6, [.ref (t + 1), .ref (t + 2), .ref (t + 3), .ref (t + 4), .ref (t + 5), .ref (t + 6), .ref (t + 7), .ref (t + 8), .ref r, .ref (r + 3), v10, .int a, .int b, .int c])) ∧ ∀ q, q ≠ t → h8.2 q = h4.2 q := by
    rw [e8]
    exact ⟨s4, by simp [pF, y4], fun q hq => by simp [pF, hq]⟩
  clear e8
  obtain ⟨y8, y9, y10⟩ := y8
  subst e9
  have K8 : Kr E h8 r g := K1.of (fun j hj => by rw [y10 _ (by omega), u4 _ (by omega)])
  have Q8 : Kq E h8 (r + 3) r g (syL g 8) := Q4.of (fun j hj => y10 _ (by omega)) (fun j hj => y10 _ (by omega))
  refine ⟨4, 869, ⟨by omega, by omega⟩, c_posInit (hb := h8) K8 w (by omega) ⟨Nat.le_refl _, Nat.le_refl _⟩ (fun h11 P11 s11 u11 => ?_)⟩
  rw [y8] at P11 s11 u11 ⊢
  have x11 : h11.2 t = some (.inr (6, [.ref (t + 1), .ref (t + 2), .ref (t + 3), .ref (t + 4), .ref (t + 5), .ref (t + 6), .ref (t + 7), .ref (t + 8), .ref r, .ref (r + 3), v10, .int a, .int b, .int c])) := by rw [u11 t (by omega)]; exact y9
  refine ⟨⟨_, x11, Nat.le_of_ble_eq_true rfl⟩, fun h15 e15 => ?_⟩
  have x15 : h15.1 = r + 10 ∧ h15.2 t = some (.inr (6, [.ref (t + 1), .ref (t + 2), .ref (t + 3), .ref (t + 4), .ref (t + 5), .ref (t + 6), .ref (t + 7), .ref (t + 8), .ref r, .ref (r + 3), .ref (r + 5), .int a, .int b, .int c])) ∧ ∀ q, q ≠ t → h15.2 q = h11.2 q := by
    rw [e15]
    exact ⟨s11, by simp [pF, x11], fun q hq => by simp [pF, hq]⟩
  clear e15
  obtain ⟨x15, x16, x17⟩ := x15
  have K15 : Kr E h15 r g := K8.of (fun j hj => by rw [x17 _ (by omega), u11 _ (by omega)])
  simp only [K15.fs, true_and]
  refine ⟨⟨_, x16, Nat.le_of_ble_eq_true rfl⟩, fun h16 e16 => ?_⟩
  have w16 : h16.1 = r + 10 ∧ h16.2 t = some (.inr (6, tfs t r a (nI (nx g)) c)) ∧ ∀ q, q ≠ t → h16.2 q = h15.2 q := by
    rw [e16]
    exact ⟨x15, by simp [pF, x16, tfs], fun q hq => by simp [pF, hq]⟩
  clear e16
  obtain ⟨w1, w2, w3⟩ := w16
  have low : ∀ q, q < r + 3 → q ≠ t → h16.2 q = h.2 q := fun q h1 h2 => by
    rw [w3 q h2, x17 q h2, u11 q (by omega), y10 q h2, u4 q (by omega), z3 q h2]
  have T16 : Tb E h16 t r g A a (nI (nx g)) c := by
    refine ⟨w2, fun j h1 h2 => by rw [low _ (by omega) (by omega)]; exact k2 j h1 h2, Q8.of (fun j hj => by rw [w3 _ (by omega), x17 _ (by omega), u11 _ (by omega)]) (fun j hj => by rw [w3 _ (by omega), x17 _ (by omega), u11 _ (by omega)]), ⟨_, _, _, P11.ofr (fun q hq => by rw [w3 _ (by omega), x17 _ (by omega)])⟩, ht⟩
  refine ⟨⟨_, T16.1⟩, c_findPositions T16 w (fun h17 A17 T17 F17 P17 => ⟨⟨_, T17.1⟩, c_findSteps T17 w bd P17 (fun h18 A18 T18 F18 G18 O18 => ⟨⟨_, T18.1⟩, c_findEnds T18 w G18 (fun h19 A19 T19 F19 G19 V19 => ?_)⟩)⟩)⟩
  have F19' := (F17.tr F18).tr F19
  have fin : ∀ h' A', Tb E h' t r g A' (nI (cN (Ps g) (nx g))) (nI (nx g)) (nI (stN g (nx g))) → FT h16 h' t r → Tg A' g → Tv A' g (nx g) → Q h' := fun h' A' T' F' G' V' => by
    refine hq h' A' ⟨T', G', V'⟩ (F'.1.trans w1) (fun q h1 h2 => ?_)
    rw [F'.2 q h2 (by omega) (by omega), low q h1 (by omega)]
  -- the levels of the conversions
  have shr : ∀ h' A', Tb E h' t r g A' (nI (cN (Ps g) (nx g))) (nI (nx g)) (nI (stN g (nx g))) → FT h16 h' t r → Tg A' g → TV A' g (Lk g 4394) → TW A' g (Ck g 4394) → OkV E YX6_shareWithImages (d + 4) [.ref t] h' (fun h2 => Q h2) := fun h' A' T' F' G' V' W' => c_share (d := d + 2) T' G' w V' W' (fun h2 A2 T2 F2 G2 V2 => fin h2 A2 T2 (F'.tr F2) G2 V2)
  have conv : ∀ k n, k + n = 4393 → ∀ f : Bool, (f = true → ∀ m, m < n → anyC g m (nx g) = true) → (f = false → ∀ m, n ≤ m → Cv g m = Cv g n) → ∀ h' A', Tb E h' t r g A' (nI (cN (Ps g) (nx g))) (nI (nx g)) (nI (stN g (nx g))) → FT h16 h' t r → Tg A' g → TV A' g (Lk g 4394) → TW A' g (Ck g n) → K80 7 981 t (bI f) (nI (n + 1)) h' := by
    intro k
    induction k with
    | zero =>
      intro n hn f f1 f2 h' A' T' F' G' V' W'
      refine k80 _ _ _ _ _ _ ?_
      have hn : n = 4393 := by omega
      subst hn
      have e : Cv g 4394 = Cv g 4393 := by
        cases f with
        | false => exact f2 rfl 4394 (by omega)
        | true =>
          cases q : anyC g 4393 (nx g) with
          | false => exact Cv_stop q
          | true =>
            have := Cv_lv' w (n := 4394) (fun m hm => by
              by_cases z : m = 4393
              · rw [z]; exact q
              · exact f1 rfl m (by omega))
            omega
      have W4 : TW A' g (Ck g 4394) := fun x hx => by
        have := W' x hx
        unfold Ck at this ⊢
        rw [e]; exact this
      refine ⟨hcm, bI_c (fun _ => ⟨⟨_, T'.1⟩, shr h' A' T' F' G' V' W4⟩) (fun _ => ⟨fun _ => ⟨⟨_, T'.1⟩, shr h' A' T' F' G' V' W4⟩, fun q => absurd (nI_le (a := 4394) (b := 4394) (Nat.le_refl _) (by omega)) q⟩)⟩
    | succ k ih =>
      intro n hn f f1 f2 h' A' T' F' G' V' W'
      refine k80 _ _ _ _ _ _ ?_
      refine ⟨hcm, bI_c (fun q => ⟨⟨_, T'.1⟩, shr h' A' T' F' G' V' (fun x hx => ?_)⟩) (fun q => ⟨fun q2 => absurd q2 (nI_ge (b := 4394) (by omega) (by omega)), fun _ => ⟨⟨_, T'.1⟩, c_findConversions T' G' w v bd V' W' (by omega) (fun h2 A2 T2 F2 G2 V2 W2 => ?_)⟩⟩)⟩
      · have e := f2 q 4394 (by omega)
        have := W' x hx
        unfold Ck at this ⊢
        rw [e]; exact this
      · rw [nI_1]
        refine ih (n + 1) (by omega) _ (fun z m hm => ?_) (fun z m hm => ?_) h2 A2 T2 (F'.tr F2) G2 V2 W2
        · by_cases c : m = n
          · rw [c]; exact z
          · exact f1 q m (by omega)
        · rw [Cv_fix z m (by omega), Cv_fix z (n + 1) (by omega)]
  have vals : ∀ k n, k + n = 4393 → ∀ f : Bool, (f = true → ∀ m, m < n → anyN g m (nx g) = true) → (f = false → ∀ m, n ≤ m → Ld g m = Ld g n) → ∀ h' A', Tb E h' t r g A' (nI (cN (Ps g) (nx g))) (nI (nx g)) (nI (stN g (nx g))) → FT h16 h' t r → Tg A' g → (∀ x, x < nx g → A' 5 x = (Cv g 0 x).1) → TV A' g (Lk g n) → K53 7 981 t (bI f) (nI (n + 1)) h' := by
    have next : ∀ h' A', Tb E h' t r g A' (nI (cN (Ps g) (nx g))) (nI (nx g)) (nI (stN g (nx g))) → FT h16 h' t r → Tg A' g → (∀ x, x < nx g → A' 5 x = (Cv g 0 x).1) → TV A' g (Lk g 4394) → K80 7 981 t 1 1 h' := fun h' A' T' F' G' C' V' => by
      refine conv 4393 0 rfl true (fun _ m hm => absurd hm (Nat.not_lt_zero _)) (fun q => by cases q) h' A' T' F' G' V' (fun x hx => ?_)
      rw [C' x hx]
      unfold Ck
      split <;> rfl
    intro k
    induction k with
    | zero =>
      intro n hn f f1 f2 h' A' T' F' G' C' V'
      refine k53 _ _ _ _ _ _ ?_
      have hn : n = 4393 := by omega
      subst hn
      have e : Ld g 4394 = Ld g 4393 := by
        cases f with
        | false => exact f2 rfl 4394 (by omega)
        | true =>
          cases q : anyN g 4393 (nx g) with
          | false => exact Ld_stop q
          | true =>
            have := Ld_lv' w (n := 4394) (fun m hm => by
              by_cases z : m = 4393
              · rw [z]; exact q
              · exact f1 rfl m (by omega))
            omega
      have V4 : TV A' g (Lk g 4394) := fun x hx => by
        have := V' x hx
        unfold Lk at this ⊢
        rw [e]; exact this
      refine ⟨hcm, bI_c (fun _ => next h' A' T' F' G' C' V4) (fun _ => ⟨fun _ => next h' A' T' F' G' C' V4, fun q => absurd (nI_le (a := 4394) (b := 4394) (Nat.le_refl _) (by omega)) q⟩)⟩
    | succ k ih =>
      intro n hn f f1 f2 h' A' T' F' G' C' V'
      refine k53 _ _ _ _ _ _ ?_
      refine ⟨hcm, bI_c (fun q => next h' A' T' F' G' C' (fun x hx => ?_)) (fun q => ⟨fun q2 => absurd q2 (nI_ge (b := 4394) (by omega) (by omega)), fun _ => ⟨⟨_, T'.1⟩, c_findValues (d := d + 1) T' G' w v bd V' (by omega) (fun h2 A2 T2 F2 G2 E2 V2 => ?_)⟩⟩)⟩
      · have e := f2 q 4394 (by omega)
        have := V' x hx
        unfold Lk at this ⊢
        rw [e]; exact this
      · rw [nI_1]
        refine ih (n + 1) (by omega) _ (fun z m hm => ?_) (fun z m hm => ?_) h2 A2 T2 (F'.tr F2) G2 (fun x hx => by rw [E2]; exact C' x hx) V2
        · by_cases c : m = n
          · rw [c]; exact z
          · exact f1 q m (by omega)
        · rw [Ld_fix z m (by omega), Ld_fix z (n + 1) (by omega)]
  refine vals 4393 0 rfl true (fun _ m hm => absurd hm (Nat.not_lt_zero _)) (fun q => by cases q) h19 A19 T19 F19' G19 (fun x hx => (V19 x hx).2.2) (fun x hx => ?_)
  unfold Lk
  have : (if Ps g x = true ∧ can g x = x then Ld g 0 x else Ld g 0 x) = Ld g 0 x := by split <;> rfl
  rw [this]
  exact ⟨(V19 x hx).1, (V19 x hx).2.1⟩
end
