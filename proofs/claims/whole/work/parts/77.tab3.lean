theorem yO_get {g : Gm} {x k : Nat} {v : Nat × Nat × Option Nat × Nat} (h : (mvs g x)[k]? = some v) : yO g x k = v.2.2.2 := by
  unfold yO; rw [h]
section
variable {E : Wd} {h : Hp} {t r : Nat} {g : Gm} {A : Nat → Nat → Int32} {a b c : Int32} {d : Nat}
theorem c_findSteps {Q : Hp → Prop} (T : Tb E h t r g A a (nI (nx g)) c) (w : qF g) (bd : bnd g) (hA : ∀ x, x < nx g → A 1 x = (if Ps g x = true then nI (can g x) else -1) ∧ A 2 x = nI (ms g (plc g x))) (hq : ∀ h' A', Tb E h' t r g A' a (nI (nx g)) (nI (stN g (nx g))) → FT h h' t r → Tg A' g → (∀ j, j ≠ 6 → j ≠ 7 → A' j = A j) → Q h') : OkV E YX6_findSteps (d + 4) [.ref t] h Q := by
  refine rnX6_findSteps (fun K7 k7 => ?_)
  have hnx := nx_le w
  rw [vcX6_findSteps_0]
  refine ⟨(by simp only [T.fs]), fun h1 e1 => ?_⟩
  obtain ⟨T1, F1⟩ := T.put (k := 13) (x := 0) (a' := a) (b' := nI (nx g)) (c' := 0) rfl
  rw [← e1] at T1 F1
  clear e1
  refine lp_up (K := fun i => ∀ h' A', Tb E h' t r g A' a (nI (nx g)) (nI (stN g i)) → FT h h' t r → (∀ j, j ≠ 6 → j ≠ 7 → A' j = A j) → (∀ x, x < i → A' 6 x = nI (stN g x)) → (∀ x, x < i → Ps g x = true → ∀ k, k < (mvs g x).length → A' 7 (stN g x + k) = nI (yO g x k)) → K7 t (nI i) h') (nx g) (fun i hi ih h' A' T' F' O' P' P2' => ?_) (fun h' A' T' F' O' P' P2' => ?_) 0 (Nat.zero_le _) h1 A T1 F1 (fun _ _ _ => rfl) (fun x hx => absurd hx (Nat.not_lt_zero _)) (fun x hx => absurd hx (Nat.not_lt_zero _))
  · refine k7 _ _ _ ?_
    simp only [vcX6_findSteps_7, T'.fs, true_and, nI_leI (show nx g < 2 ^ 31 by omega) (show i < 2 ^ 31 by omega)]
    refine ⟨fun q => absurd q (by omega), fun _ => ⟨(T'.gt (j := 6) (i := i) (by omega) (by show i < 4395; omega)).1, fun h2 e2 => ?_⟩⟩
    obtain ⟨T2, F2⟩ := T'.st (j := 6) (i := i) (x := nI (stN g i)) (by omega) (by show i < 4395; omega)
    rw [← e2] at T2 F2
    clear e2
    have hA1 : up2 A' 6 i (nI (stN g i)) 1 i = if Ps g i = true then nI (can g i) else -1 := by
      rw [up2_ne (by omega), O' 1 (by omega) (by omega)]; exact (hA i hi).1
    simp only [T2.fs, true_and, (T2.tt (show i < 4394 by omega)).1]
    rw [hA1, nI_1]
    have c6 : ∀ x, x < i + 1 → up2 A' 6 i (nI (stN g i)) 6 x = nI (stN g x) := fun x hx => by
      by_cases z : x = i
      · subst z; rw [up2_at]
      · rw [up2_o z]; exact P' x (by omega)
    cases hP : Ps g i with
    | false =>
      rw [if_neg (by decide)]
      refine ⟨fun _ => ih h2 _ (by rw [stN_no hP]; exact T2) (F'.tr F2) (fun j o1 o2 => by rw [up2_ne o1]; exact O' j o1 o2) c6 (fun x hx hx2 k hk => ?_), fun q => absurd (by decide) q⟩
      rw [up2_ne (by omega)]
      by_cases z : x = i
      · subst z; rw [hP] at hx2; cases hx2
      · exact P2' x (by omega) hx2 k hk
    | true =>
      rw [if_pos rfl]
      have hcl := can_lt w hi
      refine ⟨fun q => absurd q (nI_pos (by omega)), fun _ => c_writeSteps T2 w bd hP (fun h3 A3 T3 F3 W3 => ?_)⟩
      obtain ⟨w1, w2, w3⟩ := W3
      refine ih h3 A3 T3 ((F'.tr F2).tr F3) (fun j o1 o2 => by rw [w1 j o2, up2_ne o1]; exact O' j o1 o2) (fun x hx => by rw [w1 6 (by omega)]; exact c6 x hx) (fun x hx hx2 k hk => ?_)
      by_cases z : x = i
      · subst z
        have hv := List.getElem?_eq_getElem hk
        rw [w3 k hk _ hv, yO_get hv]
      · have := stN_mono g (x + 1) i (by omega)
        rw [stN_at hx2] at this
        rw [w2 _ (by omega), up2_ne (by omega)]
        exact P2' x (by omega) hx2 k hk
  · refine k7 _ _ _ ?_
    simp only [vcX6_findSteps_7, T'.fs, true_and]
    refine ⟨fun _ => ⟨(T'.gt (j := 6) (i := nx g) (by omega) (by show nx g < 4395; omega)).1, fun h2 e2 => ?_⟩, fun q => absurd (nI_le (Nat.le_refl _) (by omega)) q⟩
    obtain ⟨T2, F2⟩ := T'.st (j := 6) (i := nx g) (x := nI (stN g (nx g))) (by omega) (by show nx g < 4395; omega)
    rw [← e2] at T2 F2
    clear e2
    refine hq h2 _ T2 (F'.tr F2) ⟨fun x hx => by rw [up2_ne (by omega), up2_ne (by omega), O' 1 (by omega) (by omega), O' 2 (by omega) (by omega)]; exact hA x hx, fun x hx => ?_, fun x hx k hk => ?_⟩ (fun j o1 o2 => by rw [up2_ne o1]; exact O' j o1 o2)
    · by_cases z : x = nx g
      · rw [z, up2_at]
      · rw [up2_o z]; exact P' x (by omega)
    · rw [up2_ne (by omega)]; exact P2' x (Ps_lt hx) hx k hk
theorem Ld0_5 (x : Nat) : (Ld g 0 x).2.1 = if (Ld g 0 x).1 = 0 then -5 else 0 := by
  rw [Ld]
  by_cases q : (Ps g x && (mvs g x).isEmpty) = true
  · rw [if_pos q]
  · rw [if_neg q]; rfl
theorem Cv0_5 (x : Nat) : (Cv g 0 x).1 = (Ld g 0 x).2.1 := by
  rw [Cv]
  by_cases q : (Ps g x && (mvs g x).isEmpty) = true
  · rw [if_pos q]
  · rw [if_neg q, Ld, if_neg q]
theorem c_findEnds {Q : Hp → Prop} (T : Tb E h t r g A a (nI (nx g)) c) (w : qF g) (G : Tg A g) (hq : ∀ h' A', Tb E h' t r g A' a (nI (nx g)) c → FT h h' t r → Tg A' g → (∀ x, x < nx g → A' 3 x = (Ld g 0 x).1 ∧ A' 4 x = (Ld g 0 x).2.1 ∧ A' 5 x = (Cv g 0 x).1) → Q h') : OkV E YX6_findEnds (d + 4) [.ref t] h Q := by
  refine rnX6_findEnds (fun K2 k2 => ?_)
  have hnx := nx_le w
  refine lp_up (K := fun i => ∀ h' A', Tb E h' t r g A' a (nI (nx g)) c → FT h h' t r → Tg A' g → (∀ x, x < i → A' 3 x = (Ld g 0 x).1 ∧ A' 4 x = (Ld g 0 x).2.1 ∧ A' 5 x = (Cv g 0 x).1) → K2 t (nI i) h') (nx g) (fun i hi ih h' A' T' F' G' P' => ?_) (fun h' A' T' F' G' P' => ?_) 0 (Nat.zero_le _) h A T (FT.rfl h t r) G (fun x hx => absurd hx (Nat.not_lt_zero _))
  · refine k2 _ _ _ ?_
    have L62 : ∀ h1 A1 z, Tb E h1 t r g A1 a (nI (nx g)) c → FT h h1 t r → Tg A1 g → (∀ x, x < i → A1 3 x = (Ld g 0 x).1 ∧ A1 4 x = (Ld g 0 x).2.1 ∧ A1 5 x = (Cv g 0 x).1) → A1 3 i = (Ld g 0 i).1 → z = (Ld g 0 i).2.1 → vcX6_findEnds_62 E (d + 3) K2 t (nI i) (t + 4) (nI i) z h1 Q := fun h1 A1 z T1 F1 G1 P1 P3 hz => by
      rw [vcX6_findEnds_62]
      refine ⟨(T1.tt (show i < 4394 by omega)).2.2.2.1.1, fun h2 e2 => ?_⟩
      obtain ⟨T2, F2⟩ := T1.st (j := 4) (i := i) (x := z) (by omega) (by show i < 4394; omega)
      rw [← e2] at T2 F2
      clear e2
      simp only [T2.fs, true_and, (T2.tt (show i < 4394 by omega)).2.2.2.1, (T2.tt (show i < 4394 by omega)).2.2.2.2]
      intro h3 e3
      rw [up2_at] at e3
      obtain ⟨T3, F3⟩ := T2.st (j := 5) (i := i) (x := z) (by omega) (by show i < 4394; omega)
      rw [← e3] at T3 F3
      clear e3
      rw [nI_1]
      refine ih h3 _ T3 ((F1.tr F2).tr F3) (G1.of (fun j hj => by rw [up2_ne (by omega), up2_ne (by omega)])) (fun x hx => ?_)
      by_cases q : x = i
      · subst q
        rw [up2_ne (by omega), up2_ne (by omega), up2_ne (by omega), up2_at, up2_at, Cv0_5]
        exact ⟨P3, hz, hz⟩
      · rw [up2_o q, up2_o q, up2_o q, up2_o q, up2_o q, up2_o q]; exact P1 x (by omega)
    have L41 : ∀ h1 z, Tb E h1 t r g A' a (nI (nx g)) c → FT h h1 t r → z = (Ld g 0 i).1 → vcX6_findEnds_41 E (d + 3) K2 t (nI i) (t + 3) (nI i) z h1 Q := fun h1 z T1 F1 hz => by
      rw [vcX6_findEnds_41]
      refine ⟨(T1.tt (show i < 4394 by omega)).2.2.1.1, fun h2 e2 => ?_⟩
      obtain ⟨T2, F2⟩ := T1.st (j := 3) (i := i) (x := z) (by omega) (by show i < 4394; omega)
      rw [← e2] at T2 F2
      clear e2
      simp only [T2.fs, true_and, (T2.tt (show i < 4394 by omega)).2.2.1]
      rw [up2_at]
      have P2 : ∀ x, x < i → up2 A' 3 i z 3 x = (Ld g 0 x).1 ∧ up2 A' 3 i z 4 x = (Ld g 0 x).2.1 ∧ up2 A' 3 i z 5 x = (Cv g 0 x).1 := fun x hx => by
        rw [up2_o (by omega), up2_o (by omega), up2_o (by omega)]; exact P' x hx
      have G2 : Tg (up2 A' 3 i z) g := G'.of (fun j hj => by rw [up2_ne (by omega)])
      have e5 := Ld0_5 (g := g) i
      rw [← hz] at e5
      refine ⟨fun q => L62 h2 _ 0 T2 (F1.tr F2) G2 P2 (by rw [up2_at]; exact hz) ?_, fun q => L62 h2 _ (-5) T2 (F1.tr F2) G2 P2 (by rw [up2_at]; exact hz) ?_⟩
      · rw [e5, if_neg q]
      · rw [e5, if_pos q]
    simp only [vcX6_findEnds_2, T'.fs, true_and, nI_leI (show nx g < 2 ^ 31 by omega) (show i < 2 ^ 31 by omega), (T'.tt (show i < 4394 by omega)).1]
    rw [(G'.1 i hi).1]
    refine ⟨fun q => absurd q (by omega), fun _ => ?_⟩
    cases hP : Ps g i with
    | false =>
      rw [if_neg (by decide)]
      exact ⟨fun _ => L41 h' 0 T' F' (by rw [Ld_no hP]), fun q => absurd (by decide) q⟩
    | true =>
      rw [if_pos rfl]
      have hcl := can_lt w hi
      refine ⟨fun q => absurd q (nI_pos (by omega)), fun _ => c_isEnd T' G' w hP ?_⟩
      refine bI_c (fun q => L41 h' 0 T' F' ?_) (fun q => ⟨⟨_, T'.1⟩, c_endValue T' w hP (fun h1 T1 F1 => L41 h1 _ T1 (F'.tr F1.ft) ?_)⟩)
      · rw [Ld, hP, q]; rfl
      · rw [Ld, hP, q]; rfl
  · refine k2 _ _ _ ?_
    simp only [vcX6_findEnds_2, T'.fs, true_and]
    exact ⟨fun _ => hq h' A' T' F' G' P', fun q => absurd (nI_le (Nat.le_refl _) (by omega)) q⟩
end
