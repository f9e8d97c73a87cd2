def stN (g : Gm) : Nat → Nat
  | 0 => 0
  | x + 1 => stN g x + (if Ps g x = true then (mvs g x).length else 0)
theorem stN_mono (g : Gm) : ∀ n m, n ≤ m → stN g n ≤ stN g m := by
  intro n m
  induction m with
  | zero => intro h; rw [show n = 0 by omega]; exact Nat.le_refl _
  | succ m ih =>
    intro h
    by_cases c : n = m + 1
    · rw [c]; exact Nat.le_refl _
    · have := ih (by omega)
      rw [stN]; omega
theorem stN_at {g : Gm} {x : Nat} (h : Ps g x = true) : stN g (x + 1) = stN g x + (mvs g x).length := by rw [stN, if_pos h]
theorem stN_no {g : Gm} {x : Nat} (h : Ps g x = false) : stN g (x + 1) = stN g x := by rw [stN, if_neg (by rw [h]; decide)]; rfl
/-- the moves of all positions together: proved in the part of the bound -/
def bnd (g : Gm) : Prop := stN g (nx g) ≤ 7200
theorem bnd_le {g : Gm} (b : bnd g) {x : Nat} (hx : x ≤ nx g) : stN g x ≤ 7200 := Nat.le_trans (stN_mono g x _ hx) b
def tln (j : Nat) : Nat := if j = 6 then 4395 else if j = 7 then 7200 else if j = 8 then 61 else 4394
def tfs (t r : Nat) (a b c : Int32) : List Value := [.ref (t + 1), .ref (t + 2), .ref (t + 3), .ref (t + 4), .ref (t + 5), .ref (t + 6), .ref (t + 7), .ref (t + 8), .ref r, .ref (r + 3), .ref (r + 5), .int a, .int b, .int c]
def Tb (E : Wd) (h : Hp) (t r : Nat) (g : Gm) (A : Nat → Nat → Int32) (a b c : Int32) : Prop := h.2 t = some (.inr (6, tfs t r a b c)) ∧ (∀ j, 1 ≤ j → j < 9 → h.2 (t + j) = some (.inl (eA E 0, tln j, .inl (A j)))) ∧ Kq E h (r + 3) r g (syL g 8) ∧ (∃ P s o, Kp E h (r + 5) r (r + 7) g P s o) ∧ t + 9 ≤ r
/-- all but the table's own rows and the spot stay -/
def FT (h h' : Hp) (t r : Nat) : Prop := h'.1 = h.1 ∧ ∀ a, ¬ (t ≤ a ∧ a < t + 9) → a ≠ r + 5 → a ≠ r + 6 → h'.2 a = h.2 a
theorem FT.rfl (h : Hp) (t r : Nat) : FT h h t r := ⟨Eq.refl _, fun _ _ _ _ => Eq.refl _⟩
theorem FT.tr {h h' h'' : Hp} {t r : Nat} (F : FT h h' t r) (G : FT h' h'' t r) : FT h h'' t r := ⟨G.1.trans F.1, fun a o1 o2 o3 => (G.2 a o1 o2 o3).trans (F.2 a o1 o2 o3)⟩
theorem Fr2.ft {h h' : Hp} {t r : Nat} (F : Fr2 h h' (r + 5)) : FT h h' t r := ⟨F.1, fun a _ o2 o3 => F.2 a o2 o3⟩
section
variable {E : Wd} {h : Hp} {t r : Nat} {g : Gm} {A : Nat → Nat → Int32} {a b c : Int32} {d : Nat}
theorem Tb.fs (T : Tb E h t r g A a b c) : isO h t 6 ∧ okA h t 6 0 ∧ vA (hF h t 0) = t + 1 ∧ okA h t 6 1 ∧ vA (hF h t 1) = t + 2 ∧ okA h t 6 2 ∧ vA (hF h t 2) = t + 3 ∧ okA h t 6 3 ∧ vA (hF h t 3) = t + 4 ∧ okA h t 6 4 ∧ vA (hF h t 4) = t + 5 ∧ okA h t 6 5 ∧ vA (hF h t 5) = t + 6 ∧ okA h t 6 6 ∧ vA (hF h t 6) = t + 7 ∧ okA h t 6 7 ∧ vA (hF h t 7) = t + 8 ∧ okA h t 6 8 ∧ vA (hF h t 8) = r ∧ okA h t 6 9 ∧ vA (hF h t 9) = r + 3 ∧ okA h t 6 10 ∧ vA (hF h t 10) = r + 5 ∧ okI h t 6 11 ∧ vI (hF h t 11) = a ∧ okI h t 6 12 ∧ vI (hF h t 12) = b ∧ okI h t 6 13 ∧ vI (hF h t 13) = c ∧ okP h t 6 11 ∧ okP h t 6 13 ∧ isO h (r + 5) 1 ∧ isO h r 4 ∧ isO h (r + 3) 5 := by
  obtain ⟨e, -, ⟨k1, k2, -⟩, ⟨P, s, o, k3⟩, -⟩ := T
  exact ⟨⟨_, e⟩, ⟨_, _, e, rfl⟩, (by rw [hF_of e rfl]; rfl), ⟨_, _, e, rfl⟩, (by rw [hF_of e rfl]; rfl), ⟨_, _, e, rfl⟩, (by rw [hF_of e rfl]; rfl), ⟨_, _, e, rfl⟩, (by rw [hF_of e rfl]; rfl), ⟨_, _, e, rfl⟩, (by rw [hF_of e rfl]; rfl), ⟨_, _, e, rfl⟩, (by rw [hF_of e rfl]; rfl), ⟨_, _, e, rfl⟩, (by rw [hF_of e rfl]; rfl), ⟨_, _, e, rfl⟩, (by rw [hF_of e rfl]; rfl), ⟨_, _, e, rfl⟩, (by rw [hF_of e rfl]; rfl), ⟨_, _, e, rfl⟩, (by rw [hF_of e rfl]; rfl), ⟨_, _, e, rfl⟩, (by rw [hF_of e rfl]; rfl), ⟨_, _, e, rfl⟩, (by rw [hF_of e rfl]; rfl), ⟨_, _, e, rfl⟩, (by rw [hF_of e rfl]; rfl), ⟨_, _, e, rfl⟩, (by rw [hF_of e rfl]; rfl), ⟨_, e, Nat.le_of_ble_eq_true rfl⟩, ⟨_, e, Nat.le_of_ble_eq_true rfl⟩, ⟨_, k3.2.2.1⟩, ⟨_, k1.1⟩, ⟨_, k2⟩⟩
theorem Tb.gt (T : Tb E h t r g A a b c) {j i : Nat} (hj : 1 ≤ j ∧ j < 9) (hi : i < tln j) : okR E h (t + j) 0 (nI i) ∧ gA h (t + j) (nI i) = A j i := by
  have e := T.2.1 j hj.1 hj.2
  have : tln j ≤ 7200 := by unfold tln; split; omega; split; omega; split <;> omega
  exact ⟨⟨_, _, e, vpn hi⟩, by rw [gA_of e, n_cl]⟩
theorem Tb.ln (T : Tb E h t r g A a b c) {j : Nat} (hj : 1 ≤ j ∧ j < 9) : okL E h (t + j) 0 ∧ lA h (t + j) = nI (tln j) := by
  have e := T.2.1 j hj.1 hj.2
  exact ⟨⟨_, e⟩, by simp [lA, e, nI]⟩
theorem Tb.tt (T : Tb E h t r g A a b c) {i : Nat} (hi : i < 4394) : (okR E h (t + 1) 0 (nI i) ∧ gA h (t + 1) (nI i) = A 1 i) ∧ (okR E h (t + 2) 0 (nI i) ∧ gA h (t + 2) (nI i) = A 2 i) ∧ (okR E h (t + 3) 0 (nI i) ∧ gA h (t + 3) (nI i) = A 3 i) ∧ (okR E h (t + 4) 0 (nI i) ∧ gA h (t + 4) (nI i) = A 4 i) ∧ (okR E h (t + 5) 0 (nI i) ∧ gA h (t + 5) (nI i) = A 5 i) := ⟨T.gt (by omega) hi, T.gt (by omega) hi, T.gt (by omega) hi, T.gt (by omega) hi, T.gt (by omega) hi⟩
theorem Tb.of {h' : Hp} (T : Tb E h t r g A a b c) (e1 : ∀ j, j < 9 → h'.2 (t + j) = h.2 (t + j)) (e2 : ∀ j, j < 10 → h'.2 (r + j) = h.2 (r + j)) : Tb E h' t r g A a b c := by
  obtain ⟨k1, k2, k3, ⟨P, s, o, k4, k5, k6, k7, k8⟩, k9⟩ := T
  refine ⟨by rw [← k1]; exact e1 0 (by omega), fun j h1 h2 => by rw [e1 j h2]; exact k2 j h1 h2, k3.of (fun j hj => e2 j (by omega)) (fun j hj => by have := e2 (3 + j) (by omega); rw [← Nat.add_assoc] at this; exact this), ⟨P, s, o, k4.of (fun j hj => e2 j (by omega)), k5.of (fun j hj => by have := e2 (7 + j) (by omega); rw [← Nat.add_assoc] at this; exact this), by rw [e2 5 (by omega)]; exact k6, by have := e2 6 (by omega); rw [show r + 5 + 1 = r + 6 from rfl, this]; exact k7, k8⟩, k9⟩
theorem Tb.sp {h' : Hp} {P : Nat → Nat} {s o : Nat} (T : Tb E h t r g A a b c) (K : Kp E h' (r + 5) r (r + 7) g P s o) (F : Fr2 h h' (r + 5)) : Tb E h' t r g A a b c := by
  obtain ⟨k1, k2, k3, -, k9⟩ := T
  refine ⟨by rw [F.2 t (by omega) (by omega)]; exact k1, fun j h1 h2 => by rw [F.2 _ (by omega) (by omega)]; exact k2 j h1 h2, k3.of (fun j hj => F.2 _ (by omega) (by omega)) (fun j hj => F.2 _ (by omega) (by omega)), ⟨P, s, o, K⟩, k9⟩
theorem Tb.st (T : Tb E h t r g A a b c) {j i : Nat} {x : Int32} (hj : 1 ≤ j ∧ j < 9) (hi : i < tln j) : Tb E (sA h (t + j) (nI i) x) t r g (up2 A j i x) a b c ∧ FT h (sA h (t + j) (nI i) x) t r := by
  have hl : tln j ≤ 7200 := by unfold tln; split; omega; split; omega; split <;> omega
  obtain ⟨k1, k2, k3, ⟨P, s, o, k4, k5, k6, k7, k8⟩, k9⟩ := T
  have fr : ∀ q, q ≠ t + j → (sA h (t + j) (nI i) x).2 q = h.2 q := fun q hq => by simp [sA, hq]
  refine ⟨⟨by rw [fr _ (by omega)]; exact k1, fun j' h1 h2 => ?_, k3.of (fun j' hj' => fr _ (by omega)) (fun j' hj' => fr _ (by omega)), ⟨P, s, o, k4.of (fun j' hj' => fr _ (by omega)), k5.of (fun j' hj' => fr _ (by omega)), by rw [fr _ (by omega)]; exact k6, by rw [fr _ (by omega)]; exact k7, k8⟩, k9⟩, rfl, fun q o1 _ _ => fr q (by omega)⟩
  by_cases z : j' = j
  · subst z
    have := sA_of (i := nI i) (x := x) (k2 j' h1 h2)
    rw [n_cl] at this
    rw [this]
    congr 5
    funext q
    simp [upd, up2]
  · rw [fr _ (by omega), k2 j' h1 h2]
    congr 5
    funext q
    simp [up2, z]
theorem Tb.put (T : Tb E h t r g A a b c) {k : Nat} {x a' b' c' : Int32} (e : (tfs t r a b c).set k (.int x) = tfs t r a' b' c') : Tb E (pF h t k (.int x)) t r g A a' b' c' ∧ FT h (pF h t k (.int x)) t r := by
  obtain ⟨k1, k2, k3, ⟨P, s, o, k4, k5, k6, k7, k8⟩, k9⟩ := T
  have fr : ∀ q, q ≠ t → (pF h t k (.int x)).2 q = h.2 q := fun q hq => by simp [pF, hq]
  exact ⟨⟨by simp [pF, k1, e], fun j' h1 h2 => by rw [fr _ (by omega)]; exact k2 j' h1 h2, k3.of (fun j' hj' => fr _ (by omega)) (fun j' hj' => fr _ (by omega)), ⟨P, s, o, k4.of (fun j' hj' => fr _ (by omega)), k5.of (fun j' hj' => fr _ (by omega)), by rw [fr _ (by omega)]; exact k6, by rw [fr _ (by omega)]; exact k7, k8⟩, k9⟩, rfl, fun q o1 _ _ => fr q (by omega)⟩
def ixB (g : Gm) (x : Int32) : Bool := !decide (x < 0) && !decide (nI (nx g) ≤ x)
theorem ixB_n (w : qF g) {x : Nat} (hx : x < 2 ^ 31) : ixB g (nI x) = decide (x < nx g) := by
  have := nx_le w
  unfold ixB
  rw [decide_eq_false (nI_pos hx)]
  by_cases q : x < nx g
  · rw [decide_eq_false (nI_ge q (by omega)), decide_eq_true q]; rfl
  · rw [decide_eq_true (nI_le (by omega) hx), decide_eq_false q]; rfl
theorem ixB_in (w : qF g) {x : Int32} (h : ixB g x = true) : ∃ i, i < nx g ∧ x = nI i := by
  have := nx_le w
  unfold ixB at h
  simp only [Bool.and_eq_true, Bool.not_eq_true', decide_eq_false_iff_not] at h
  rcases pk_ix x (show nx g < 2 ^ 31 by omega) with q | q | ⟨j, q1, q2⟩
  · exact absurd q h.1
  · exact absurd q h.2
  · exact ⟨j, q1, q2⟩
theorem c_isIndex {Q : Int32 → Hp → Prop} {x : Int32} (T : Tb E h t r g A a (nI (nx g)) c) (w : qF g) (hq : Q (bI (ixB g x)) h) : OkI E YX6_isIndex d [.ref t, .int x] h Q := by
  have hnx := nx_le w
  refine rnX6_isIndex ?_
  simp only [vcX6_isIndex_0, T.fs, true_and]
  refine ⟨fun q => ⟨Or.inl rfl, ?_⟩, fun q => ⟨fun q2 => ⟨Or.inl rfl, ?_⟩, fun q2 => ?_⟩⟩
  · rw [ixB, decide_eq_true q] at hq; exact hq
  · rw [ixB, decide_eq_true q2, Bool.not_true, Bool.and_false] at hq; exact hq
  · have e : ixB g x = true := by rw [ixB, decide_eq_false q, decide_eq_false q2]; rfl
    obtain ⟨i, hi, ei⟩ := ixB_in w e
    rw [e] at hq
    refine ⟨fun q3 => absurd q3 ?_, fun _ => ⟨Or.inr rfl, hq⟩⟩
    rw [ei]; exact nI_ge (a := i) (b := 4394) (by omega) (by omega)
theorem c_isIndexN {Q : Int32 → Hp → Prop} {x : Nat} (T : Tb E h t r g A a (nI (nx g)) c) (w : qF g) (hx : x < nx g) (hq : Q 1 h) : OkI E YX6_isIndex d [.ref t, .int (nI x)] h Q := by
  have hnx := nx_le w
  refine c_isIndex T w ?_
  rw [ixB_n w (by omega), decide_eq_true hx]; exact hq
theorem c_canonicalOf {Q : Int32 → Hp → Prop} {x : Nat} (T : Tb E h t r g A a (nI (nx g)) c) (w : qF g) (hx : x < nx g) (hq : Q (A 1 x) h) : OkI E YX6_canonicalOf (d + 1) [.ref t, .int (nI x)] h Q := by
  have hnx := nx_le w
  refine rnX6_canonicalOf ⟨⟨_, T.1⟩, c_isIndexN T w hx ⟨fun q => absurd q (by decide), fun _ => ?_⟩⟩
  simp only [T.fs, true_and, (T.tt (show x < 4394 by omega)).1]
  exact hq
theorem c_valueOf {Q : Int32 → Hp → Prop} {x : Nat} (T : Tb E h t r g A a (nI (nx g)) c) (w : qF g) (hx : x < nx g) (hq : Q (A 3 x) h) : OkI E YX6_valueOf (d + 1) [.ref t, .int (nI x)] h Q := by
  have hnx := nx_le w
  refine rnX6_valueOf ⟨⟨_, T.1⟩, c_isIndexN T w hx ⟨fun q => absurd q (by decide), fun _ => ?_⟩⟩
  simp only [T.fs, true_and, (T.tt (show x < 4394 by omega)).2.2.1]
  exact hq
theorem c_toEndOf {Q : Int32 → Hp → Prop} {x : Nat} (T : Tb E h t r g A a (nI (nx g)) c) (w : qF g) (hx : x < nx g) (hq : Q (A 4 x) h) : OkI E YX6_toEndOf (d + 1) [.ref t, .int (nI x)] h Q := by
  have hnx := nx_le w
  refine rnX6_toEndOf ⟨⟨_, T.1⟩, c_isIndexN T w hx ⟨fun q => absurd q (by decide), fun _ => ?_⟩⟩
  simp only [T.fs, true_and, (T.tt (show x < 4394 by omega)).2.2.2.1]
  exact hq
theorem c_toConversionOf {Q : Int32 → Hp → Prop} {x : Nat} (T : Tb E h t r g A a (nI (nx g)) c) (w : qF g) (hx : x < nx g) (hq : Q (A 5 x) h) : OkI E YX6_toConversionOf (d + 1) [.ref t, .int (nI x)] h Q := by
  have hnx := nx_le w
  refine rnX6_toConversionOf ⟨⟨_, T.1⟩, c_isIndexN T w hx ⟨fun q => absurd q (by decide), fun _ => ?_⟩⟩
  simp only [T.fs, true_and, (T.tt (show x < 4394 by omega)).2.2.2.2]
  exact hq
/-- the rows that hold for good: canonical indices, captured men, moves -/
def Tg (A : Nat → Nat → Int32) (g : Gm) : Prop := (∀ x, x < nx g → A 1 x = (if Ps g x = true then nI (can g x) else -1) ∧ A 2 x = nI (ms g (plc g x))) ∧ (∀ x, x ≤ nx g → A 6 x = nI (stN g x)) ∧ ∀ x, Ps g x = true → ∀ k, k < (mvs g x).length → A 7 (stN g x + k) = nI (yO g x k)
theorem Tg.of {A' : Nat → Nat → Int32} (G : Tg A g) (e : ∀ j, j = 1 ∨ j = 2 ∨ j = 6 ∨ j = 7 → A' j = A j) : Tg A' g := by
  obtain ⟨g1, g2, g3⟩ := G
  refine ⟨fun x hx => by rw [e 1 (by omega), e 2 (by omega)]; exact g1 x hx, fun x hx => by rw [e 6 (by omega)]; exact g2 x hx, fun x hx k hk => by rw [e 7 (by omega)]; exact g3 x hx k hk⟩
theorem c_stepsOf {Q : Int32 → Hp → Prop} {x : Nat} (T : Tb E h t r g A a (nI (nx g)) c) (G : Tg A g) (w : qF g) (hP : Ps g x = true) (hq : Q (nI (mvs g x).length) h) : OkI E YX6_stepsOf (d + 1) [.ref t, .int (nI x)] h Q := by
  have hnx := nx_le w
  have hx := Ps_lt hP
  refine rnX6_stepsOf ⟨⟨_, T.1⟩, c_isIndexN T w hx ⟨fun q => absurd q (by decide), fun _ => ?_⟩⟩
  have t1 := T.gt (j := 6) (i := x) (by omega) (by show x < 4395; omega)
  have t2 := T.gt (j := 6) (i := x + 1) (by omega) (by show x + 1 < 4395; omega)
  simp only [T.fs, true_and, nI_1, t1, t2]
  rw [G.2.1 x (by omega), G.2.1 (x + 1) (by omega), stN_at hP, n_sub (by omega), Nat.add_sub_cancel_left]
  exact hq
theorem c_isEnd {Q : Int32 → Hp → Prop} {x : Nat} (T : Tb E h t r g A a (nI (nx g)) c) (G : Tg A g) (w : qF g) (hP : Ps g x = true) (hq : Q (bI (mvs g x).isEmpty) h) : OkI E YX6_isEnd (d + 2) [.ref t, .int (nI x)] h Q := by
  have hl := mvA_len g w (plc g x) (x % 2) (qn g)
  have hl : (mvs g x).length ≤ 12 * qn g := hl
  have hn : qn g ≤ 3 := w.2.2.2.2.2.2.1
  refine rnX6_isEnd ⟨⟨_, T.1⟩, c_stepsOf T G w hP ?_⟩
  rw [← nI_0, nI_eq (by omega) (by omega)]
  cases hm : mvs g x with
  | nil =>
    rw [hm] at hq
    exact ⟨fun q => absurd rfl q, fun _ => ⟨Or.inr rfl, hq⟩⟩
  | cons v l =>
    rw [hm] at hq
    exact ⟨fun _ => ⟨Or.inl rfl, hq⟩, fun q => absurd q (by simp)⟩
theorem c_stepOf {Q : Int32 → Hp → Prop} {x k : Nat} (T : Tb E h t r g A a (nI (nx g)) c) (G : Tg A g) (w : qF g) (bd : bnd g) (hP : Ps g x = true) (hk : k < (mvs g x).length) (hq : Q (nI (yO g x k)) h) : OkI E YX6_stepOf (d + 2) [.ref t, .int (nI x), .int (nI k)] h Q := by
  have hnx := nx_le w
  have hx := Ps_lt hP
  have hb := bnd_le bd (show x + 1 ≤ nx g by omega)
  rw [stN_at hP] at hb
  refine rnX6_stepOf ⟨fun q => absurd q (nI_pos (by omega)), fun _ => ⟨⟨_, T.1⟩, c_stepsOf T G w hP ⟨fun _ => ?_, fun q => absurd (nI_lt hk (by omega)) q⟩⟩⟩
  have t1 := T.gt (j := 6) (i := x) (by omega) (by show x < 4395; omega)
  have t3 := T.ln (j := 7) (by omega)
  simp only [T.fs, true_and, t1, t3]
  rw [G.2.1 x (by omega), nI_add]
  have t2 := T.gt (j := 7) (i := stN g x + k) (by omega) (by show stN g x + k < 7200; omega)
  simp only [t2, true_and, nI_leI (show tln 7 < 2 ^ 31 by decide) (show stN g x + k < 2 ^ 31 by omega)]
  refine ⟨fun q => absurd q (nI_pos (by omega)), fun _ => ⟨fun q => absurd q (by show ¬ 7200 ≤ _; omega), fun _ => ?_⟩⟩
  rw [G.2.2 x hP k hk]; exact hq
theorem c_captures {Q : Int32 → Hp → Prop} {x y : Nat} (T : Tb E h t r g A a (nI (nx g)) c) (G : Tg A g) (w : qF g) (hx : x < nx g) (hy : y < nx g) (hq : Q (bI (decide (ms g (plc g x) < ms g (plc g y)))) h) : OkI E YX6_captures (d + 1) [.ref t, .int (nI x), .int (nI y)] h Q := by
  have hnx := nx_le w
  have hn : qn g ≤ 3 := w.2.2.2.2.2.2.1
  have m1 : ms g (plc g x) ≤ 3 := Nat.le_trans (cN_le _ _) hn
  have m2 : ms g (plc g y) ≤ 3 := Nat.le_trans (cN_le _ _) hn
  refine rnX6_captures ⟨⟨_, T.1⟩, c_isIndexN T w hx ⟨fun q => absurd q (by decide), fun _ => ⟨⟨_, T.1⟩, c_isIndexN T w hy ⟨fun q => absurd q (by decide), fun _ => ?_⟩⟩⟩⟩
  simp only [T.fs, true_and, (T.tt (show x < 4394 by omega)).2.1, (T.tt (show y < 4394 by omega)).2.1]
  rw [(G.1 x hx).2, (G.1 y hy).2, nI_leI (by omega) (by omega)]
  refine ⟨fun q => ⟨Or.inl rfl, ?_⟩, fun q => ⟨Or.inr rfl, ?_⟩⟩
  · rw [decide_eq_false (by omega)] at hq; exact hq
  · rw [decide_eq_true (by omega)] at hq; exact hq
theorem oc3 {P : Nat → Nat} (w : qF g) (hC : posC g P) : ocF g P 3 = ocF g P (qn g) := by
  have hn : qn g ≤ 3 := w.2.2.2.2.2.2.1
  have : ∀ k, qn g + k ≤ 3 → ocF g P (qn g + k) = ocF g P (qn g) := by
    intro k
    induction k with
    | zero => intro _; rfl
    | succ k ih =>
      intro hk
      rw [← Nat.add_assoc, ocF, hC.2.2.2 (qn g + k) (by omega) (by omega), if_neg (by omega), Nat.or_zero]
      exact ih (by omega)
  have := this (3 - qn g) (by omega)
  rw [show qn g + (3 - qn g) = 3 by omega] at this
  exact this
theorem c_isRoyalAttacked {Q : Int32 → Hp → Prop} {x : Nat} (T : Tb E h t r g A a b c) (w : qF g) (hP : Ps g x = true) (hq : ∀ h', Tb E h' t r g A a b c → Fr2 h h' (r + 5) → Q (bI (chk g (plc g x) (x % 2))) h') : OkI E YX6_isRoyalAttacked (d + 2) [.ref t, .int (nI x)] h Q := by
  obtain ⟨hx, hC, -⟩ := (Ps_iff w).mp hP
  refine rnX6_isRoyalAttacked ?_
  simp only [vcX6_isRoyalAttacked_0, T.fs, true_and]
  obtain ⟨P, s, o, K⟩ := T.2.2.2.1
  refine c_read K w hx (fun h1 K1 F1 => ?_)
  have T1 := T.sp K1 F1
  simp only [T1.fs, true_and]
  rw [n_lit1, nx_and, Nat.and_one_is_mod]
  exact c_isAttacked K1 w (by omega) hC (oc3 w hC) ⟨bI_m _, hq h1 T1 F1⟩
theorem c_endValue {Q : Int32 → Hp → Prop} {x : Nat} (T : Tb E h t r g A a b c) (w : qF g) (hP : Ps g x = true) (hq : ∀ h', Tb E h' t r g A a b c → Fr2 h h' (r + 5) → Q (endV g x) h') : OkI E YX6_endValue (d + 3) [.ref t, .int (nI x)] h Q := by
  refine rnX6_endValue ⟨⟨_, T.1⟩, c_isRoyalAttacked T w hP (fun h1 T1 F1 => ?_)⟩
  have := hq h1 T1 F1
  unfold endV at this
  simp only [T1.fs, true_and, T1.2.2.1.1.fs]
  refine bI_c (fun q => ?_) (fun q => ?_)
  · rw [if_neg (by rw [q]; decide)] at this; exact this
  · rw [if_pos q] at this; exact this
end
