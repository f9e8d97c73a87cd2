theorem pop_all : ((List.range 13).all fun n => (List.range (2 ^ n)).all fun o => pop ((2 ^ n - 1) &&& (o ^^^ 4294967295)) + pop o == n) = true := by decide +kernel
theorem pop_grd {g : Gm} (w : qF g) : pop (grd g) + pop (qo g) = sq g ∧ grd g < 4096 := by
  have h1 := List.all_eq_true.mp pop_all (sq g) (List.mem_range.mpr (by have := w.sq_lt; omega))
  have h2 := List.all_eq_true.mp h1 (qo g) (List.mem_range.mpr w.2.2.2.2.2.2.2.2.2.1)
  refine ⟨beq_iff_eq.mp h2, ?_⟩
  have h3 : 2 ^ sq g ≤ 2 ^ 12 := Nat.pow_le_pow_right (by omega) w.sq_lt.1
  have h4 : grd g ≤ 2 ^ sq g - 1 := Nat.and_le_left
  have : 0 < 2 ^ sq g := Nat.two_pow_pos _
  omega
/-- whether the next define makes a table -/
def dl : Sl → Sl → Option Bool → Nat
  | none, _, _ => 1
  | some _, none, some false => 1
  | some _, _, _ => 0
section
variable {E : Wd} {h h' hb : Hp} {O M t r n : Nat} {s : Sg} {c c1 c2 : Sl} {bt bk : Option Bool} {g : Gm} {A A' : Nat → Nat → Int32} {d : Nat}
theorem c_playInit {Q : Hp → Prop} {mc ms : Nat} (hcm : 1 ≤ mc ∧ 41 ≤ ms) (hq : ∀ h', Ky E h' hb.1 pl0 → h'.1 = hb.1 + 2 → (∀ a, a < hb.1 → h'.2 a = hb.2 a) → Q h') : OkW E YX0_init (d + 1) mc ms [.ref hb.1] (nO hb 0 [.null, .int 0]) Q := by
  refine rnX0_init ?_
  refine ⟨hcm, fun h1 e1 => ?_⟩
  have a1 : h1.1 = hb.1 + 2 ∧ h1.2 (hb.1 + 1) = some (.inl (eA E 0, 41, .inl (fun _ => 0))) ∧ h1.2 hb.1 = some (.inr (0, [.null, .int 0])) ∧ ∀ a, a < hb.1 → h1.2 a = hb.2 a := by
    rw [e1]
    refine ⟨rfl, by simp [nA, nO], by simp [nA, nO], fun a ha => ?_⟩
    have q1 : a ≠ hb.1 + 1 := by omega
    have q2 : a ≠ hb.1 := by omega
    simp [nA, nO, q1, q2]
  clear e1
  obtain ⟨a2, a3, a4, a5⟩ := a1
  refine ⟨⟨_, a4, by decide⟩, fun h3 e3 => ?_⟩
  have e3 : h3 = pF h1 hb.1 0 (.ref (hb.1 + 1)) := e3
  subst e3
  have n1 : hb.1 + 1 ≠ hb.1 := by omega
  refine hq _ ⟨by decide, by simp [pF, a4]; rfl, fun _ => 0, by simp only [pF, n1, if_false]; exact a3, fun k hk => absurd hk (Nat.not_lt_zero _)⟩ a2 (fun a ha => ?_)
  have q2 : a ≠ hb.1 := by omega
  simp [pF, q2, a5 a ha]
/-- a fresh object -/
def CI (E : Wd) (h : Hp) (O : Nat) : Prop := h.2 O = some (.inr (7, objf O 0 none none none none false)) ∧ TPk E h (O + 1) 0 (fun _ => 0) ∧ Ky E h (O + 2) pl0 ∧ Ky E h (O + 4) pl0
theorem c_objInit {Q : Hp → Prop} {mc ms : Nat} (hcm : 5 ≤ mc ∧ 126 ≤ ms) (hq : ∀ h', CI E h' hb.1 → h'.1 = hb.1 + 6 → (∀ a, a < hb.1 → h'.2 a = hb.2 a) → Q h') : OkW E YX7_init (d + 2) mc ms [.ref hb.1] (nO hb 7 [.null, .int 0, .null, .null, .null, .null, .null, .null, .int 0]) Q := by
  refine rnX7_init ?_
  refine ⟨⟨by omega, by omega⟩, fun h1 e1 => ?_⟩
  have a1 : h1.1 = hb.1 + 2 ∧ h1.2 (hb.1 + 1) = some (.inl (eA E 0, 40, .inl (fun _ => 0))) ∧ h1.2 hb.1 = some (.inr (7, [.null, .int 0, .null, .null, .null, .null, .null, .null, .int 0])) ∧ ∀ a, a < hb.1 → h1.2 a = hb.2 a := by
    rw [e1]
    refine ⟨rfl, by simp [nA, nO], by simp [nA, nO], fun a ha => ?_⟩
    have q1 : a ≠ hb.1 + 1 := by omega
    have q2 : a ≠ hb.1 := by omega
    simp [nA, nO, q1, q2]
  clear e1
  obtain ⟨a1, a2, a3, a4⟩ := a1
  refine ⟨⟨_, a3, by decide⟩, fun h3 e3 => ⟨⟨by omega, by omega⟩, fun h4 e4 => ?_⟩⟩
  have e3 : h3 = pF h1 hb.1 0 (.ref (hb.1 + 1)) := e3
  have b1 : h3.1 = hb.1 + 2 ∧ h3.2 hb.1 = some (.inr (7, [.ref (hb.1 + 1), .int 0, .null, .null, .null, .null, .null, .null, .int 0])) ∧ ∀ q, q ≠ hb.1 → h3.2 q = h1.2 q := by
    rw [e3]
    exact ⟨a1, by simp [pF, a3], fun q hq => by simp [pF, hq]⟩
  clear e3
  obtain ⟨b1, b2, b3⟩ := b1
  subst e4
  refine ⟨1, 41, ⟨by omega, by omega⟩, c_playInit (hb := h3) ⟨Nat.le_refl _, Nat.le_refl _⟩ (fun h6 K6 s6 u6 => ?_)⟩
  rw [b1] at K6 s6 u6 ⊢
  have d2 : h6.2 hb.1 = some (.inr (7, [.ref (hb.1 + 1), .int 0, .null, .null, .null, .null, .null, .null, .int 0])) := by rw [u6 _ (by omega)]; exact b2
  refine ⟨⟨_, d2, Nat.le_of_ble_eq_true rfl⟩, fun h10 e10 => ⟨⟨by omega, by omega⟩, fun h11 e11 => ?_⟩⟩
  have f1 : h10.1 = hb.1 + 4 ∧ h10.2 hb.1 = some (.inr (7, [.ref (hb.1 + 1), .int 0, .null, .null, .null, .null, .ref (hb.1 + 2), .null, .int 0])) ∧ ∀ q, q ≠ hb.1 → h10.2 q = h6.2 q := by
    rw [e10]
    exact ⟨s6, by simp [pF, d2], fun q hq => by simp [pF, hq]⟩
  clear e10
  obtain ⟨f1, f2, f3⟩ := f1
  subst e11
  refine ⟨1, 41, ⟨by omega, by omega⟩, c_playInit (hb := h10) ⟨Nat.le_refl _, Nat.le_refl _⟩ (fun h13 K13 s13 u13 => ?_)⟩
  rw [f1] at K13 s13 u13 ⊢
  have g2 : h13.2 hb.1 = some (.inr (7, [.ref (hb.1 + 1), .int 0, .null, .null, .null, .null, .ref (hb.1 + 2), .null, .int 0])) := by rw [u13 _ (by omega)]; exact f2
  refine ⟨⟨_, g2, Nat.le_of_ble_eq_true rfl⟩, fun h17 e17 => ?_⟩
  have i1 : h17.1 = hb.1 + 6 ∧ h17.2 hb.1 = some (.inr (7, objf hb.1 0 none none none none false)) ∧ ∀ q, q ≠ hb.1 → h17.2 q = h13.2 q := by
    rw [e17]
    exact ⟨s13, by simp [pF, g2]; rfl, fun q hq => by simp [pF, hq]⟩
  clear e17
  obtain ⟨i1, i2, i3⟩ := i1
  refine hq h17 ⟨i2, ⟨Nat.zero_le _, fun _ => 0, ?_, fun i hi => absurd hi (Nat.not_lt_zero _)⟩, K6.of ?_ ?_, K13.of (i3 _ (by omega)) (i3 _ (by omega))⟩ i1 (fun a ha => ?_)
  · rw [i3 _ (by omega), u13 _ (by omega), f3 _ (by omega), u6 _ (by omega), b3 _ (by omega)]; exact a2
  · rw [i3 _ (by omega), u13 _ (by omega), f3 _ (by omega)]
  · rw [i3 _ (by omega), u13 _ (by omega), f3 _ (by omega)]
  · rw [i3 _ (by omega), u13 _ (by omega), f3 _ (by omega), u6 _ (by omega), b3 _ (by omega)]; exact a4 a ha
theorem CI.ct (C : CI E h O) (hM : O + 6 ≤ M) (hs : M + 54 ≤ h.1) : CT E h O M sg0 none none none none := by
  obtain ⟨k1, k2, k3, k4⟩ := C
  refine ⟨k1, k2, k3, ⟨trivial, trivial⟩, ⟨rfl, fun q => by cases q⟩, ⟨fun _ => rfl, fun g e => by cases e⟩, ⟨rfl, _, k4⟩, fun a q => q.elim, fun a q => by rcases q with q | q <;> exact q.elim, fun a q => ?_, hs⟩
  rcases q with q | q | q
  · omega
  · exact q.elim
  · exact q.elim
/-- a fresh table has come into a place -/
theorem c_freeTable {Q : Option Nat → Hp → Prop} {mc ms : Nat} (C : CT E h O M s c1 c2 bt bk) (hcm : 9 * dl c1 c2 bk ≤ mc ∧ 33640 * dl c1 c2 bk ≤ ms) (hq : ∀ h' z b c1' c2', CT E h' O M s c1' c2' bt bk → slA (pick c1' c2' (some b)) = some z → bk ≠ some b → tn c1' + tn c2' = tn c1 + tn c2 + dl c1 c2 bk → h.1 ≤ h'.1 → (∀ a, a < h.1 → a ≠ O → h'.2 a = h.2 a) → Q (some z) h') : OkN E YX7_freeTable (d + 2) mc ms [.ref O] h Q := by
  refine rnX7_freeTable ?_
  obtain ⟨k1, k2, k3, ⟨k4, k5⟩, k6, k7, k8, k9, k10, k11, k12⟩ := id C
  -- a new table at the heap's end, the place's field written
  have make : ∀ (h3 h7 : Hp) (k : Nat), TR E h3 h.1 → h3.1 = h.1 + 9 → (∀ a, a < h.1 → h3.2 a = h.2 a) → h7 = pF h3 O k (.ref h.1) → h7.1 = h.1 + 9 ∧ TR E h7 h.1 ∧ ∀ a, a < h.1 → a ≠ O → h7.2 a = h.2 a := fun h3 h7 k T3 s3 u3 e7 => by
    have hO := (k11 O (Or.inl ⟨by omega, by omega⟩)).1
    rw [e7]
    refine ⟨s3, T3.of (fun j hj => ?_), fun a ha hne => ?_⟩
    · have : h.1 + j ≠ O := by omega
      simp [pF, this]
    · simp [pF, hne, u3 a ha]
  cases c1 with
  | none =>
    have bkf : bk ≠ some false := fun z => by
      rw [z] at k8
      revert k8
      cases sK s with
      | none => intro q; cases q.1
      | some k => intro q; have := q.2.1 rfl; rw [q.1] at this; cases this
    simp only [vcX7_freeTable_0, C.fs, true_and]
    refine ⟨fun z hz => (by cases hz), fun _ => ⟨⟨by simp only [dl] at hcm; omega, by simp only [dl] at hcm; omega⟩, fun h1 e1 => ?_⟩⟩
    subst e1
    refine ⟨8, 33626, ⟨by simp only [dl] at hcm; omega, by simp only [dl] at hcm; omega⟩, c_tableInit (hb := h) ⟨Nat.le_refl _, Nat.le_refl _⟩ (fun h3 T3 s3 u3 => ?_)⟩
    have hO := (k11 O (Or.inl ⟨by omega, by omega⟩)).1
    have e3 := (u3 O hO).trans k1
    refine ⟨⟨_, e3, Nat.le_of_ble_eq_true rfl⟩, fun h7 e7 => ?_⟩
    obtain ⟨m1, m2, m3⟩ := make h3 h7 2 T3 s3 u3 e7
    have f7 : h7.2 O = some (.inr (7, objf O (sL s) (some h.1) (slA c2) (slA (pick none c2 bt)) (slA (pick none c2 bk)) (sK s).isSome)) := by rw [e7]; simp [pF, e3]; rfl
    have pk : ∀ b, b ≠ some false → pick (some (h.1, none)) c2 b = pick none c2 b := fun b hb => by
      cases b with
      | none => rfl
      | some b => cases b with
        | false => exact absurd rfl hb
        | true => rfl
    have btf : bt ≠ some false := fun z => by
      rw [z] at k6
      have := k6.2 rfl
      rw [k6.1] at this; cases this
    have C7 : CT E h7 O M s (some (h.1, none)) c2 bt bk := by
      have e0 : ∀ j, 0 < j → j < 6 → h7.2 (O + j) = h.2 (O + j) := fun j h0 hj => m3 _ (k11 _ (Or.inl ⟨by omega, by omega⟩)).1 (by omega)
      refine ⟨?_, k2.of (e0 1 (by omega) (by omega)), k3.of (e0 2 (by omega) (by omega)) (e0 3 (by omega) (by omega)), ⟨m2, k5.of (fun a ha => m3 a (k11 a (Or.inr (Or.inr ha))).1 (by have := k10 a (Or.inr ha); omega))⟩, ?_, k7, ?_, fun a ha hb => ?_, fun a ha => ?_, fun a ha => ?_, by omega⟩
      · rw [pk bt btf, pk bk bkf]; exact f7
      · rw [pk bt btf]; exact k6
      · have := k8.of (h' := h7) (e0 4 (by omega) (by omega)) (e0 5 (by omega) (by omega))
        revert this
        unfold KPV
        cases sK s with
        | none => exact fun q => q
        | some k => rw [pk bk bkf]; exact fun q => q
      · have ha : h.1 ≤ a ∧ a < h.1 + 9 := ha
        have := (k11 a (Or.inr (Or.inr hb))).1
        omega
      · rcases ha with ha | ha
        · have ha : h.1 ≤ a ∧ a < h.1 + 9 := ha
          have := (k11 (O + 5) (Or.inl ⟨by omega, by omega⟩)).1
          omega
        · exact k10 a (Or.inr ha)
      · rcases ha with ha | ha | ha
        · have := k11 a (Or.inl ha); exact ⟨by omega, this.2⟩
        · have ha : h.1 ≤ a ∧ a < h.1 + 9 := ha
          exact ⟨by omega, by omega⟩
        · have := k11 a (Or.inr (Or.inr ha)); exact ⟨by omega, this.2⟩
    have out := hq h7 h.1 false (some (h.1, none)) c2 C7 rfl bkf (by simp only [tn, dl]; omega) (by omega) m3
    rw [vcX7_freeTable_18]
    simp only [C7.fs, true_and]
    refine ⟨⟨by simp only [dl] at hcm; omega, by simp only [dl] at hcm; omega⟩, fun z => ?_, fun _ => out⟩
    exfalso
    cases bk with
    | none => cases z
    | some b => cases b with
      | false => exact bkf rfl
      | true =>
        have z : slA c2 = some h.1 := z
        cases c2 with
        | none => cases z
        | some x =>
          obtain ⟨t2, y⟩ := x
          cases z
          have : slW (some (h.1, y)) h.1 := by
            cases y with
            | none => exact ⟨Nat.le_refl _, by omega⟩
            | some y => exact Or.inl ⟨Nat.le_refl _, by omega⟩
          have := (k11 h.1 (Or.inr (Or.inr this))).1
          omega
  | some x1 =>
    obtain ⟨t1, y1⟩ := x1
    have w1 : slW (some (t1, y1)) t1 := by
      cases y1 with
      | none => exact ⟨Nat.le_refl _, by omega⟩
      | some y => exact Or.inl ⟨Nat.le_refl _, by omega⟩
    simp only [vcX7_freeTable_0, C.fs, true_and]
    refine ⟨fun z hz => ?_, fun z => by cases z⟩
    rw [vcX7_freeTable_18]
    simp only [C.fs, true_and]
    have isF : slA (pick (some (t1, y1)) c2 bk) = slA (some (t1, y1)) → bk = some false := fun z => by
      cases bk with
      | none => cases z
      | some b => cases b with
        | false => rfl
        | true =>
          exfalso
          have z : slA c2 = some t1 := z
          cases c2 with
          | none => cases z
          | some x =>
            obtain ⟨t2, y⟩ := x
            have ht : t2 = t1 := Option.some.inj z
            have : slW (some (t2, y)) t1 := by
              rw [ht]
              cases y with
              | none => exact ⟨Nat.le_refl _, by omega⟩
              | some y => exact Or.inl ⟨Nat.le_refl _, by omega⟩
            exact k9 t1 w1 this
    refine ⟨⟨Nat.zero_le _, Nat.zero_le _⟩, fun z => ?_, fun z => ?_⟩
    · have hb := isF z
      subst hb
      cases c2 with
      | some x2 =>
        refine ⟨fun z2 hz2 => ?_, fun z2 => by cases z2⟩
        obtain ⟨t2, y2⟩ := x2
        exact hq h t2 true _ _ C rfl (by decide) (by simp only [dl]; omega) (Nat.le_refl _) (fun _ _ _ => rfl)
      | none =>
        refine ⟨fun z2 hz2 => (by cases hz2), fun _ => ⟨⟨by simp only [dl] at hcm; omega, by simp only [dl] at hcm; omega⟩, fun h1 e1 => ?_⟩⟩
        subst e1
        refine ⟨8, 33626, ⟨by simp only [dl] at hcm; omega, by simp only [dl] at hcm; omega⟩, c_tableInit (hb := h) ⟨Nat.le_refl _, Nat.le_refl _⟩ (fun h3 T3 s3 u3 => ?_)⟩
        have hO := (k11 O (Or.inl ⟨by omega, by omega⟩)).1
        have e3 := (u3 O hO).trans k1
        refine ⟨⟨_, e3, Nat.le_of_ble_eq_true rfl⟩, fun h7 e7 => ?_⟩
        obtain ⟨m1, m2, m3⟩ := make h3 h7 3 T3 s3 u3 e7
        have btf : bt ≠ some true := fun z => by
          rw [z] at k6
          have := k6.2 rfl
          rw [k6.1] at this; cases this
        have f7 : h7.2 O = some (.inr (7, objf O (sL s) (some t1) (some h.1) (slA (pick (some (t1, y1)) none bt)) (some t1) (sK s).isSome)) := by rw [e7]; simp [pF, e3]; rfl
        have pk : ∀ b, b ≠ some true → pick (some (t1, y1)) (some (h.1, none)) b = pick (some (t1, y1)) none b := fun b hb => by
          cases b with
          | none => rfl
          | some b => cases b with
            | false => rfl
            | true => exact absurd rfl hb
        have C7 : CT E h7 O M s (some (t1, y1)) (some (h.1, none)) bt (some false) := by
          have e0 : ∀ j, 0 < j → j < 6 → h7.2 (O + j) = h.2 (O + j) := fun j h0 hj => m3 _ (k11 _ (Or.inl ⟨by omega, by omega⟩)).1 (by omega)
          refine ⟨?_, k2.of (e0 1 (by omega) (by omega)), k3.of (e0 2 (by omega) (by omega)) (e0 3 (by omega) (by omega)), ⟨k4.of (fun a ha => m3 a (k11 a (Or.inr (Or.inl ha))).1 (by have := k10 a (Or.inl ha); omega)), m2⟩, ?_, k7, ?_, fun a ha hb => ?_, fun a ha => ?_, fun a ha => ?_, by omega⟩
          · rw [pk bt btf]; exact f7
          · rw [pk bt btf]; exact k6
          · exact k8.of (h' := h7) (e0 4 (by omega) (by omega)) (e0 5 (by omega) (by omega))
          · have hb : h.1 ≤ a ∧ a < h.1 + 9 := hb
            have := (k11 a (Or.inr (Or.inl ha))).1
            omega
          · rcases ha with ha | ha
            · exact k10 a (Or.inl ha)
            · have ha : h.1 ≤ a ∧ a < h.1 + 9 := ha
              have := (k11 (O + 5) (Or.inl ⟨by omega, by omega⟩)).1
              omega
          · rcases ha with ha | ha | ha
            · have := k11 a (Or.inl ha); exact ⟨by omega, this.2⟩
            · have := k11 a (Or.inr (Or.inl ha)); exact ⟨by omega, this.2⟩
            · have ha : h.1 ≤ a ∧ a < h.1 + 9 := ha
              exact ⟨by omega, by omega⟩
        simp only [C7.fs, true_and]
        exact hq h7 h.1 true _ _ C7 rfl (by decide) (by simp only [tn, dl]) (by omega) m3
    · have nf : bk ≠ some false := fun q => z (by rw [q]; rfl)
      have d0 : dl (some (t1, y1)) c2 bk = 0 := by
        cases bk with
        | none => cases c2 <;> rfl
        | some b => cases b with
          | false => exact absurd rfl nf
          | true => cases c2 <;> rfl
      exact hq h t1 false _ _ C rfl nf (by rw [d0, Nat.add_zero]) (Nat.le_refl _) (fun _ _ _ => rfl)
end
