theorem n_kb : ∀ s, s < 8 → (nI s &&& 1 = (0 : Int32) ↔ s.testBit 0 = false) ∧ (nI s &&& 2 = (0 : Int32) ↔ s.testBit 1 = false) ∧ (nI s &&& 4 = (0 : Int32) ↔ s.testBit 2 = false) := by decide +kernel
def tnW (w h s p : Nat) : Nat := if p = w * h then p else if s.testBit 2 = true then (if s.testBit 0 = true then w - 1 - p % w else p % w) * w + (if s.testBit 1 = true then h - 1 - p / w else p / w) else (if s.testBit 1 = true then h - 1 - p / w else p / w) * w + (if s.testBit 0 = true then w - 1 - p % w else p % w)
def tnC (w h s : Nat) : Bool := (s.testBit 2 && decide (w ≠ h)) || (((List.range (w * h)).all fun q => (List.range (w * h)).any fun p => tnW w h s p == q) && ((List.range (w * h)).all fun q => (List.range (w * h)).all fun p => (p == q) || !(tnW w h s p == tnW w h s q)))
theorem tn_all : ((List.range 7).all fun w => (List.range 7).all fun h => decide (12 < w * h) || (List.range 8).all fun s => tnC w h s) = true := by decide +kernel
theorem tn_ok {g : Gm} (w : qF g) {s : Nat} (hs : s < 8) (hsw : s.testBit 2 = true → qw g = qh g) : (∀ q, q < sq g → ∃ p, p < sq g ∧ trn g s p = q) ∧ ∀ p q, p < sq g → q < sq g → trn g s p = trn g s q → p = q := by
  have h1 := List.all_eq_true.mp tn_all (qw g) (List.mem_range.mpr (by have := w.2.1; omega))
  have h2 := List.all_eq_true.mp h1 (qh g) (List.mem_range.mpr (by have := w.2.2.2.1; omega))
  rw [decide_eq_false (by have := w.2.2.2.2.1; omega), Bool.false_or] at h2
  have h3 := List.all_eq_true.mp h2 s (List.mem_range.mpr hs)
  have h4 : (s.testBit 2 && decide (qw g ≠ qh g)) = false := by
    by_cases c : s.testBit 2 = true
    · simp [hsw c]
    · simp [show s.testBit 2 = false by simpa using c]
  rw [tnC, h4, Bool.false_or, Bool.and_eq_true] at h3
  refine ⟨fun q hq => ?_, fun p q hp hq e => ?_⟩
  · obtain ⟨p, h5, h6⟩ := List.any_eq_true.mp (List.all_eq_true.mp h3.1 q (List.mem_range.mpr hq))
    exact ⟨p, List.mem_range.mp h5, beq_iff_eq.mp h6⟩
  · have h5 := List.all_eq_true.mp (List.all_eq_true.mp h3.2 q (List.mem_range.mpr hq)) p (List.mem_range.mpr hp)
    have e' : tnW (qw g) (qh g) s p = tnW (qw g) (qh g) s q := e
    rw [e'] at h5
    simpa using h5
def imgN (g : Gm) (s : Nat) : Nat → Nat
  | 0 => 0
  | p + 1 => if (qo g).testBit p = true then imgN g s p ||| 2 ^ trn g s p else imgN g s p
theorem imgN_bit (g : Gm) (s q : Nat) : ∀ n, (imgN g s n).testBit q = true ↔ ∃ p, p < n ∧ (qo g).testBit p = true ∧ trn g s p = q
  | 0 => by simp [imgN]
  | n + 1 => by
    have ih := imgN_bit g s q n
    rw [imgN]
    by_cases c : (qo g).testBit n = true
    · rw [if_pos c, Nat.testBit_or, Bool.or_eq_true, ih, Nat.testBit_two_pow, decide_eq_true_eq]
      constructor
      · rintro (⟨p, h1, h2, h3⟩ | h)
        · exact ⟨p, by omega, h2, h3⟩
        · exact ⟨n, by omega, c, h⟩
      · rintro ⟨p, h1, h2, h3⟩
        by_cases e : p = n
        · subst e; exact Or.inr h3
        · exact Or.inl ⟨p, by omega, h2, h3⟩
    · rw [if_neg c, ih]
      constructor
      · rintro ⟨p, h1, h2, h3⟩
        exact ⟨p, by omega, h2, h3⟩
      · rintro ⟨p, h1, h2, h3⟩
        by_cases e : p = n
        · subst e; exact absurd h2 c
        · exact ⟨p, by omega, h2, h3⟩
theorem ho_bit {g : Gm} (w : qF g) {q : Nat} (h : (qo g).testBit q = true) : q < sq g := by
  have h1 : qo g < 2 ^ sq g := w.2.2.2.2.2.2.2.2.2.1
  rcases Nat.lt_or_ge q (sq g) with c | c
  · exact c
  · rw [Nat.testBit_lt_two_pow (Nat.lt_of_lt_of_le h1 (Nat.pow_le_pow_right (by omega) c))] at h; cases h
theorem imgN_eq {g : Gm} (w : qF g) {s : Nat} (hs : s < 8) (hsw : s.testBit 2 = true → qw g = qh g) : imgN g s (sq g) = qo g ↔ isSyN g s (sq g) = true := by
  obtain ⟨h1, h2⟩ := tn_ok w hs hsw
  have e : isSyN g s (sq g) = true ↔ ∀ p, p < sq g → ((qo g).testBit p = true ↔ (qo g).testBit (trn g s p) = true) := by
    unfold isSyN
    rw [List.all_eq_true]
    constructor
    · intro h p hp
      have := h p (List.mem_range.mpr hp)
      rw [beq_iff_eq] at this
      rw [this]
    · intro h p hp
      have := h p (List.mem_range.mp hp)
      rw [beq_iff_eq, Bool.eq_iff_iff]
      exact this
  rw [e]
  constructor
  · intro h p hp
    constructor
    · intro c
      rw [← h]
      exact (imgN_bit g s _ _).mpr ⟨p, hp, c, rfl⟩
    · intro c
      rw [← h] at c
      obtain ⟨p', a1, a2, a3⟩ := (imgN_bit g s _ _).mp c
      rw [← h2 p' p a1 hp a3]; exact a2
  · intro h
    refine Nat.eq_of_testBit_eq (fun q => ?_)
    rw [Bool.eq_iff_iff, imgN_bit]
    constructor
    · rintro ⟨p, a1, a2, a3⟩
      rw [← a3]; exact (h p a1).mp a2
    · intro c
      obtain ⟨p, a1, a2⟩ := h1 q (ho_bit w c)
      refine ⟨p, a1, ?_, a2⟩
      rw [h p a1, a2]; exact c
theorem imgN_lt {g : Gm} (w : qF g) {s : Nat} (hsw : s.testBit 2 = true → qw g = qh g) : ∀ n, n ≤ sq g → imgN g s n < 4096
  | 0, _ => by show 0 < 4096; omega
  | n + 1, hn => by
    have ih := imgN_lt w hsw n (by omega)
    rw [imgN]
    have := w.sq_lt
    have := trn_lt w (s := s) (p := n) hsw (by omega)
    split
    · exact Nat.or_lt_two_pow (n := 12) ih (Nat.pow_lt_pow_right (by omega) (by omega))
    · exact ih
section
variable {E : Wd} {h : Hp} {y r a s b : Nat} {g : Gm} {d : Nat} {l : List Nat} {F : Nat → Int32}
def WI (E : Wd) (g : Gm) (h : Hp) (a s b : Nat) (F : Nat → Int32) (p : Nat) (h' : Hp) : Prop := h'.1 = h.1 ∧ (∀ c, c ≠ a → h'.2 c = h.2 c) ∧ ∃ F', h'.2 a = some (.inl (eA E 0, 104, .inl F')) ∧ (∀ i, i < b → F' i = F i) ∧ ∀ q, q < p → F' (b + q) = nI (trn g s q)
theorem WI.st {p : Nat} {h' : Hp} (W : WI E g h a s b F p h') (hp : b + p < 104) : okR E h' a 0 (nI (b + p)) ∧ WI E g h a s b F (p + 1) (sA h' a (nI (b + p)) (nI (trn g s p))) := by
  obtain ⟨w1, w2, F', w3, w4, w5⟩ := W
  refine ⟨⟨_, _, w3, vpn hp⟩, w1, fun c hc => ?_, upd F' (b + p) (nI (trn g s p)), ?_, fun i hi => ?_, fun q hq => ?_⟩
  · simp only [sA, hc, if_false]; exact w2 c hc
  · have := sA_of (i := nI (b + p)) (x := nI (trn g s p)) w3
    rw [n_cl] at this; exact this
  · have : i ≠ b + p := by omega
    simp only [upd, this, if_false]; exact w4 i hi
  · by_cases c : q = p
    · subst c; simp [upd]
    · have : b + q ≠ b + p := by omega
      simp only [upd, this, if_false]; exact w5 q (by omega)
theorem c_writeMap {Q : Int32 → Hp → Prop} (K : Kr E h r g) (w : qF g) (hs : s < 8) (hsw : s.testBit 2 = true → qw g = qh g) (ha : a ≠ r ∧ a ≠ r + 1 ∧ a ≠ r + 2) (e : h.2 a = some (.inl (eA E 0, 104, .inl F))) (hb : b + 13 ≤ 104) (hq : ∀ h', WI E g h a s b F (sq g + 1) h' → Q (bI (isSyN g s (sq g))) h') : OkI E YX5_writeMap d [.ref r, .int (nI s), .ref a, .int (nI b)] h Q := by
  refine rnX5_writeMap (fun K29 k29 => ?_)
  have hsq := w.sq_lt
  have hw := w.1
  have hw6 := w.2.1
  have hh6 := w.2.2.2.1
  have ho := w.ho
  have hwz : ¬ nI (qw g) = 0 := nI_ne0 (by omega) (by omega)
  have Kf : ∀ {p h'}, WI E g h a s b F p h' → Kr E h' r g := fun W => K.of (fun j hj => W.2.1 _ (by omega))
  have main := lp_up (K := fun p => ∀ h', WI E g h a s b F p h' → K29 r (nI s) a (nI b) (nI (imgN g s p)) (nI p) h') (sq g) (fun p hp ih h' W => ?_) (fun h' W => ?_) 0 (Nat.zero_le _)
  · have lA' : lA h a = nI 104 := by simp [lA, e, nI]
    have K1 := K.fs
    rw [vcX5_writeMap_0]
    simp only [K1, true_and, show (13 : Int32) = nI 13 from rfl, nI_add, lA']
    refine ⟨fun q => absurd q (nI_pos (by omega)), fun _ => ⟨⟨_, e⟩, fun q => absurd q (by rw [nI_ltI (by omega) (by omega)]; omega), fun _ => ⟨fun _ => ?_, fun q => absurd (nI_le (a := 1) (b := qw g) (by omega) (by omega)) q⟩⟩⟩
    exact main h ⟨rfl, fun _ _ => rfl, F, e, fun _ _ => rfl, fun q hq => absurd hq (Nat.not_lt_zero _)⟩
  · refine k29 _ _ _ _ _ _ _ ?_
    have Kh := Kf W
    have hX := trXY w s p hp
    have ht := trn_lt w (s := s) hsw hp
    have hib := imgN_lt w hsw p (by omega)
    obtain ⟨b0, b1, b2⟩ := n_kb s hs
    have L126 : vcX5_writeMap_126 E d K29 r (nI s) a (nI b) (nI (imgN g s p)) (nI p) (nI (trn g s p)) h' Q := by
      obtain ⟨q1, q2⟩ := W.st (s := s) (show b + p < 104 by omega)
      rw [vcX5_writeMap_126, nI_add]
      refine ⟨q1, fun h1 e1 => ?_⟩
      rw [← e1] at q2
      clear e1
      simp only [(Kf q2).fs, true_and, nI_1]
      rw [n_has0 (by omega) (by omega), n_shl _ (by omega), nx_or]
      have ih := ih h1 q2
      rw [imgN] at ih
      refine ⟨fun c => ?_, fun c => ?_⟩
      · rw [if_neg (by rw [c]; decide)] at ih; exact ih
      · rw [if_pos (by simpa using c)] at ih; exact ih
    have L97 : vcX5_writeMap_97 E d K29 r (nI s) a (nI b) (nI (imgN g s p)) (nI p) (nI (trX g s p)) (nI (trY g s p)) h' Q := by
      rw [vcX5_writeMap_97]
      simp only [Kh.fs, true_and, b2, pk_mul, nI_add]
      have et : trn g s p = if s.testBit 2 = true then trX g s p * qw g + trY g s p else trY g s p * qw g + trX g s p := by
        unfold trn; rw [if_neg (by omega)]
      rw [et] at L126
      refine ⟨fun c => ?_, fun c => ?_⟩
      · rw [if_neg (by rw [c]; decide)] at L126; exact L126
      · rw [if_pos (by simpa using c)] at L126; exact L126
    have hpw : p / qw g < qh g := by rw [Nat.div_lt_iff_lt_mul (by omega), Nat.mul_comm]; exact hp
    have L80 : vcX5_writeMap_80 E d K29 r (nI s) a (nI b) (nI (imgN g s p)) (nI p) (nI (trX g s p)) (nI (p / qw g)) h' Q := by
      rw [vcX5_writeMap_80]
      simp only [Kh.fs, true_and, b1]
      refine ⟨fun c => ?_, fun c => ?_⟩
      · rw [trY, if_neg (by rw [c]; decide)] at L97; exact L97
      · rw [n_lit1, n_sub (show 1 ≤ qh g by omega), n_sub (by generalize p / qw g = z at hpw ⊢; omega)]
        rw [trY, if_pos (by simpa using c)] at L97; exact L97
    rw [vcX5_writeMap_29]
    simp only [Kh.fs, true_and, nI_leI (show sq g < 2 ^ 31 by omega) (show p < 2 ^ 31 by omega)]
    refine ⟨fun q => absurd q (by omega), fun _ => ⟨fun q => absurd q (nI_ge (a := p) (b := 13) (by omega) (by omega)), fun _ => ⟨hwz, hwz, ?_⟩⟩⟩
    rw [pk_rem (show p < 2 ^ 31 by omega) (by omega) (by omega), pk_div (show p < 2 ^ 31 by omega) (by omega) (by omega), b0]
    have h1 : p % qw g < qw g := Nat.mod_lt _ (by omega)
    refine ⟨fun c => ?_, fun c => ?_⟩
    · rw [trX, if_neg (by rw [c]; decide)] at L80; exact L80
    · rw [n_lit1, n_sub (show 1 ≤ qw g by omega), n_sub (by omega)]
      rw [trX, if_pos (by simpa using c)] at L80; exact L80
  · refine k29 _ _ _ _ _ _ _ ?_
    have Kh := Kf W
    have hib := imgN_lt w hsw (sq g) (Nat.le_refl _)
    have L184 : ∀ h', WI E g h a s b F (sq g + 1) h' → vcX5_writeMap_184 E d K29 r (nI (imgN g s (sq g))) h' Q := fun h' W => by
      rw [vcX5_writeMap_184]
      have hq := hq h' W
      simp only [(Kf W).fs, true_and]
      rw [nI_eq (by omega) (by omega), imgN_eq w hs hsw]
      refine ⟨fun c => ⟨Or.inl rfl, ?_⟩, fun c => ⟨Or.inr rfl, ?_⟩⟩
      · rw [show isSyN g s (sq g) = false by simpa using c] at hq; exact hq
      · rw [c] at hq; exact hq
    rw [vcX5_writeMap_29]
    simp only [Kh.fs, true_and]
    refine ⟨fun _ => ?_, fun q => absurd (nI_le (Nat.le_refl _) (by omega)) q⟩
    rw [vcX5_writeMap_163]
    simp only [Kh.fs, true_and, nI_add]
    obtain ⟨q1, q2⟩ := W.st (s := s) (show b + sq g < 104 by omega)
    rw [show trn g s (sq g) = sq g by unfold trn; rw [if_pos rfl]] at q2
    refine ⟨fun q => absurd q (nI_ge (a := sq g) (b := 13) (by omega) (by omega)), fun _ => ⟨q1, fun h1 e1 => ?_⟩⟩
    rw [← e1] at q2
    exact L184 _ q2
end
