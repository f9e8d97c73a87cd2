theorem occN_ocF (g : Gm) (P : Nat → Nat) : ∀ n, occN g P n = qo g ||| ocF g P n
  | 0 => by rw [occN, ocF, Nat.or_zero]
  | n + 1 => by
    rw [occN, ocF, occN_ocF g P n]
    split
    · rw [Nat.or_assoc]
    · rw [Nat.or_zero, Nat.or_zero]
theorem ocF_qn {g : Gm} (w : qF g) {P : Nat → Nat} (h : ∀ m, m < 3 → ¬ m < qn g → P m = sq g) : ocF g P 3 = ocF g P (qn g) := by
  have hn : qn g ≤ 3 := w.2.2.2.2.2.2.1
  have : ∀ k, qn g ≤ k → k ≤ 3 → ocF g P k = ocF g P (qn g) := by
    intro k
    induction k with
    | zero => intro h1 _; rw [show qn g = 0 by omega]
    | succ k ih =>
      intro h1 h2
      by_cases c : qn g = k + 1
      · rw [c]
      · rw [ocF, if_neg (by rw [h k (by omega) (by omega)]; omega), Nat.or_zero]
        exact ih (by omega) (by omega)
  exact this 3 hn (Nat.le_refl _)
theorem rch_o {g : Gm} {m f t o : Nat} {cap : Bool} (hk : qk g m < 10) : rch g m f t o cap = (rch g m f t 0 cap && (wyM g m f t &&& o == 0)) := by
  have clr0 : clr (qw g) f t 0 = true := by unfold clr; rw [Nat.and_zero]; rfl
  unfold rch wyM
  rw [clr0]
  have e : clr (qw g) f t o = (way (qw g) f t &&& o == 0) := rfl
  rw [e]
  generalize qk g m = k at hk ⊢
  have hk' : k = 0 ∨ k = 1 ∨ k = 2 ∨ k = 3 ∨ k = 4 ∨ k = 5 ∨ k = 6 ∨ k = 7 ∨ k = 8 ∨ k = 9 := by omega
  rcases hk' with rfl | rfl | rfl | rfl | rfl | rfl | rfl | rfl | rfl | rfl <;> simp
theorem or_and0 {a b c : Nat} : a &&& (b ||| c) = 0 ↔ a &&& b = 0 ∧ a &&& c = 0 := by
  rw [Nat.and_or_distrib_left, Nat.or_eq_zero_iff]
theorem wyM_lt {g : Gm} (w : qF g) {m f t : Nat} {cap : Bool} (hf : f < sq g) (ht : t < sq g) (hr : rch g m f t 0 cap = true) : wyM g m f t < 4096 := by
  unfold wyM
  split
  · rename_i q
    have hsq := w.sq_lt
    have hl : lineB (qw g) f t = true := by
      unfold rch at hr
      unfold lineB
      have clr0 : clr (qw g) f t 0 = true := by unfold clr; rw [Nat.and_zero]; rfl
      rw [clr0] at hr
      have : qk g m = 5 ∨ qk g m = 6 ∨ qk g m = 7 := by omega
      rcases this with e | e | e <;> rw [e] at hr <;> simp at hr ⊢ <;> grind
    have hw := w.1
    have hw6 := w.2.1
    obtain ⟨-, g2, -⟩ := geo (qw g) (by omega) hw f (by omega) t (by omega) hl
    have h1 : way (qw g) f t < 2 ^ sq g := wayN_lt w hf ht hl _ (by omega)
    have h2 : 2 ^ sq g ≤ 2 ^ 12 := Nat.pow_le_pow_right (by omega) hsq.1
    omega
  · omega
/-- a way of the class is free -/
def wfr (g : Gm) (m f t o : Nat) (cap : Bool) : Bool := decide (m < qn g ∧ f < sq g ∧ t < sq g) && wyB g m f t cap && (wyM g m f t &&& o == 0)
theorem wfr_c {g : Gm} (w : qF g) {m f t o : Nat} {cap : Bool} (ho : o < 4096) : (wyX g m f t cap < 0 → wfr g m f t o cap = false) ∧ (¬ wyX g m f t cap < 0 → (wyX g m f t cap &&& nI o = 0 ↔ wfr g m f t o cap = true)) := by
  unfold wyX wfr
  by_cases c : m < qn g ∧ f < sq g ∧ t < sq g
  · rw [if_pos c, decide_eq_true c, Bool.true_and]
    unfold wy
    by_cases c2 : wyB g m f t cap = true
    · rw [if_pos c2, c2, Bool.true_and]
      have hr : rch g m f t 0 cap = true := by
        unfold wyB at c2
        simp only [Bool.and_eq_true] at c2
        exact c2.1.2
      have hlt := wyM_lt w c.2.1 c.2.2 hr
      refine ⟨fun q => absurd q (nI_pos (by omega)), fun _ => ?_⟩
      rw [nx_and, show (0 : Int32) = nI 0 from rfl, nI_eq (Nat.lt_of_le_of_lt Nat.and_le_left (by omega)) (by omega), beq_iff_eq]
    · rw [if_neg c2, show wyB g m f t cap = false by simpa using c2]
      exact ⟨fun _ => rfl, fun q => absurd (by decide) q⟩
  · rw [if_neg c, decide_eq_false c]
    exact ⟨fun _ => rfl, fun q => absurd (by decide) q⟩
theorem wfr_rch {g : Gm} (w : qF g) {P : Nat → Nat} {m f t : Nat} {cap : Bool} (hm : m < qn g) (hf : f < sq g) (ht : t < sq g) (hne : f ≠ t) (hh : (qo g).testBit t = false) : wfr g m f t (ocF g P (qn g)) cap = rch g m f t (occ g P) cap := by
  have hk : qk g m < 10 := w.2.2.2.2.2.2.2.2.2.2 m
  rw [rch_o hk, occ, occN_ocF]
  unfold wfr wyB
  rw [decide_eq_true (show m < qn g ∧ f < sq g ∧ t < sq g from ⟨hm, hf, ht⟩), decide_eq_true hne, hh, Bool.true_and, Bool.true_and, Bool.not_false, Bool.true_and, Bool.and_assoc]
  congr 1
  rw [Bool.eq_iff_iff]
  simp only [Bool.and_eq_true, beq_iff_eq]
  exact or_and0.symm
theorem attN_iff (g : Gm) (P : Nat → Nat) (t b : Nat) : ∀ n, attN g P t b n = true ↔ ∃ m, m < n ∧ iof g m b = true ∧ P m < sq g ∧ rch g m (P m) t (occ g P) true = true
  | 0 => ⟨fun h => (by cases h), fun ⟨m, h, _⟩ => absurd h (Nat.not_lt_zero _)⟩
  | n + 1 => by
    rw [attN, Bool.or_eq_true, attN_iff g P t b n]
    simp only [Bool.and_eq_true, decide_eq_true_eq, and_assoc]
    constructor
    · rintro (⟨m, h1, h2⟩ | h)
      · exact ⟨m, by omega, h2⟩
      · exact ⟨n, by omega, h⟩
    · rintro ⟨m, h1, h2⟩
      by_cases c : m = n
      · subst c; exact Or.inr h2
      · exact Or.inl ⟨m, by omega, h2⟩
theorem iof_range {g : Gm} (w : qF g) {m b : Nat} (hb : b < 2) (hm : m < qn g) : iof g m b = true ↔ roy g b ≤ m ∧ m < eom g b := by
  have hq := w.2.2.2.2.2.2.2.2.1
  have : b = 0 ∨ b = 1 := by omega
  unfold iof roy eom
  rcases this with rfl | rfl
  · simp
  · simp
    exact fun _ => hm
section
variable {E : Wd} {h : Hp} {p r c s o : Nat} {g : Gm} {d : Nat} {P : Nat → Nat}
theorem c_isAttacked {Q : Int32 → Hp → Prop} {s' : Nat} (K : Kp E h p r c g P s o) (w : qF g) (hs : s' < 2) (hC : posC g P) (ho : o = ocF g P (qn g)) (hq : Q (bI (chk g P s')) h) : OkI E YX1_isAttacked (d + 1) [.ref p, .int (nI s')] h Q := by
  refine rnX1_isAttacked (fun K27 k27 => ?_)
  have hn : qn g ≤ 3 := w.2.2.2.2.2.2.1
  have hb := w.2.2.2.2.2.2.2.2.1
  have hb1 := w.2.2.2.2.2.2.2.1
  have hsq := w.sq_lt
  obtain ⟨C1, C2, C3, C4⟩ := hC
  have hroy : ∀ b, b < 2 → roy g b < qn g := fun b hb2 => by
    have : b = 0 ∨ b = 1 := by omega
    unfold roy
    rcases this with rfl | rfl
    · simp; omega
    · simp; omega
  have heom : ∀ b, b < 2 → eom g b ≤ qn g ∧ roy g b ≤ eom g b := fun b hb2 => by
    have : b = 0 ∨ b = 1 := by omega
    unfold roy eom
    rcases this with rfl | rfl
    · simp; omega
    · simp; omega
  have ht := C1 s' hs
  have hr := hroy s' hs
  have hh := C2 _ hr ht
  have ho4 : o < 4096 := by rw [ho]; exact ocF_lt w P _
  simp only [vcX1_isAttacked_0, K.fs, true_and]
  refine ⟨⟨_, K.1.1⟩, c_firstMan K.1 (by omega) ⟨⟨_, K.2.2.1⟩, c_placeOf K (show roy g s' < 3 by omega) ?_⟩⟩
  simp only [K.fs, true_and]
  rw [show (1 : Int32) - nI s' = nI (1 - s') from n_sub (show s' ≤ 1 by omega)]
  refine ⟨⟨_, K.1.1⟩, c_firstMan K.1 (by omega) ?_⟩
  obtain ⟨b, eb⟩ : ∃ b, 1 - s' = b := ⟨_, rfl⟩
  have hb2 : b < 2 := by omega
  have hchk : chk g P s' = attN g P (P (roy g s')) b (qn g) := by rw [← eb]; rfl
  rw [eb]
  have key : ∀ m, m < qn g → iof g m b = true → (wfr g m (P m) (P (roy g s')) o true = true ↔ (iof g m b = true ∧ P m < sq g ∧ rch g m (P m) (P (roy g s')) (occ g P) true = true)) := fun m hm hi => by
    by_cases c2 : P m < sq g
    · have hne : m ≠ roy g s' := by
        intro e
        have r1 := (iof_range w hb2 hm).mp hi
        have : s' = 0 ∨ s' = 1 := by omega
        unfold roy eom at r1
        unfold roy at e
        rcases this with rfl | rfl
        · have : b = 1 := by omega
          subst this
          simp at r1 e
          omega
        · have : b = 0 := by omega
          subst this
          simp at r1 e
          omega
      rw [ho, wfr_rch w hm c2 ht (C3 m _ hm hr hne c2) hh]
      exact ⟨fun q => ⟨hi, c2, q⟩, fun q => q.2.2⟩
    · unfold wfr
      rw [decide_eq_false (fun q => c2 q.2.1)]
      exact ⟨fun q => Bool.noConfusion q, fun q => absurd q.2.1 c2⟩
  refine lp_up (K := fun m => roy g b ≤ m → (∀ i, roy g b ≤ i → i < m → wfr g i (P i) (P (roy g s')) o true = false) → K27 p (nI (P (roy g s'))) (nI b) (nI m) h) (eom g b) (fun m hm ih hlo hno => ?_) (fun _ hno => ?_) (roy g b) (heom b hb2).2 (Nat.le_refl _) (fun i h1 h2 => by omega)
  · refine k27 _ _ _ _ _ ?_
    have hmq : m < qn g := Nat.lt_of_lt_of_le hm (heom b hb2).1
    have hi := (iof_range w hb2 hmq).mpr ⟨hlo, hm⟩
    have hPm := K.2.2.2.2.1 m (by omega)
    simp only [vcX1_isAttacked_27, K.fs, true_and]
    refine ⟨⟨_, K.1.1⟩, c_endOfMen K.1 (by omega) ?_⟩
    rw [nI_leI (show eom g b < 2 ^ 31 by have := (heom b hb2).1; omega) (by omega)]
    refine ⟨fun q => absurd q (by omega), fun _ => ?_⟩
    simp only [K.fs, true_and]
    refine c_placeOf K (show m < 3 by omega) ?_
    refine ⟨⟨_, K.2.1.1⟩, c_wayOf (cap := true) K.2.1 w (by omega) (by omega) (by omega) ?_⟩
    obtain ⟨f1, f2⟩ := wfr_c w (m := m) (f := P m) (t := P (roy g s')) (cap := true) ho4
    rw [nI_1]
    have go : wfr g m (P m) (P (roy g s')) o true = false → K27 p (nI (P (roy g s'))) (nI b) (nI (m + 1)) h := fun e => ih (by omega) (fun i h1 h2 => by
      by_cases ei : i = m
      · rw [ei]; exact e
      · exact hno i h1 (by omega))
    refine ⟨fun q => go (f1 q), fun q => ?_⟩
    simp only [K.fs, true_and, f2 q]
    refine ⟨fun q2 => go (by simpa using q2), fun q2 => ⟨Or.inr rfl, ?_⟩⟩
    have : chk g P s' = true := by
      rw [hchk, attN_iff]
      exact ⟨m, hmq, (key m hmq hi).mp q2⟩
    rw [this] at hq; exact hq
  · refine k27 _ _ _ _ _ ?_
    simp only [vcX1_isAttacked_27, K.fs, true_and]
    refine ⟨⟨_, K.1.1⟩, c_endOfMen K.1 (by omega) ⟨fun _ => ⟨Or.inl rfl, ?_⟩, fun q => absurd (nI_le (Nat.le_refl _) (by have := (heom b hb2).1; omega)) q⟩⟩
    have : chk g P s' = false := by
      rw [hchk]
      refine Bool.eq_false_iff.mpr (fun q => ?_)
      obtain ⟨m, h1, h2⟩ := (attN_iff _ _ _ _ _).mp q
      have r1 := (iof_range w hb2 h1).mp h2.1
      have := (key m h1 h2.1).mpr h2
      rw [hno m r1.1 r1.2] at this
      cases this
    rw [this] at hq; exact hq
end
