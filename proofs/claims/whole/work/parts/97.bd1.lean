def way_noE : Bool := (List.range 7).all fun w => decide (w < 2) || (List.range 12).all fun f => (List.range 12).all fun t => !lineB w f t || (!(way w f t).testBit f && !(way w f t).testBit t)
theorem way_no : way_noE = true := by decide +kernel
theorem way_no2 (w : Nat) (h1 : w < 7) (h2 : 2 ≤ w) (f : Nat) (h3 : f < 12) (t : Nat) (h4 : t < 12) (hl : lineB w f t = true) : (way w f t).testBit f = false ∧ (way w f t).testBit t = false := by
  have e := List.all_eq_true.mp way_no w (List.mem_range.mpr h1)
  rw [decide_eq_false (by omega), Bool.false_or] at e
  have e := List.all_eq_true.mp e f (List.mem_range.mpr h3)
  have e := List.all_eq_true.mp e t (List.mem_range.mpr h4)
  rw [hl, Bool.not_true, Bool.false_or, Bool.and_eq_true, Bool.not_eq_true', Bool.not_eq_true'] at e
  exact e
theorem and0_iff (W o : Nat) : (W &&& o == 0) = true ↔ ∀ p, W.testBit p = true → o.testBit p = false := by
  constructor
  · intro h p hp
    have h := beq_iff_eq.mp h
    have := congrArg (fun x => x.testBit p) h
    simpa [Nat.testBit_and, hp] using this
  · intro h
    refine beq_iff_eq.mpr (Nat.eq_of_testBit_eq fun p => ?_)
    rw [Nat.testBit_and, Nat.zero_testBit]
    cases hp : W.testBit p with
    | false => rfl
    | true => rw [h p hp]; rfl
section
variable {g : Gm}
theorem wyM_no (w : qF g) {m f t : Nat} {cap : Bool} (hf : f < sq g) (ht : t < sq g) (hr : rch g m f t 0 cap = true) : (wyM g m f t).testBit f = false ∧ (wyM g m f t).testBit t = false := by
  unfold wyM
  split
  · rename_i hk
    have hsq := w.sq_lt
    refine way_no2 _ (by have := w.2.1; omega) w.1 f (by omega) t (by omega) ?_
    unfold rch at hr
    unfold lineB
    have clr0 : clr (qw g) f t 0 = true := by unfold clr; rw [Nat.and_zero]; rfl
    rw [clr0] at hr
    have : qk g m = 5 ∨ qk g m = 6 ∨ qk g m = 7 := by omega
    rcases this with e | e | e <;> rw [e] at hr <;> simp at hr ⊢ <;> grind
  · simp
theorem rch_mono (w : qF g) {m f t o o' : Nat} {cap : Bool} (hf : f < sq g) (ht : t < sq g) (h : ∀ p, p ≠ f → p ≠ t → o'.testBit p = true → o.testBit p = true) (hr : rch g m f t o cap = true) : rch g m f t o' cap = true := by
  have hk := w.2.2.2.2.2.2.2.2.2.2 m
  rw [rch_o hk, Bool.and_eq_true] at hr ⊢
  refine ⟨hr.1, (and0_iff _ _).mpr fun p hp => ?_⟩
  have hn := wyM_no w hf ht hr.1
  have h1 := (and0_iff _ _).mp hr.2 p hp
  cases c : o'.testBit p with
  | false => rfl
  | true =>
    have := h p (fun e => by rw [e, hn.1] at hp; cases hp) (fun e => by rw [e, hn.2] at hp; cases hp) c
    rw [h1] at this; cases this
end
def sm : Nat → (Nat → Nat) → Nat
  | 0, _ => 0
  | n + 1, f => sm n f + f n
theorem sm_le {n : Nat} {f g : Nat → Nat} (h : ∀ i, i < n → f i ≤ g i) : sm n f ≤ sm n g := by
  induction n with
  | zero => exact Nat.le_refl _
  | succ n ih => exact Nat.add_le_add (ih fun i hi => h i (by omega)) (h n (by omega))
theorem sm_congr {n : Nat} {f g : Nat → Nat} (h : ∀ i, i < n → f i = g i) : sm n f = sm n g := by
  induction n with
  | zero => rfl
  | succ n ih => rw [sm, sm, ih fun i hi => h i (by omega), h n (by omega)]
theorem sm_add (n : Nat) (f g : Nat → Nat) : sm n (fun i => f i + g i) = sm n f + sm n g := by
  induction n with
  | zero => rfl
  | succ n ih => rw [sm, sm, sm, ih]; omega
theorem sm_zero (n : Nat) : sm n (fun _ => 0) = 0 := by
  induction n with
  | zero => rfl
  | succ n ih => rw [sm, ih]
theorem sm_const (n k : Nat) : sm n (fun _ => k) = n * k := by
  induction n with
  | zero => rw [sm, Nat.zero_mul]
  | succ n ih => rw [sm, ih, Nat.succ_mul]
theorem sm_mul (n k : Nat) (f : Nat → Nat) : sm n (fun i => f i * k) = sm n f * k := by
  induction n with
  | zero => rw [sm, sm, Nat.zero_mul]
  | succ n ih => rw [sm, sm, ih, Nat.add_mul]
theorem sm_comm (n m : Nat) (f : Nat → Nat → Nat) : sm n (fun i => sm m (fun j => f i j)) = sm m (fun j => sm n (fun i => f i j)) := by
  induction n with
  | zero => rw [sm]; exact (sm_zero m).symm
  | succ n ih => rw [sm, ih, ← sm_add]; rfl
theorem sm_app (a b : Nat) (f : Nat → Nat) : sm (a + b) f = sm a f + sm b (fun j => f (a + j)) := by
  induction b with
  | zero => rfl
  | succ b ih => rw [← Nat.add_assoc, sm, ih, sm, Nat.add_assoc]
theorem sm_two (a b : Nat) (f : Nat → Nat) : sm (a * b) f = sm a (fun i => sm b (fun j => f (i * b + j))) := by
  induction a with
  | zero => rw [Nat.zero_mul]; rfl
  | succ a ih => rw [Nat.succ_mul, sm_app, ih]; rfl
def cnt (n : Nat) (p : Nat → Bool) : Nat := sm n (fun i => (p i).toNat)
theorem cnt_le {n : Nat} {p q : Nat → Bool} (h : ∀ i, i < n → p i = true → q i = true) : cnt n p ≤ cnt n q := sm_le fun i hi => by
  cases c : p i with
  | false => exact Nat.zero_le _
  | true => rw [h i hi c]; exact Nat.le_refl _
theorem cnt_n (n : Nat) (p : Nat → Bool) : cnt n p ≤ n := by
  have := sm_le (n := n) (f := fun i => (p i).toNat) (g := fun _ => 1) (fun i _ => by cases p i <;> decide)
  rw [sm_const, Nat.mul_one] at this
  exact this
theorem cnt_split (n : Nat) (p q : Nat → Bool) : cnt n p = cnt n (fun i => p i && q i) + cnt n (fun i => p i && !q i) := by
  unfold cnt
  rw [← sm_add]
  refine sm_congr fun i _ => ?_
  show (p i).toNat = (p i && q i).toNat + (p i && !q i).toNat
  cases p i <;> cases q i <;> rfl
theorem cnt_one {n : Nat} {p : Nat → Bool} {c : Nat} (hc : c < n) : cnt n (fun i => p i && i == c) = (p c).toNat := by
  induction n with
  | zero => omega
  | succ n ih =>
    show cnt n _ + (p n && n == c).toNat = _
    by_cases e : c = n
    · subst e
      have : cnt c (fun i => p i && i == c) = 0 := by
        have h := cnt_le (n := c) (p := fun i => p i && i == c) (q := fun _ => false) (fun i hi h => by
          have h := (Bool.and_eq_true _ _ ▸ h).2
          have := beq_iff_eq.mp h
          omega)
        have h2 : cnt c (fun _ => false) = 0 := sm_zero c
        omega
      rw [this]; simp
    · rw [ih (by omega), beq_eq_false_iff_ne.mpr (Ne.symm e)]; simp
theorem cnt_ne {n : Nat} {p : Nat → Bool} {c : Nat} (hc : c < n) (hp : p c = true) : cnt n (fun i => p i && !(i == c)) + 1 = cnt n p := by
  have h := cnt_split n p (fun i => i == c)
  rw [cnt_one hc, hp] at h
  have : (true).toNat = 1 := rfl
  omega
