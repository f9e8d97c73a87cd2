section
variable {g : Gm} {mA mC mB sA : Nat}
theorem lane1 {n : Nat} {q v : Nat → Bool} (hq : ∀ t, t < n → q t = true → v t = true) : sm n (fun b => cnt n (fun t => q t && (v b && !q b))) = cnt n q * (cnt n v - cnt n q) := by
  have h1 := cnt_split n v q
  have h2 : cnt n (fun i => v i && q i) = cnt n q := sm_congr fun i hi => by
    cases e : q i with
    | false => simp [e]
    | true => simp [e, hq i hi e]
  have h3 : sm n (fun b => cnt n (fun t => q t && (v b && !q b))) = sm n (fun b => (v b && !q b).toNat * cnt n q) := sm_congr fun b _ => by
    unfold cnt
    rw [Nat.mul_comm, ← sm_mul]
    refine sm_congr fun t _ => ?_
    show (q t && (v b && !q b)).toNat = (q t).toNat * (v b && !q b).toNat
    cases q t <;> cases (v b && !q b) <;> rfl
  rw [h3, sm_mul, Nat.mul_comm]
  have h4 : sm n (fun i => (v i && !q i).toNat) = cnt n (fun i => v i && !q i) := rfl
  rw [h4]
  congr 1
  omega
theorem lane2 {n : Nat} {q v : Nat → Bool} (hq : ∀ t, t < n → q t = true → v t = true) (h1 : cnt n q ≤ 1) : sm n (fun b => cnt n (fun t => q t && (v b && !(b == t)))) ≤ cnt n v - 1 := by
  have e : sm n (fun b => cnt n (fun t => q t && (v b && !(b == t)))) = sm n (fun t => (q t).toNat * (cnt n v - 1)) := by
    unfold cnt
    rw [sm_comm]
    refine sm_congr fun t ht => ?_
    show sm n (fun i => (q t && (v i && !(i == t))).toNat) = (q t).toNat * (cnt n v - 1)
    cases c : q t with
    | false =>
      have : sm n (fun i => (false && (v i && !(i == t))).toNat) = sm n (fun _ => 0) := sm_congr fun i _ => rfl
      rw [this, sm_zero]
      exact (Nat.zero_mul _).symm
    | true =>
      have := cnt_ne ht (hq t ht c)
      have e2 : sm n (fun i => (true && (v i && !(i == t))).toNat) = cnt n (fun i => v i && !(i == t)) := sm_congr fun i _ => by rw [Bool.true_and]
      rw [e2]
      show _ = 1 * (cnt n v - 1)
      omega
  rw [e, sm_mul]
  have h2 : sm n (fun t => (q t).toNat) ≤ 1 := h1
  calc _ ≤ 1 * (cnt n v - 1) := Nat.mul_le_mul_right _ h2
    _ = _ := Nat.one_mul _
def Vq (g : Gm) (f c p : Nat) : Bool := fre g p && !(p == f) && !(p == c)
def dq (g : Gm) (m c f : Nat) : Nat := cnt (sq g) (Qf g m c f)
def Mq (g : Gm) (f c : Nat) : Nat := cnt (sq g) (Vq g f c)
def Nq (g : Gm) : Nat := cnt (sq g) (fre g)
def lnq (g : Gm) (m c f : Nat) : Nat := if qk g m < 9 then dq g m c f * (Mq g f c - dq g m c f) else Mq g f c - 1
def eqB (g : Gm) (m c f : Nat) : Nat := (decide (c < sq g) && Sf g m (sq g) f c).toNat
def lnB (g : Gm) (m c f : Nat) : Nat := if qk g m < 9 then (dq g m c f + eqB g m c f) * (Mq g f c - dq g m c f) else 2 * Mq g f c
theorem Qf_V {m c f t : Nat} (h : Qf g m c f t = true) : Vq g f c t = true := by
  unfold Qf at h
  unfold Vq
  rw [Bool.and_eq_true] at h
  exact h.1
theorem Sf_V {m c f t : Nat} (h : Sf g m c f t = true) : Vq g f c t = true := by
  unfold Sf at h
  unfold Vq
  rw [Bool.and_eq_true] at h
  exact h.1
theorem rch_cap {m f t o : Nat} (hk : qk g m < 9) (a b : Bool) : rch g m f t o a = rch g m f t o b := by
  unfold rch
  generalize qk g m = k at hk ⊢
  rcases (show k = 0 ∨ k = 1 ∨ k = 2 ∨ k = 3 ∨ k = 4 ∨ k = 5 ∨ k = 6 ∨ k = 7 ∨ k = 8 by omega) with rfl | rfl | rfl | rfl | rfl | rfl | rfl | rfl | rfl <;> rfl
theorem QS {m c f t : Nat} (hk : qk g m < 9) : Sf g m c f t = Qf g m c f t := by
  unfold Sf Qf; rw [rch_cap hk true false]
/-- a pawn has one quiet target at most -/
theorem pawn_1 {m c f : Nat} (hk : ¬ qk g m < 9) (hk2 : qk g m < 10) : dq g m c f ≤ 1 := by
  have hw : ∀ t, Qf g m c f t = true → (t == (if m < qb g then f + qw g else f - qw g)) = true := by
    intro t h
    unfold Qf at h
    have h := (Bool.and_eq_true _ _ ▸ h).2
    unfold rch at h
    have e : qk g m = 9 := by omega
    rw [e] at h
    simp at h
    obtain ⟨h1, h2⟩ := h
    have e1 : t % qw g = f % qw g := by unfold dxx ddf at h2; omega
    have d1 := Nat.div_add_mod t (qw g)
    have d2 := Nat.div_add_mod f (qw g)
    refine beq_iff_eq.mpr ?_
    split at h1 <;> rename_i c1
    · have h1 : t / qw g = f / qw g + 1 := by simpa using h1
      rw [if_pos c1, ← d1, ← d2, h1, e1, Nat.mul_add, Nat.mul_one]; omega
    · have h1 : t / qw g + 1 = f / qw g := by simpa using h1
      rw [if_neg c1, ← d2, ← h1, Nat.mul_add, Nat.mul_one]
      omega
  unfold dq
  by_cases c1 : (if m < qb g then f + qw g else f - qw g) < sq g
  · have := cnt_one (p := fun _ => true) c1
    have h2 := cnt_le (n := sq g) (p := Qf g m c f) (q := fun i => (fun _ => true) i && i == (if m < qb g then f + qw g else f - qw g)) (fun i _ h => by rw [hw i h]; rfl)
    rw [this] at h2
    exact h2
  · have h2 := cnt_le (n := sq g) (p := Qf g m c f) (q := fun i => false) (fun i hi h => by have := beq_iff_eq.mp (hw i h); omega)
    have h3 : cnt (sq g) (fun _ => false) = 0 := sm_zero _
    omega
theorem lane_le (w : qF g) (m c f : Nat) (T : Nat → Nat → Bool) (h : ∀ b t, T b t = true → Qf g m c f t = true ∧ V3 g f c t b = true ∧ Sf g m c f b = false) : sm (sq g + 1) (fun b => cnt (sq g) (T b)) ≤ lnq g m c f := by
  have hb : cnt (sq g) (T (sq g)) = 0 := by
    have h1 := cnt_le (n := sq g) (p := T (sq g)) (q := fun _ => false) (fun t _ e => by
      have := (h _ _ e).2.1
      unfold V3 fre at this
      rw [decide_eq_false (Nat.lt_irrefl _)] at this
      cases this)
    have h3 : cnt (sq g) (fun _ => false) = 0 := sm_zero _
    omega
  rw [sm, hb, Nat.add_zero]
  unfold lnq
  split
  · rename_i hk
    unfold dq Mq
    rw [← lane1 (fun t _ e => Qf_V e)]
    refine sm_le fun b hb => cnt_le fun t ht e => ?_
    obtain ⟨h1, h2, h3⟩ := h b t e
    rw [QS hk] at h3
    rw [h1, h3]
    unfold V3 at h2
    rw [Bool.and_eq_true] at h2
    unfold Vq
    rw [h2.1]; rfl
  · rename_i hk
    refine Nat.le_trans (sm_le fun b hb => cnt_le fun t ht e => ?_) (lane2 (q := Qf g m c f) (v := Vq g f c) (fun t _ e => Qf_V e) (pawn_1 hk (w.2.2.2.2.2.2.2.2.2.2 m)))
    obtain ⟨h1, h2, h3⟩ := h b t e
    rw [h1]
    exact h2
theorem zero_of {b : Bool} {x y : Nat} (h1 : b = false → x = 0) (h2 : b = true → x ≤ y) : x ≤ b.toNat * y := by
  cases b with
  | false => rw [h1 rfl]; exact Nat.zero_le _
  | true => have := h2 rfl; simpa using this
theorem cnt_0 {n : Nat} {p : Nat → Bool} (h : ∀ i, i < n → p i = false) : cnt n p = 0 := by
  have : cnt n p = sm n (fun _ => 0) := sm_congr fun i hi => by rw [h i hi]; rfl
  rw [this, sm_zero]
theorem sm_0 {n : Nat} {f : Nat → Nat} (h : ∀ i, i < n → f i = 0) : sm n f = 0 := by
  rw [sm_congr h, sm_zero]
theorem LA_le (w : qF g) (c a : Nat) : LA g mA mC mB c a ≤ (lv g c a).toNat * lnq g mA c a := by
  refine zero_of (fun e => ?_) (fun e => ?_)
  · exact sm_0 fun b _ => cnt_0 fun t _ => by unfold tAq; rw [e]; rfl
  · refine lane_le w mA c a (fun b t => tAq g mA mC mB a c b t) (fun b t h => ?_)
    unfold tAq at h
    simp only [Bool.and_eq_true, Bool.not_eq_true'] at h
    exact ⟨h.2.1, h.2.2.1.1.1, h.2.2.1.1.2⟩
theorem LC_le (w : qF g) (a c : Nat) : LC g mC mB a c ≤ (fre g c && (fre g a && !(a == c))).toNat * lnq g mC a c := by
  refine zero_of (fun e => ?_) (fun e => ?_)
  · exact sm_0 fun b _ => cnt_0 fun t _ => by unfold tCq; rw [e]; rfl
  · refine lane_le w mC a c (fun b t => tCq g mC mB a c b t) (fun b t h => ?_)
    unfold tCq at h
    simp only [Bool.and_eq_true, Bool.not_eq_true'] at h
    exact ⟨h.2.1, h.2.2.1.1, h.2.2.1.2⟩
theorem LX_le (w : qF g) (c b : Nat) (hl : lv g c b = true) : sm (sq g + 1) (fun a => WXq g mB a c b) ≤ eqB g mB c b * (if qk g mB < 9 then Mq g b c - dq g mB c b else Mq g b c) := by
  have h1 : sm (sq g + 1) (fun a => WXq g mB a c b) ≤ sm (sq g) (fun a => (Vq g b c a && !Sf g mB c b a).toNat * eqB g mB c b) := by
    rw [sm]
    have z : WXq g mB (sq g) c b = 0 := by
      unfold WXq tXq fre
      rw [decide_eq_false (Nat.lt_irrefl _)]
      simp
    rw [z, Nat.add_zero]
    refine sm_le fun a _ => ?_
    unfold WXq
    cases e : tXq g mB a c b with
    | false => exact Nat.zero_le _
    | true =>
      unfold tXq at e
      simp only [Bool.and_eq_true, Bool.not_eq_true'] at e
      obtain ⟨⟨e1, e2, e3⟩, e4, ⟨⟨e5, e6⟩, e7⟩, e8⟩ := e
      have hc : c < sq g := by unfold fre at e2; simp at e2; exact e2.1
      unfold Vq eqB
      rw [e5, e6, e7, e8, e4, decide_eq_true hc]
      decide
  rw [sm_mul] at h1
  refine Nat.le_trans h1 ?_
  rw [Nat.mul_comm]
  refine Nat.mul_le_mul_left _ ?_
  have h2 : sm (sq g) (fun a => (Vq g b c a && !Sf g mB c b a).toNat) = cnt (sq g) (fun a => Vq g b c a && !Sf g mB c b a) := rfl
  have h3 := cnt_split (sq g) (Vq g b c) (Sf g mB c b)
  split
  · rename_i hk
    have h4 : cnt (sq g) (fun i => Vq g b c i && Sf g mB c b i) = dq g mB c b := sm_congr fun i _ => by
      show (Vq g b c i && Sf g mB c b i).toNat = (Qf g mB c b i).toNat
      rw [QS hk]
      cases e : Qf g mB c b i with
      | false => simp
      | true => rw [Qf_V e]; rfl
    rw [h2]
    unfold Mq
    omega
  · rw [h2]
    unfold Mq
    omega
theorem LB_le (w : qF g) (c b : Nat) : LB g mA mB c b ≤ (lv g c b).toNat * lnB g mB c b := by
  refine zero_of (fun e => ?_) (fun e => ?_)
  · refine sm_0 fun a _ => ?_
    have z1 : WBq g mA mB a c b = 0 := cnt_0 fun t _ => by unfold tBq; rw [e]; rfl
    have z2 : WXq g mB a c b = 0 := by
      unfold WXq tXq
      unfold lv at e
      have : (fre g b && (fre g c && !(c == b))) = false := by
        cases h1 : fre g b with
        | false => rfl
        | true =>
          rw [h1, Bool.true_and, Bool.or_eq_false_iff] at e
          rw [e.2]; rfl
      rw [this]; rfl
    rw [z1, z2]
  · unfold LB
    rw [sm_add]
    have h1 := lane_le w mB c b (fun a t => tBq g mA mB a c b t) (fun a t h => by
      unfold tBq at h
      simp only [Bool.and_eq_true, Bool.not_eq_true'] at h
      exact ⟨h.2.1, h.2.2.1.1, h.2.2.1.2⟩)
    have h1 : sm (sq g + 1) (fun a => WBq g mA mB a c b) ≤ lnq g mB c b := h1
    have h2 := LX_le (mB := mB) w c b e
    unfold lnB
    unfold lnq at h1
    have h3 : eqB g mB c b ≤ 1 := by unfold eqB; exact Bool.toNat_le _
    split
    · rename_i hk
      rw [if_pos hk] at h1 h2
      rw [Nat.add_mul]
      omega
    · rename_i hk
      rw [if_neg hk] at h1 h2
      have h4 := Nat.mul_le_mul_right (Mq g b c) h3
      omega
end
