section
variable {g : Gm}
def fre (g : Gm) (p : Nat) : Bool := decide (p < sq g) && !(qo g).testBit p
def bt (g : Gm) (c : Nat) : Nat := qo g ||| (if c < sq g then 2 ^ c else 0)
def Qf (g : Gm) (m c f t : Nat) : Bool := fre g t && !(t == f) && !(t == c) && rch g m f t (bt g c) false
def Sf (g : Gm) (m c f t : Nat) : Bool := fre g t && !(t == f) && !(t == c) && rch g m f t (bt g c) true
def lv (g : Gm) (c a : Nat) : Bool := fre g a && (c == sq g || (fre g c && !(c == a)))
def V3 (g : Gm) (a c t b : Nat) : Bool := fre g b && !(b == a) && !(b == c) && !(b == t)
def tAq (g : Gm) (mA mC mB a c b t : Nat) : Bool := lv g c a && (Qf g mA c a t && (V3 g a c t b && !Sf g mA c a b && !Sf g mB c b t && (c == sq g || !Sf g mC a c b)))
def tCq (g : Gm) (mC mB a c b t : Nat) : Bool := (fre g c && (fre g a && !(a == c))) && (Qf g mC a c t && (V3 g c a t b && !Sf g mC a c b && !Sf g mB t b a))
def tBq (g : Gm) (mA mB a c b t : Nat) : Bool := lv g c b && (Qf g mB c b t && (V3 g b c t a && !Sf g mB c b a && !Sf g mA c a t))
def tXq (g : Gm) (mB a c b : Nat) : Bool := (fre g b && (fre g c && !(c == b))) && (Sf g mB (sq g) b c && (fre g a && !(a == b) && !(a == c) && !Sf g mB c b a))
def Ro (g : Gm) (mA mC mB sA : Nat) : Prop := (qn g = 3) ∧ (mA < 3) ∧ (mC < 3) ∧ (mB < 3) ∧ (∀ m, m < 3 → m = mA ∨ m = mC ∨ m = mB) ∧ (mA ≠ mC) ∧ (mA ≠ mB) ∧ (mC ≠ mB) ∧ (sA < 2) ∧ (iof g mA sA = true) ∧ (iof g mC sA = true) ∧ (iof g mB (1 - sA) = true) ∧ (iof g mA (1 - sA) = false) ∧ (iof g mC (1 - sA) = false) ∧ (iof g mB sA = false) ∧ (roy g sA = mA) ∧ (roy g (1 - sA) = mB)
theorem Ro.n3 {g : Gm} {mA mC mB sA : Nat} (h : Ro g mA mC mB sA) : qn g = 3 := h.1
theorem Ro.lA {g : Gm} {mA mC mB sA : Nat} (h : Ro g mA mC mB sA) : mA < 3 := h.2.1
theorem Ro.lC {g : Gm} {mA mC mB sA : Nat} (h : Ro g mA mC mB sA) : mC < 3 := h.2.2.1
theorem Ro.lB {g : Gm} {mA mC mB sA : Nat} (h : Ro g mA mC mB sA) : mB < 3 := h.2.2.2.1
theorem Ro.all {g : Gm} {mA mC mB sA : Nat} (h : Ro g mA mC mB sA) : ∀ m, m < 3 → m = mA ∨ m = mC ∨ m = mB := h.2.2.2.2.1
theorem Ro.AC {g : Gm} {mA mC mB sA : Nat} (h : Ro g mA mC mB sA) : mA ≠ mC := h.2.2.2.2.2.1
theorem Ro.AB {g : Gm} {mA mC mB sA : Nat} (h : Ro g mA mC mB sA) : mA ≠ mB := h.2.2.2.2.2.2.1
theorem Ro.CB {g : Gm} {mA mC mB sA : Nat} (h : Ro g mA mC mB sA) : mC ≠ mB := h.2.2.2.2.2.2.2.1
theorem Ro.s2 {g : Gm} {mA mC mB sA : Nat} (h : Ro g mA mC mB sA) : sA < 2 := h.2.2.2.2.2.2.2.2.1
theorem Ro.iA {g : Gm} {mA mC mB sA : Nat} (h : Ro g mA mC mB sA) : iof g mA sA = true := h.2.2.2.2.2.2.2.2.2.1
theorem Ro.iC {g : Gm} {mA mC mB sA : Nat} (h : Ro g mA mC mB sA) : iof g mC sA = true := h.2.2.2.2.2.2.2.2.2.2.1
theorem Ro.iB {g : Gm} {mA mC mB sA : Nat} (h : Ro g mA mC mB sA) : iof g mB (1 - sA) = true := h.2.2.2.2.2.2.2.2.2.2.2.1
theorem Ro.nA {g : Gm} {mA mC mB sA : Nat} (h : Ro g mA mC mB sA) : iof g mA (1 - sA) = false := h.2.2.2.2.2.2.2.2.2.2.2.2.1
theorem Ro.nC {g : Gm} {mA mC mB sA : Nat} (h : Ro g mA mC mB sA) : iof g mC (1 - sA) = false := h.2.2.2.2.2.2.2.2.2.2.2.2.2.1
theorem Ro.nB {g : Gm} {mA mC mB sA : Nat} (h : Ro g mA mC mB sA) : iof g mB sA = false := h.2.2.2.2.2.2.2.2.2.2.2.2.2.2.1
theorem Ro.rA {g : Gm} {mA mC mB sA : Nat} (h : Ro g mA mC mB sA) : roy g sA = mA := h.2.2.2.2.2.2.2.2.2.2.2.2.2.2.2.1
theorem Ro.rB {g : Gm} {mA mC mB sA : Nat} (h : Ro g mA mC mB sA) : roy g (1 - sA) = mB := h.2.2.2.2.2.2.2.2.2.2.2.2.2.2.2.2
theorem bit_if (c n p : Nat) : (if c < n then 2 ^ c else 0).testBit p = true ↔ c < n ∧ c = p := by
  split
  · rename_i h
    rw [Nat.testBit_two_pow]; simp [h]
  · rename_i h
    simp [h]
theorem bt_bit (g : Gm) (c p : Nat) : (bt g c).testBit p = true ↔ (qo g).testBit p = true ∨ (c < sq g ∧ c = p) := by
  unfold bt
  rw [Nat.testBit_or, Bool.or_eq_true, bit_if]
theorem occN_bit (g : Gm) (P : Nat → Nat) (p : Nat) : ∀ n, (occN g P n).testBit p = true ↔ (qo g).testBit p = true ∨ ∃ m, m < n ∧ P m < sq g ∧ P m = p
  | 0 => by simp [occN]
  | n + 1 => by
    rw [occN, Nat.testBit_or, Bool.or_eq_true, occN_bit g P p n, bit_if]
    constructor
    · rintro ((h | ⟨m, h1, h2⟩) | h)
      · exact Or.inl h
      · exact Or.inr ⟨m, by omega, h2⟩
      · exact Or.inr ⟨n, by omega, h⟩
    · rintro (h | ⟨m, h1, h2⟩)
      · exact Or.inl (Or.inl h)
      · by_cases e : m = n
        · subst e; exact Or.inr h2
        · exact Or.inl (Or.inr ⟨m, by omega, h2⟩)
theorem mat_none {P : Nat → Nat} {t : Nat} (h : mat g P t = none) : ∀ m, m < qn g → P m ≠ t := by
  have : ∀ n, matN P t n = none → ∀ m, m < n → P m ≠ t := by
    intro n
    induction n with
    | zero => intro _ m hm; omega
    | succ n ih =>
      intro h m hm
      rw [matN] at h
      split at h
      · cases h
      · by_cases e : m = n
        · rw [e]; assumption
        · exact ih h m (by omega)
  exact this _ h
theorem mat_some {P : Nat → Nat} {t q : Nat} (h : mat g P t = some q) : q < qn g ∧ P q = t := by
  have : ∀ n, matN P t n = some q → q < n ∧ P q = t := by
    intro n
    induction n with
    | zero => intro h; cases h
    | succ n ih =>
      intro h
      rw [matN] at h
      split at h
      · cases h; exact ⟨by omega, by assumption⟩
      · have := ih h; exact ⟨by omega, this.2⟩
  exact this _ h
theorem mvT_some {P : Nat → Nat} {s m t : Nat} (h : (mvT g P s m t).isSome = true) : (qo g).testBit t = false ∧ t ≠ P m ∧ (∀ q, mat g P t = some q → iof g q s = false) ∧ rch g m (P m) t (occ g P) (mat g P t).isSome = true ∧ chk g (gone g P m t) s = false := by
  unfold mvT at h
  split at h
  · rename_i c
    simp only [Bool.and_eq_true, Bool.not_eq_true', canGo] at c
    obtain ⟨⟨⟨⟨c1, c2⟩, c3⟩, c4⟩, c5⟩ := c
    refine ⟨c1, beq_eq_false_iff_ne.mp c2, fun q hq => ?_, c4, c5⟩
    rw [hq] at c3
    simpa using c3
  · cases h
theorem fre_of {p : Nat} (h1 : p < sq g) (h2 : (qo g).testBit p = false) : fre g p = true := by unfold fre; rw [decide_eq_true h1, h2]; rfl
theorem Sf_no {P : Nat → Nat} (w : qF g) {m c f t : Nat} (hf : f < sq g) (h : rch g m f t (occ g P) true = false) (ho : ∀ p, p ≠ f → p ≠ t → (occ g P).testBit p = true → (qo g).testBit p = true ∨ (c < sq g ∧ c = p)) : Sf g m c f t = false := by
  cases e : Sf g m c f t with
  | false => rfl
  | true =>
    unfold Sf fre at e
    simp only [Bool.and_eq_true, decide_eq_true_eq] at e
    have := rch_mono w hf e.1.1.1.1 (o' := occ g P) (fun p h1 h2 h3 => (bt_bit g c p).mpr (ho p h1 h2 h3)) e.2
    rw [h] at this; cases this
variable {mA mC mB sA : Nat} {P : Nat → Nat} {t : Nat}
theorem Ro.oc (R : Ro g mA mC mB sA) (P : Nat → Nat) (p : Nat) : (occ g P).testBit p = true ↔ (qo g).testBit p = true ∨ (P mA < sq g ∧ P mA = p) ∨ (P mC < sq g ∧ P mC = p) ∨ (P mB < sq g ∧ P mB = p) := by
  unfold occ
  rw [R.n3, occN_bit]
  constructor
  · rintro (h | ⟨m, h1, h2⟩)
    · exact Or.inl h
    · rcases R.all m h1 with e | e | e <;> subst e
      · exact Or.inr (Or.inl h2)
      · exact Or.inr (Or.inr (Or.inl h2))
      · exact Or.inr (Or.inr (Or.inr h2))
  · rintro (h | h | h | h)
    · exact Or.inl h
    · exact Or.inr ⟨_, R.lA, h⟩
    · exact Or.inr ⟨_, R.lC, h⟩
    · exact Or.inr ⟨_, R.lB, h⟩
theorem att_no {P : Nat → Nat} {t b m : Nat} (h : att g P t b = false) (hm : m < qn g) (h1 : iof g m b = true) (h2 : P m < sq g) : rch g m (P m) t (occ g P) true = false := by
  cases e : rch g m (P m) t (occ g P) true with
  | false => rfl
  | true => rw [att_of hm h1 h2 e] at h; cases h
theorem ne_b {a b : Nat} (h : a ≠ b) : (!(a == b)) = true := by rw [beq_eq_false_iff_ne.mpr h]; rfl
def Pt3 (g : Gm) (mA mC mB : Nat) (P : Nat → Nat) : Prop := (P mA < sq g) ∧ (P mB < sq g) ∧ (P mC ≤ sq g) ∧ (fre g (P mA) = true) ∧ (fre g (P mB) = true) ∧ (P mC < sq g → fre g (P mC) = true) ∧ (P mA ≠ P mB) ∧ (P mA ≠ P mC) ∧ (P mB ≠ P mC)
theorem Pt3.a1 {g : Gm} {mA mC mB : Nat} {P : Nat → Nat} (h : Pt3 g mA mC mB P) : P mA < sq g := h.1
theorem Pt3.b1 {g : Gm} {mA mC mB : Nat} {P : Nat → Nat} (h : Pt3 g mA mC mB P) : P mB < sq g := h.2.1
theorem Pt3.c1 {g : Gm} {mA mC mB : Nat} {P : Nat → Nat} (h : Pt3 g mA mC mB P) : P mC ≤ sq g := h.2.2.1
theorem Pt3.fa {g : Gm} {mA mC mB : Nat} {P : Nat → Nat} (h : Pt3 g mA mC mB P) : fre g (P mA) = true := h.2.2.2.1
theorem Pt3.fb {g : Gm} {mA mC mB : Nat} {P : Nat → Nat} (h : Pt3 g mA mC mB P) : fre g (P mB) = true := h.2.2.2.2.1
theorem Pt3.fc {g : Gm} {mA mC mB : Nat} {P : Nat → Nat} (h : Pt3 g mA mC mB P) : P mC < sq g → fre g (P mC) = true := h.2.2.2.2.2.1
theorem Pt3.ab {g : Gm} {mA mC mB : Nat} {P : Nat → Nat} (h : Pt3 g mA mC mB P) : P mA ≠ P mB := h.2.2.2.2.2.2.1
theorem Pt3.ac {g : Gm} {mA mC mB : Nat} {P : Nat → Nat} (h : Pt3 g mA mC mB P) : P mA ≠ P mC := h.2.2.2.2.2.2.2.1
theorem Pt3.bc {g : Gm} {mA mC mB : Nat} {P : Nat → Nat} (h : Pt3 g mA mC mB P) : P mB ≠ P mC := h.2.2.2.2.2.2.2.2
theorem Ro.pt (R : Ro g mA mC mB sA) (hC : posC g P) (hc : P mC ≤ sq g) : Pt3 g mA mC mB P := by
  have hs := R.s2
  have a1 : P mA < sq g := by have := hC.1 sA hs; rw [R.rA] at this; exact this
  have b1 : P mB < sq g := by have := hC.1 (1 - sA) (by omega); rw [R.rB] at this; exact this
  have n3 := R.n3
  refine ⟨a1, b1, hc, fre_of a1 (hC.2.1 _ (by have := R.lA; omega) a1), fre_of b1 (hC.2.1 _ (by have := R.lB; omega) b1), fun h => fre_of h (hC.2.1 _ (by have := R.lC; omega) h), hC.2.2.1 _ _ (by have := R.lA; omega) (by have := R.lB; omega) R.AB a1, hC.2.2.1 _ _ (by have := R.lA; omega) (by have := R.lC; omega) R.AC a1, hC.2.2.1 _ _ (by have := R.lB; omega) (by have := R.lC; omega) (Ne.symm R.CB) b1⟩
theorem Pt3.lv_a (H : Pt3 g mA mC mB P) : lv g (P mC) (P mA) = true := by
  unfold lv
  rw [H.fa, Bool.true_and, Bool.or_eq_true]
  by_cases c : P mC < sq g
  · exact Or.inr (by rw [H.fc c, ne_b (Ne.symm H.ac)]; rfl)
  · exact Or.inl (beq_iff_eq.mpr (by have := H.c1; omega))
theorem Pt3.lv_b (H : Pt3 g mA mC mB P) : lv g (P mC) (P mB) = true := by
  unfold lv
  rw [H.fb, Bool.true_and, Bool.or_eq_true]
  by_cases c : P mC < sq g
  · exact Or.inr (by rw [H.fc c, ne_b (Ne.symm H.bc)]; rfl)
  · exact Or.inl (beq_iff_eq.mpr (by have := H.c1; omega))
theorem V3_of {a c t b : Nat} (h : fre g b = true) (h1 : b ≠ a) (h2 : b ≠ c) (h3 : b ≠ t) : V3 g a c t b = true := by
  unfold V3; rw [h, ne_b h1, ne_b h2, ne_b h3]; rfl
theorem Qf_of {m c f t : Nat} (h : fre g t = true) (h1 : t ≠ f) (h2 : t ≠ c) (h3 : rch g m f t (bt g c) false = true) : Qf g m c f t = true := by
  unfold Qf; rw [h, ne_b h1, ne_b h2, h3]; rfl
theorem chk_A (R : Ro g mA mC mB sA) {P : Nat → Nat} : chk g P (1 - sA) = att g P (P mB) sA := by
  have hs := R.s2
  unfold chk; rw [R.rB, show 1 - (1 - sA) = sA by omega]
theorem chk_B (R : Ro g mA mC mB sA) {P : Nat → Nat} : chk g P sA = att g P (P mA) (1 - sA) := by
  unfold chk; rw [R.rA]
theorem uP_same (P : Nat → Nat) (m t : Nat) : uP P m t m = t := if_pos rfl
theorem uP_ne (P : Nat → Nat) {m i : Nat} (t : Nat) (h : i ≠ m) : uP P m t i = P i := if_neg h
theorem p_A (w : qF g) (R : Ro g mA mC mB sA) (hC : posC g P) (hc : P mC ≤ sq g) (hk : chk g P (1 - sA) = false) (ht : t < sq g) (h : (mvT g P sA mA t).isSome = true) : tAq g mA mC mB (P mA) (P mC) (P mB) t = true := by
  have H := R.pt hC hc
  obtain ⟨h1, h2, h3, h4, h5⟩ := mvT_some h
  rw [chk_A R] at hk
  have n3 := R.n3
  have kA := att_no hk (by have := R.lA; omega) R.iA H.a1
  have hm : mat g P t = none := by
    cases e : mat g P t with
    | none => rfl
    | some q =>
      exfalso
      obtain ⟨q1, q2⟩ := mat_some e
      have q3 := h3 q e
      rcases R.all q (by omega) with e1 | e1 | e1 <;> subst e1
      · rw [R.iA] at q3; cases q3
      · rw [R.iC] at q3; cases q3
      · rw [e, ← q2] at h4
        rw [show (some q).isSome = true from rfl, kA] at h4; cases h4
  have hn := mat_none hm
  have tb := hn mB (by have := R.lB; omega)
  have tc := hn mC (by have := R.lC; omega)
  rw [hm] at h4
  have eg : gone g P mA t = uP P mA t := by unfold gone; rw [hm]
  rw [eg, chk_B R, uP_same] at h5
  have e1 : uP P mA t mB = P mB := uP_ne P t (Ne.symm R.AB)
  have e2 : uP P mA t mC = P mC := uP_ne P t (Ne.symm R.AC)
  have kB := att_no h5 (by have := R.lB; omega) R.iB (by rw [e1]; exact H.b1)
  rw [e1] at kB
  unfold tAq
  rw [H.lv_a, Qf_of (fre_of ht h1) h2 (Ne.symm tc) (rch_mono w H.a1 ht (fun p o1 o2 o3 => by
    rw [R.oc]
    rcases (bt_bit g _ p).mp o3 with o | o
    · exact Or.inl o
    · exact Or.inr (Or.inr (Or.inl o))) h4), V3_of H.fb (Ne.symm H.ab) H.bc tb,
    Sf_no w H.a1 kA (fun p o1 o2 o3 => by
      rcases (R.oc P p).mp o3 with o | o | o | o
      · exact Or.inl o
      · exact absurd o.2.symm o1
      · exact Or.inr o
      · exact absurd o.2.symm o2),
    Sf_no w H.b1 kB (fun p o1 o2 o3 => by
      rcases (R.oc _ p).mp o3 with o | o | o | o
      · exact Or.inl o
      · rw [uP_same] at o; exact absurd o.2.symm o2
      · rw [e2] at o; exact Or.inr o
      · rw [e1] at o; exact absurd o.2.symm o1)]
  simp only [Bool.true_and, Bool.not_false, Bool.or_eq_true, beq_iff_eq]
  by_cases c : P mC < sq g
  · right
    have kC := att_no hk (by have := R.lC; omega) R.iC c
    rw [Sf_no w c kC (fun p o1 o2 o3 => by
      rcases (R.oc P p).mp o3 with o | o | o | o
      · exact Or.inl o
      · exact Or.inr o
      · exact absurd o.2.symm o1
      · exact absurd o.2.symm o2)]
    rfl
  · left; omega
theorem p_C (w : qF g) (R : Ro g mA mC mB sA) (hC : posC g P) (hc : P mC < sq g) (hk : chk g P (1 - sA) = false) (ht : t < sq g) (h : (mvT g P sA mC t).isSome = true) : tCq g mC mB (P mA) (P mC) (P mB) t = true := by
  have H := R.pt hC (Nat.le_of_lt hc)
  obtain ⟨h1, h2, h3, h4, h5⟩ := mvT_some h
  rw [chk_A R] at hk
  have n3 := R.n3
  have kC := att_no hk (by have := R.lC; omega) R.iC hc
  have hm : mat g P t = none := by
    cases e : mat g P t with
    | none => rfl
    | some q =>
      exfalso
      obtain ⟨q1, q2⟩ := mat_some e
      have q3 := h3 q e
      rcases R.all q (by omega) with e1 | e1 | e1 <;> subst e1
      · rw [R.iA] at q3; cases q3
      · rw [R.iC] at q3; cases q3
      · rw [e, ← q2] at h4
        rw [show (some q).isSome = true from rfl, kC] at h4; cases h4
  have hn := mat_none hm
  have tb := hn mB (by have := R.lB; omega)
  have ta := hn mA (by have := R.lA; omega)
  rw [hm] at h4
  have eg : gone g P mC t = uP P mC t := by unfold gone; rw [hm]
  rw [eg, chk_B R, uP_ne P t R.AC] at h5
  have e1 : uP P mC t mB = P mB := uP_ne P t (Ne.symm R.CB)
  have e2 : uP P mC t mA = P mA := uP_ne P t R.AC
  have kB := att_no h5 (by have := R.lB; omega) R.iB (by rw [e1]; exact H.b1)
  rw [e1] at kB
  unfold tCq
  rw [H.fc hc, H.fa, ne_b H.ac, Qf_of (fre_of ht h1) h2 (Ne.symm ta) (rch_mono w hc ht (fun p o1 o2 o3 => by
    rw [R.oc]
    rcases (bt_bit g _ p).mp o3 with o | o
    · exact Or.inl o
    · exact Or.inr (Or.inl o)) h4), V3_of H.fb H.bc (Ne.symm H.ab) tb,
    Sf_no w hc kC (fun p o1 o2 o3 => by
      rcases (R.oc P p).mp o3 with o | o | o | o
      · exact Or.inl o
      · exact Or.inr o
      · exact absurd o.2.symm o1
      · exact absurd o.2.symm o2),
    Sf_no w H.b1 kB (fun p o1 o2 o3 => by
      rcases (R.oc _ p).mp o3 with o | o | o | o
      · exact Or.inl o
      · rw [e2] at o; exact absurd o.2.symm o2
      · rw [uP_same] at o; exact Or.inr o
      · rw [e1] at o; exact absurd o.2.symm o1)]
  rfl
theorem p_B (w : qF g) (R : Ro g mA mC mB sA) (hC : posC g P) (hc : P mC ≤ sq g) (hk : chk g P sA = false) (ht : t < sq g) (h : (mvT g P (1 - sA) mB t).isSome = true) : tBq g mA mB (P mA) (P mC) (P mB) t = true ∨ (t = P mC ∧ tXq g mB (P mA) (P mC) (P mB) = true) := by
  have H := R.pt hC hc
  obtain ⟨h1, h2, h3, h4, h5⟩ := mvT_some h
  rw [chk_B R] at hk
  have n3 := R.n3
  have kB := att_no hk (by have := R.lB; omega) R.iB H.b1
  have sB : Sf g mB (P mC) (P mB) (P mA) = false := Sf_no w H.b1 kB (fun p o1 o2 o3 => by
      rcases (R.oc P p).mp o3 with o | o | o | o
      · exact Or.inl o
      · exact absurd o.2.symm o2
      · exact Or.inr o
      · exact absurd o.2.symm o1)
  cases e : mat g P t with
  | none =>
    left
    have hn := mat_none e
    have ta := hn mA (by have := R.lA; omega)
    have tc := hn mC (by have := R.lC; omega)
    rw [e] at h4
    have eg : gone g P mB t = uP P mB t := by unfold gone; rw [e]
    rw [eg, chk_A R, uP_same] at h5
    have e1 : uP P mB t mA = P mA := uP_ne P t R.AB
    have e2 : uP P mB t mC = P mC := uP_ne P t R.CB
    have kA := att_no h5 (by have := R.lA; omega) R.iA (by rw [e1]; exact H.a1)
    rw [e1] at kA
    unfold tBq
    rw [H.lv_b, Qf_of (fre_of ht h1) h2 (Ne.symm tc) (rch_mono w H.b1 ht (fun p o1 o2 o3 => by
      rw [R.oc]
      rcases (bt_bit g _ p).mp o3 with o | o
      · exact Or.inl o
      · exact Or.inr (Or.inr (Or.inl o))) h4), V3_of H.fa H.ab H.ac ta, sB,
      Sf_no w H.a1 kA (fun p o1 o2 o3 => by
        rcases (R.oc _ p).mp o3 with o | o | o | o
        · exact Or.inl o
        · rw [e1] at o; exact absurd o.2.symm o1
        · rw [e2] at o; exact Or.inr o
        · rw [uP_same] at o; exact absurd o.2.symm o2)]
    rfl
  | some q =>
    right
    obtain ⟨q1, q2⟩ := mat_some e
    have q3 := h3 q e
    rw [e, show (some q).isSome = true from rfl] at h4
    rcases R.all q (by omega) with e1 | e1 | e1 <;> subst e1
    · rw [← q2, kB] at h4; cases h4
    · have hc2 : P q < sq g := by omega
      refine ⟨q2.symm, ?_⟩
      unfold tXq
      have hS : Sf g mB (sq g) (P mB) (P q) = true := by
        unfold Sf
        rw [H.fc hc2, ne_b (Ne.symm H.bc), ne_b (show P q ≠ sq g by omega)]
        rw [← q2] at h4
        exact rch_mono w H.b1 hc2 (fun p o1 o2 o3 => by
          rw [R.oc]
          rcases (bt_bit g _ p).mp o3 with o | o
          · exact Or.inl o
          · omega) h4
      rw [H.fb, H.fc hc2, ne_b (Ne.symm H.bc), hS, H.fa, ne_b H.ab, ne_b H.ac, sB]
      rfl
    · rw [R.iB] at q3; cases q3
end
