def cmC (w h s t : Nat) : Bool := (List.range 8).any fun u => (!(u.testBit 2) || w == h) && (decide (1 < s) || decide (1 < t) || decide (u < 2)) && (List.range (w * h + 1)).all fun p => tnW w h t (tnW w h s p) == tnW w h u p
def ivC (w h s : Nat) : Bool := (List.range 8).any fun u => (!(u.testBit 2) || w == h) && (decide (1 < s) || decide (u < 2)) && (List.range (w * h + 1)).all fun p => tnW w h u (tnW w h s p) == p
theorem cm_all : ((List.range 7).all fun w => (List.range 7).all fun h => decide (w < 2) || decide (h < 2) || decide (12 < w * h) || (List.range 8).all fun s => (s.testBit 2 && decide (w ≠ h)) || (ivC w h s && (List.range 8).all fun t => (t.testBit 2 && decide (w ≠ h)) || cmC w h s t)) = true := by decide +kernel
theorem cN_cg {D D' : Nat → Bool} {n : Nat} (h : ∀ k, k < n → D k = D' k) : cN D n = cN D' n := by
  induction n with
  | zero => rfl
  | succ n ih => rw [cN, cN, ih (fun k hk => h k (by omega)), h n (by omega)]
theorem cN_add {D D' : Nat → Bool} {y N : Nat} (h1 : D y = false) (h2 : D' y = true) (h3 : ∀ x, x ≠ y → D' x = D x) (hy : y < N) : cN D' N = cN D N + 1 := by
  induction N with
  | zero => omega
  | succ n ih =>
    rw [cN, cN]
    by_cases c : y = n
    · subst c
      rw [if_pos h2, if_neg (by rw [h1]; decide), cN_cg (fun k hk => h3 k (by omega))]
    · rw [ih (by omega), h3 n (fun e => c e.symm)]
      split <;> omega
def fo (p : Nat → Bool) (f : Nat → Nat) (s : Nat) : Bool := p s && (List.range s).all (fun b => !p b || f b != f s)
theorem cN_fo {p q : Nat → Bool} {f : Nat → Nat} {N : Nat} : ∀ n, (∀ s, s < n → p s = true → f s < N) → cN (fun s => fo p f s && q (f s)) n = cN (fun x => (List.range n).any (fun s => p s && f s == x) && q x) N
  | 0, _ => by
    have : ∀ N, cN (fun x => (List.range 0).any (fun s => p s && f s == x) && q x) N = 0 := by
      intro N
      induction N with
      | zero => rfl
      | succ N ih => rw [cN, ih]; rfl
    rw [this]; rfl
  | n + 1, h => by
    have ih := cN_fo (q := q) n (fun s hs => h s (by omega))
    rw [cN, ih]
    have e : ∀ x, (List.range (n + 1)).any (fun s => p s && f s == x) = ((List.range n).any (fun s => p s && f s == x) || (p n && f n == x)) := fun x => by
      rw [List.range_succ, List.any_append]; simp
    by_cases c : (fo p f n && q (f n)) = true
    · rw [if_pos c]
      simp only [fo, Bool.and_eq_true] at c
      obtain ⟨⟨c1, c2⟩, c3⟩ := c
      refine (cN_add (y := f n) ?_ ?_ (fun x hx => ?_) (h n (by omega) c1)).symm
      · rw [Bool.and_eq_false_iff]; left
        rw [Bool.eq_false_iff]
        intro z
        obtain ⟨b, hb, z2⟩ := List.any_eq_true.mp z
        have := List.all_eq_true.mp c2 b hb
        simp only [Bool.and_eq_true, beq_iff_eq] at z2
        simp [z2.1, z2.2] at this
      · show ((List.range (n + 1)).any (fun s => p s && f s == f n) && q (f n)) = true
        rw [e, c1, c3]; simp
      · show ((List.range (n + 1)).any (fun s => p s && f s == x) && q x) = _
        rw [e, show (f n == x) = false by simpa using fun z => hx z.symm]; simp
    · rw [if_neg c]
      refine cN_cg (fun x _ => ?_)
      rw [e]
      cases hq : q x with
      | false => simp
      | true =>
        rw [Bool.and_true, Bool.and_true]
        by_cases z : (p n && f n == x) = true
        · simp only [Bool.and_eq_true, beq_iff_eq] at z
          have : (List.range n).any (fun s => p s && f s == x) = true := by
            have c : ¬ fo p f n = true := fun q' => c (by rw [q', z.2, hq]; rfl)
            unfold fo at c
            rw [z.1, Bool.true_and, List.all_eq_true] at c
            have c := Classical.not_forall.mp c
            obtain ⟨b, c⟩ := c
            have c := Classical.not_forall.mp c
            obtain ⟨hb, c⟩ := c
            refine List.any_eq_true.mpr ⟨b, hb, ?_⟩
            cases hp : p b with
            | false => rw [hp] at c; simp at c
            | true =>
              rw [hp] at c
              have : f b = f n := by simpa using c
              rw [this, z.2]; simp
          rw [this, Bool.true_or]
        · rw [Bool.eq_false_iff.mpr z, Bool.or_false]
section
variable {g : Gm}
theorem ixo_plc {x : Nat} : ixo g (plc g x) (x % 2) = x := by
  unfold ixo plc
  rw [if_pos rfl, if_neg (by omega), if_pos rfl, if_neg (by omega), if_neg (by omega)]
  have h1 := Nat.div_add_mod (x / 2 / (sq g + 1)) (sq g + 1)
  have h2 := Nat.div_add_mod (x / 2) (sq g + 1)
  rw [Nat.mul_comm] at h1 h2
  rw [h1, h2]
  omega
theorem cm_get (w : qF g) {s : Nat} (hs : s < 8) (hsw : s.testBit 2 = true → qw g = qh g) : ivC (qw g) (qh g) s = true ∧ ∀ t, t < 8 → (t.testBit 2 = true → qw g = qh g) → cmC (qw g) (qh g) s t = true := by
  have h1 := List.all_eq_true.mp cm_all (qw g) (List.mem_range.mpr (by have := w.2.1; omega))
  have h2 := List.all_eq_true.mp h1 (qh g) (List.mem_range.mpr (by have := w.2.2.2.1; omega))
  rw [decide_eq_false (by have := w.1; omega), decide_eq_false (by have := w.2.2.1; omega), decide_eq_false (by have := w.2.2.2.2.1; omega), Bool.false_or, Bool.false_or, Bool.false_or] at h2
  have h3 := List.all_eq_true.mp h2 s (List.mem_range.mpr hs)
  have h4 : ∀ s : Nat, (s.testBit 2 = true → qw g = qh g) → (s.testBit 2 && decide (qw g ≠ qh g)) = false := fun s hsw => by
    by_cases c : s.testBit 2 = true
    · simp [hsw c]
    · simp [show s.testBit 2 = false by simpa using c]
  rw [h4 s hsw, Bool.false_or, Bool.and_eq_true] at h3
  refine ⟨h3.1, fun t ht htw => ?_⟩
  have h5 := List.all_eq_true.mp h3.2 t (List.mem_range.mpr ht)
  rw [h4 t htw, Bool.false_or] at h5
  exact h5
theorem isSy_of {u : Nat} (h1 : pawns g (qn g) = true → u < 2) (h2 : u.testBit 2 = true → qw g = qh g) (h3 : ∀ p, p < sq g → (qo g).testBit (trn g u p) = (qo g).testBit p) : isSy g u = true := by
  unfold isSy isSyN
  rw [Bool.and_eq_true, Bool.and_eq_true, List.all_eq_true]
  refine ⟨⟨?_, ?_⟩, fun p hp => by rw [h3 p (List.mem_range.mp hp)]; simp⟩
  · rw [Bool.not_eq_true', Bool.and_eq_false_iff]
    cases c : pawns g (qn g) with
    | false => exact Or.inl rfl
    | true => right; exact decide_eq_false (by have := h1 c; omega)
  · rw [Bool.not_eq_true', Bool.and_eq_false_iff]
    cases c : u.testBit 2 with
    | false => exact Or.inl rfl
    | true => right; exact decide_eq_false (fun q => q (h2 c))
theorem sy_1 {s : Nat} (hy : isSy g s = true) (hp : pawns g (qn g) = true) : s < 2 := by
  simp only [isSy, Bool.and_eq_true, Bool.not_eq_true'] at hy
  have h := hy.1.1
  rw [hp, Bool.true_and, decide_eq_false_iff_not] at h
  omega
theorem sy_comp (w : qF g) {s t : Nat} (hs : s < 8) (ht : t < 8) (hys : isSy g s = true) (hyt : isSy g t = true) : ∃ u, u < 8 ∧ isSy g u = true ∧ ∀ p, p ≤ sq g → trn g t (trn g s p) = trn g u p := by
  have h1 := (cm_get w hs (isSy_sq hys)).2 t ht (isSy_sq hyt)
  obtain ⟨u, hu, h2⟩ := List.any_eq_true.mp h1
  simp only [Bool.and_eq_true, Bool.or_eq_true, Bool.not_eq_true', beq_iff_eq, decide_eq_true_eq] at h2
  have h3 : ∀ p, p ≤ sq g → trn g t (trn g s p) = trn g u p := fun p hp => beq_iff_eq.mp (List.all_eq_true.mp h2.2 p (List.mem_range.mpr (Nat.lt_succ_of_le hp)))
  refine ⟨u, List.mem_range.mp hu, isSy_of (fun hp => ?_) (fun c => ?_) (fun p hp => ?_), h3⟩
  · have := sy_1 hys hp
    have := sy_1 hyt hp
    omega
  · rcases h2.1.1 with z | z
    · rw [z] at c; cases c
    · exact z
  · rw [← h3 p (Nat.le_of_lt hp), sy_hole hyt (trn_lt w (isSy_sq hys) hp), sy_hole hys hp]
theorem sy_inv (w : qF g) {s : Nat} (hs : s < 8) (hys : isSy g s = true) : ∃ u, u < 8 ∧ isSy g u = true ∧ ∀ p, p ≤ sq g → trn g u (trn g s p) = p := by
  have h1 := (cm_get w hs (isSy_sq hys)).1
  obtain ⟨u, hu, h2⟩ := List.any_eq_true.mp h1
  simp only [Bool.and_eq_true, Bool.or_eq_true, Bool.not_eq_true', beq_iff_eq, decide_eq_true_eq] at h2
  have h3 : ∀ p, p ≤ sq g → trn g u (trn g s p) = p := fun p hp => beq_iff_eq.mp (List.all_eq_true.mp h2.2 p (List.mem_range.mpr (Nat.lt_succ_of_le hp)))
  refine ⟨u, List.mem_range.mp hu, isSy_of (fun hp => ?_) (fun c => ?_) (fun q hq => ?_), h3⟩
  · have := sy_1 hys hp
    omega
  · rcases h2.1.1 with z | z
    · rw [z] at c; cases c
    · exact z
  · obtain ⟨p, hp, e⟩ := (tn_ok w hs (isSy_sq hys)).1 q hq
    rw [← e, h3 p (Nat.le_of_lt hp), sy_hole hys hp]
theorem trn_0 {p : Nat} : trn g 0 p = p := by
  unfold trn trX trY
  simp only [Nat.zero_testBit, Bool.false_eq_true, if_false]
  split
  · rfl
  · rw [Nat.mul_comm]; exact Nat.div_add_mod p (qw g)
theorem sy_0 : isSy g 0 = true := isSy_of (fun _ => by omega) (fun c => by rw [Nat.zero_testBit] at c; cases c) (fun p _ => by rw [trn_0])
theorem imI_0 {x : Nat} : imI g x 0 = x := by
  unfold imI
  rw [ixo_cg (P' := plc g x) (fun m _ => trn_0)]
  exact ixo_plc
theorem imI_comp (w : qF g) {s t u x : Nat} (hsw : s.testBit 2 = true → qw g = qh g) (hx : x < nx g) (h : ∀ p, p ≤ sq g → trn g t (trn g s p) = trn g u p) : imI g (imI g x s) t = imI g x u := by
  obtain ⟨e1, e2, e3⟩ := plc_im w hsw hx
  show ixo g (fun m => trn g t (plc g (imI g x s) m)) (imI g x s % 2) = ixo g (fun m => trn g u (plc g x m)) (x % 2)
  rw [e1, e3]
  exact ixo_cg (fun m _ => h _ (plc_le hx m)) _
theorem canN_le {x : Nat} : ∀ n, canN g x n ≤ x ∧ ∀ s, s < n → isSy g s = true → canN g x n ≤ imI g x s
  | 0 => ⟨Nat.le_refl _, fun s hs => absurd hs (Nat.not_lt_zero _)⟩
  | n + 1 => by
    obtain ⟨h1, h2⟩ := @canN_le x n
    rw [canN]
    refine ⟨Nat.le_trans (Nat.min_le_right _ _) h1, fun s hs hy => ?_⟩
    by_cases c : s = n
    · subst c
      rw [if_pos hy]; exact Nat.min_le_left _ _
    · exact Nat.le_trans (Nat.min_le_right _ _) (h2 s (by omega) hy)
theorem canN_mem {x : Nat} : ∀ n, n ≤ 8 → ∃ s, s < 8 ∧ isSy g s = true ∧ canN g x n = imI g x s
  | 0, _ => ⟨0, by omega, sy_0, imI_0.symm⟩
  | n + 1, hn => by
    obtain ⟨s, h1, h2, h3⟩ := @canN_mem x n (by omega)
    rw [canN]
    by_cases c : isSy g n = true
    · rw [if_pos c]
      rcases Nat.le_total (imI g x n) (canN g x n) with z | z
      · exact ⟨n, by omega, c, Nat.min_eq_left z⟩
      · exact ⟨s, h1, h2, by rw [Nat.min_eq_right z]; exact h3⟩
    · rw [if_neg c, Nat.min_eq_right (canN_le n).1]
      exact ⟨s, h1, h2, h3⟩
theorem can_mem (x : Nat) : ∃ s, s < 8 ∧ isSy g s = true ∧ can g x = imI g x s := canN_mem 8 (Nat.le_refl _)
theorem can_le {x s : Nat} (hs : s < 8) (hy : isSy g s = true) : can g x ≤ imI g x s := (canN_le 8).2 s hs hy
theorem can_im (w : qF g) {s x : Nat} (hs : s < 8) (hy : isSy g s = true) (hx : x < nx g) : can g (imI g x s) = can g x := by
  refine Nat.le_antisymm ?_ ?_
  · obtain ⟨t, h1, h2, h3⟩ := can_mem (g := g) x
    obtain ⟨r, a1, a2, a3⟩ := sy_inv w hs hy
    obtain ⟨u, b1, b2, b3⟩ := sy_comp w a1 h1 a2 h2
    have e : imI g (imI g x s) u = imI g x t := by
      refine imI_comp w (isSy_sq hy) hx (fun p hp => ?_)
      rw [← b3 _ (trn_le w (isSy_sq hy) hp), a3 p hp]
    rw [h3, ← e]
    exact can_le b1 b2
  · obtain ⟨t, h1, h2, h3⟩ := can_mem (g := g) (imI g x s)
    obtain ⟨u, b1, b2, b3⟩ := sy_comp w hs h1 hy h2
    rw [h3, imI_comp w (isSy_sq hy) hx b3]
    exact can_le b1 b2
theorem can_can (w : qF g) {x : Nat} (hx : x < nx g) : can g (can g x) = can g x := by
  obtain ⟨s, h1, h2, h3⟩ := can_mem (g := g) x
  have := can_im w h1 h2 hx
  rw [← h3] at this; exact this
theorem orb (w : qF g) {x y : Nat} (hx : x < nx g) (hy : y < nx g) : can g y = can g x ↔ ∃ s, s < 8 ∧ isSy g s = true ∧ imI g x s = y := by
  constructor
  · intro h
    obtain ⟨s, h1, h2, h3⟩ := can_mem (g := g) x
    obtain ⟨t, k1, k2, k3⟩ := can_mem (g := g) y
    obtain ⟨r, a1, a2, a3⟩ := sy_inv w k1 k2
    obtain ⟨u, b1, b2, b3⟩ := sy_comp w h1 a1 h2 a2
    refine ⟨u, b1, b2, ?_⟩
    rw [← imI_comp w (isSy_sq h2) hx b3, ← h3, ← h, k3]
    have := imI_comp (u := 0) w (isSy_sq k2) hy (fun p hp => by rw [a3 p hp, trn_0])
    rw [this, imI_0]
  · rintro ⟨s, h1, h2, h3⟩
    rw [← h3]; exact can_im w h1 h2 hx
theorem can_lt (w : qF g) {x : Nat} (hx : x < nx g) : can g x < nx g := canN_lt w hx 8
theorem Ps_can (w : qF g) {x : Nat} (hx : x < nx g) : Ps g (can g x) = Ps g x := by
  obtain ⟨s, h1, h2, h3⟩ := can_mem (g := g) x
  rw [h3]; exact Ps_im w h1 h2 hx
theorem Ld_can (w : qF g) {x : Nat} (hx : x < nx g) (n : Nat) : Ld g n (can g x) = Ld g n x := by
  obtain ⟨s, h1, h2, h3⟩ := can_mem (g := g) x
  rw [h3]; exact Ld_im w h1 h2 n x hx
theorem Cv_can (w : qF g) {x : Nat} (hx : x < nx g) (n : Nat) : Cv g n (can g x) = Cv g n x := by
  obtain ⟨s, h1, h2, h3⟩ := can_mem (g := g) x
  rw [h3]; exact Cv_im w h1 h2 n x hx
theorem emp_can (w : qF g) {x : Nat} (hx : Ps g x = true) : (mvs g (can g x)).isEmpty = (mvs g x).isEmpty := by
  obtain ⟨s, h1, h2, h3⟩ := can_mem (g := g) x
  rw [h3]; exact emp_im w h1 h2 hx
theorem mnL_app {x : Nat} {l l' : List Nat} : ∀ k, k ≤ l.length → mnL g x (l ++ l') k = mnL g x l k
  | 0, _ => rfl
  | k + 1, hk => by
    rw [mnL, mnL, mnL_app k (by omega), List.getD_eq_getElem?_getD, List.getElem?_append_left (by omega), ← List.getD_eq_getElem?_getD]
theorem mnL_can {x : Nat} : ∀ n, mnL g x (syL g n) (syL g n).length = canN g x n
  | 0 => rfl
  | n + 1 => by
    have ih := @mnL_can x n
    rw [syL_succ, canN]
    by_cases c : isSy g n = true
    · rw [if_pos c, if_pos c, List.length_append, show ([n] : List Nat).length = 1 from rfl, mnL, mnL_app _ (Nat.le_refl _), ih]
      congr 1
      rw [List.getD_eq_getElem?_getD, List.getElem?_append_right (Nat.le_refl _), Nat.sub_self]; rfl
    · rw [if_neg c, if_neg c, List.append_nil, ih, Nat.min_eq_right (canN_le n).1]
theorem syL_mem {l : List Nat} (hl : l = syL g 8) {s : Nat} : s ∈ l ↔ s < 8 ∧ isSy g s = true := by
  rw [hl]
  unfold syL
  rw [List.mem_filter, List.mem_range]
def imB (g : Gm) (m x : Nat) : Bool := (List.range 8).any (fun s => isSy g s && imI g m s == x)
theorem imB_orb (w : qF g) {m x : Nat} (hm : m < nx g) (hx : x < nx g) : imB g m x = (can g x == can g m) := by
  rw [Bool.eq_iff_iff, beq_iff_eq, orb w hm hx]
  unfold imB
  rw [List.any_eq_true]
  constructor
  · rintro ⟨s, h1, h2⟩
    simp only [Bool.and_eq_true, beq_iff_eq] at h2
    exact ⟨s, List.mem_range.mp h1, h2.1, h2.2⟩
  · rintro ⟨s, h1, h2, h3⟩
    exact ⟨s, List.mem_range.mpr h1, by simp [h2, h3]⟩
theorem rpt_cnt (w : qF g) {m : Nat} (hm : m < nx g) (q : Nat → Bool) : cN (fun k => !rpt g m (syL g 8) k k && q (imI g m ((syL g 8).getD k 0))) (syL g 8).length = cN (fun x => imB g m x && q x) (nx g) := by
  obtain ⟨l, hl⟩ : ∃ l, l = syL g 8 := ⟨_, rfl⟩
  rw [← hl]
  have h1 := cN_fo (p := fun _ => true) (q := q) (f := fun k => imI g m (l.getD k 0)) (N := nx g) l.length (fun k hk _ => by
    have := List.mem_of_getElem? (getD_some hk)
    exact imI_lt w hm (isSy_sq ((syL_mem hl).mp this).2))
  rw [cN_cg (D' := fun s => fo (fun _ => true) (fun k => imI g m (l.getD k 0)) s && q (imI g m (l.getD s 0))) (fun k _ => ?_), h1]
  · refine cN_cg (fun x _ => ?_)
    congr 1
    unfold imB
    rw [Bool.eq_iff_iff, List.any_eq_true, List.any_eq_true]
    constructor
    · rintro ⟨k, hk, e⟩
      have hk := List.mem_range.mp hk
      have := (syL_mem hl).mp (List.mem_of_getElem? (getD_some hk))
      exact ⟨l.getD k 0, List.mem_range.mpr this.1, by rw [this.2]; simpa using e⟩
    · rintro ⟨s, hs, e⟩
      simp only [Bool.and_eq_true] at e
      obtain ⟨k, hk, ek⟩ := List.mem_iff_getElem.mp ((syL_mem hl).mpr ⟨List.mem_range.mp hs, e.1⟩)
      refine ⟨k, List.mem_range.mpr hk, ?_⟩
      rw [List.getD_eq_getElem?_getD, List.getElem?_eq_getElem hk, ek]
      simpa using e.2
  · show (!rpt g m l k k && _) = _
    congr 1
    unfold fo rpt
    rw [Bool.true_and, Bool.eq_iff_iff, Bool.not_eq_true', Bool.eq_false_iff, List.all_eq_true]
    constructor
    · intro h b hb
      have : ¬ (imI g m (l.getD b 0) == imI g m (l.getD k 0)) = true := fun z => h (List.any_eq_true.mpr ⟨b, hb, z⟩)
      simpa using this
    · intro h z
      obtain ⟨b, hb, e⟩ := List.any_eq_true.mp z
      have := h b hb
      simp at this e
      exact this e
theorem newI_cnt (w : qF g) {m : Nat} (hm : m < nx g) : cN (newI g m) 8 = cN (fun k => !rpt g m (syL g 8) k k) (syL g 8).length := by
  have h1 := rpt_cnt w hm (fun _ => true)
  simp only [Bool.and_true] at h1
  rw [h1]
  have h2 := cN_fo (p := isSy g) (q := fun _ => true) (f := imI g m) (N := nx g) 8 (fun s hs hy => imI_lt w hm (isSy_sq hy))
  simp only [Bool.and_true] at h2
  exact h2
end
