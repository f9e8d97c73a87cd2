def TT (g : Gm) (s : Nat) (P : Nat → Nat) : Nat → Nat := fun m => trn g s (P m)
def imv (g : Gm) (s : Nat) (v : Nat × Nat × Option Nat × Nat) : Nat × Nat × Option Nat × Nat := (v.1, trn g s v.2.1, v.2.2.1, imI g v.2.2.2 s)
theorem any_mem {α : Type} {l : List α} {p q : α → Bool} (h : ∀ v, v ∈ l → p v = q v) : l.any p = l.any q := by
  induction l with
  | nil => rfl
  | cons a l ih => rw [List.any_cons, List.any_cons, h a (List.mem_cons_self ..), ih (fun v hv => h v (List.mem_cons_of_mem _ hv))]
theorem all_mem {α : Type} {l : List α} {p q : α → Bool} (h : ∀ v, v ∈ l → p v = q v) : l.all p = l.all q := by
  induction l with
  | nil => rfl
  | cons a l ih => rw [List.all_cons, List.all_cons, h a (List.mem_cons_self ..), ih (fun v hv => h v (List.mem_cons_of_mem _ hv))]
theorem any_im {α : Type} {l l' : List α} {f : α → α} {p : α → Bool} (h1 : ∀ v, v ∈ l → f v ∈ l') (h2 : ∀ v', v' ∈ l' → ∃ v, v ∈ l ∧ f v = v') : l'.any p = l.any (fun v => p (f v)) := by
  rw [Bool.eq_iff_iff, List.any_eq_true, List.any_eq_true]
  constructor
  · rintro ⟨v', a, b⟩
    obtain ⟨v, c, e⟩ := h2 v' a
    exact ⟨v, c, by rw [e]; exact b⟩
  · rintro ⟨v, a, b⟩
    exact ⟨f v, h1 v a, b⟩
theorem all_im {α : Type} {l l' : List α} {f : α → α} {p : α → Bool} (h1 : ∀ v, v ∈ l → f v ∈ l') (h2 : ∀ v', v' ∈ l' → ∃ v, v ∈ l ∧ f v = v') : l'.all p = l.all (fun v => p (f v)) := by
  rw [Bool.eq_iff_iff, List.all_eq_true, List.all_eq_true]
  constructor
  · intro h v a
    exact h _ (h1 v a)
  · intro h v' a
    obtain ⟨v, c, e⟩ := h2 v' a
    rw [← e]; exact h v c
theorem mvs_iff {g : Gm} {x : Nat} {v : Nat × Nat × Option Nat × Nat} : v ∈ mvs g x ↔ ∃ m t, m < qn g ∧ t < sq g ∧ iof g m (x % 2) = true ∧ plc g x m < sq g ∧ mvT g (plc g x) (x % 2) m t = some v := by
  unfold mvs mvA
  rw [List.mem_flatMap]
  constructor
  · rintro ⟨m, hm, h1⟩
    unfold mvM at h1
    split at h1
    · rename_i c
      simp only [Bool.and_eq_true, decide_eq_true_eq] at c
      unfold mvR at h1
      obtain ⟨t, ht, h2⟩ := List.mem_filterMap.mp h1
      exact ⟨m, t, List.mem_range.mp hm, List.mem_range.mp ht, c.1, c.2, h2⟩
    · cases h1
  · rintro ⟨m, t, hm, ht, h1, h2, h3⟩
    refine ⟨m, List.mem_range.mpr hm, ?_⟩
    unfold mvM mvR
    rw [if_pos (by simp [h1, h2])]
    exact List.mem_filterMap.mpr ⟨t, List.mem_range.mpr ht, h3⟩
section
variable {g : Gm} {s : Nat}
theorem sy_hole (hy : isSy g s = true) {p : Nat} (hp : p < sq g) : (qo g).testBit (trn g s p) = (qo g).testBit p := by
  simp only [isSy, Bool.and_eq_true] at hy
  have h := hy.2
  unfold isSyN at h
  exact (beq_iff_eq.mp (List.all_eq_true.mp h p (List.mem_range.mpr hp))).symm
theorem sy_pw (hy : isSy g s = true) {m : Nat} (hm : m < qn g) : 1 < s → qk g m ≠ 9 := by
  intro h1 h2
  simp only [isSy, Bool.and_eq_true, Bool.not_eq_true'] at hy
  have h := hy.1.1
  have : pawns g (qn g) = true := List.any_eq_true.mpr ⟨m, List.mem_range.mpr hm, by simpa using h2⟩
  rw [this, decide_eq_true h1] at h
  cases h
theorem occN_T (w : qF g) (hs : s < 8) (hy : isSy g s = true) {P : Nat → Nat} (hP : ∀ m, P m ≤ sq g) : ∀ n p, p < sq g → (occN g (TT g s P) n).testBit (trn g s p) = (occN g P n).testBit p
  | 0, p, hp => sy_hole hy hp
  | n + 1, p, hp => by
    have ih := occN_T w hs hy hP n p hp
    have hsw := isSy_sq hy
    show (occN g (TT g s P) n ||| (if TT g s P n < sq g then 2 ^ TT g s P n else 0)).testBit (trn g s p) = (occN g P n ||| (if P n < sq g then 2 ^ P n else 0)).testBit p
    rw [Nat.testBit_or, Nat.testBit_or, ih]
    congr 1
    by_cases c : P n < sq g
    · have c' : TT g s P n < sq g := trn_lt w hsw c
      rw [if_pos c, if_pos c', Nat.testBit_two_pow, Nat.testBit_two_pow]
      exact decide_eq_decide.mpr (trn_inj w hs hsw (Nat.le_of_lt c) (Nat.le_of_lt hp))
    · have c' : ¬ TT g s P n < sq g := fun q => c ((trn_lt' w hsw (hP n)).mp q)
      rw [if_neg c, if_neg c']; simp
theorem attN_T (w : qF g) (hs : s < 8) (hy : isSy g s = true) {P : Nat → Nat} (hP : ∀ m, P m ≤ sq g) {t b : Nat} (ht : t < sq g) : ∀ n, n ≤ qn g → attN g (TT g s P) (trn g s t) b n = attN g P t b n
  | 0, _ => rfl
  | n + 1, hn => by
    have ih := attN_T w hs hy hP (b := b) ht n (by omega)
    have hsw := isSy_sq hy
    show (attN g (TT g s P) (trn g s t) b n || (iof g n b && decide (TT g s P n < sq g) && rch g n (TT g s P n) (trn g s t) (occ g (TT g s P)) true)) = (attN g P t b n || (iof g n b && decide (P n < sq g) && rch g n (P n) t (occ g P) true))
    rw [ih]
    congr 1
    by_cases c : P n < sq g
    · have c' : TT g s P n < sq g := trn_lt w hsw c
      rw [decide_eq_true c, decide_eq_true c']
      congr 1
      exact rch_T w hs hsw (sy_pw hy (by omega)) c ht (fun p hp => occN_T w hs hy hP (qn g) p hp)
    · have c' : ¬ TT g s P n < sq g := fun q => c ((trn_lt' w hsw (hP n)).mp q)
      rw [decide_eq_false c, decide_eq_false c', Bool.and_false, Bool.false_and, Bool.false_and]
theorem chk_T (w : qF g) (hs : s < 8) (hy : isSy g s = true) {P : Nat → Nat} (hP : ∀ m, P m ≤ sq g) {s' : Nat} (hr : P (roy g s') < sq g) : chk g (TT g s P) s' = chk g P s' := attN_T w hs hy hP hr _ (Nat.le_refl _)
theorem posC_T (w : qF g) (hs : s < 8) (hy : isSy g s = true) {P : Nat → Nat} (hP : ∀ m, P m ≤ sq g) : posC g (TT g s P) ↔ posC g P := by
  have hsw := isSy_sq hy
  have lt : ∀ m, TT g s P m < sq g ↔ P m < sq g := fun m => trn_lt' w hsw (hP m)
  have eq : ∀ m m', TT g s P m = TT g s P m' ↔ P m = P m' := fun m m' => trn_inj w hs hsw (hP m) (hP m')
  have es : ∀ m, TT g s P m = sq g ↔ P m = sq g := fun m => by
    have := trn_inj w hs hsw (hP m) (Nat.le_refl (sq g))
    rw [trn_sq] at this; exact this
  have ho : ∀ m, P m < sq g → (qo g).testBit (TT g s P m) = (qo g).testBit (P m) := fun m h => sy_hole hy h
  constructor
  · rintro ⟨h1, h2, h3, h4⟩
    refine ⟨fun s' hs' => (lt _).mp (h1 s' hs'), fun m hm h => ?_, fun m m' hm hm' hne h => ?_, fun m hm hn => (es m).mp (h4 m hm hn)⟩
    · rw [← ho m h]; exact h2 m hm ((lt m).mpr h)
    · exact fun e => h3 m m' hm hm' hne ((lt m).mpr h) ((eq m m').mpr e)
  · rintro ⟨h1, h2, h3, h4⟩
    refine ⟨fun s' hs' => (lt _).mpr (h1 s' hs'), fun m hm h => ?_, fun m m' hm hm' hne h => ?_, fun m hm hn => (es m).mpr (h4 m hm hn)⟩
    · have h := (lt m).mp h
      rw [ho m h]; exact h2 m hm h
    · exact fun e => h3 m m' hm hm' hne ((lt m).mp h) ((eq m m').mp e)
theorem plc_im (w : qF g) (hsw : s.testBit 2 = true → qw g = qh g) {x : Nat} (hx : x < nx g) : imI g x s % 2 = x % 2 ∧ imI g x s < nx g ∧ plc g (imI g x s) = TT g s (plc g x) := by
  have hP : ∀ m, m < 3 → trn g s (plc g x m) ≤ sq g := fun m _ => trn_le w hsw (plc_le hx m)
  obtain ⟨e1, e2, e3⟩ := plc_ixo (s := x % 2) (by omega) hP
  refine ⟨e1, e2, funext fun m => ?_⟩
  by_cases c : m < 3
  · exact e3 m c
  · have a1 : ∀ y, plc g y m = plc g y 2 := fun y => by
      unfold plc
      rw [if_neg (by omega), if_neg (by omega), if_neg (by omega), if_neg (by omega)]
    show plc g (imI g x s) m = trn g s (plc g x m)
    rw [a1, a1]; exact e3 2 (by omega)
theorem Ps_im (w : qF g) (hs : s < 8) (hy : isSy g s = true) {x : Nat} (hx : x < nx g) : Ps g (imI g x s) = Ps g x := by
  obtain ⟨e1, e2, e3⟩ := plc_im w (isSy_sq hy) hx
  rw [Bool.eq_iff_iff, Ps_iff w, Ps_iff w, e1, e3, posC_T w hs hy (plc_le hx)]
  constructor
  · rintro ⟨-, h2, h3⟩
    rw [chk_T w hs hy (plc_le hx) (h2.1 (1 - x % 2) (by omega))] at h3
    exact ⟨hx, h2, h3⟩
  · rintro ⟨-, h2, h3⟩
    refine ⟨e2, h2, ?_⟩
    rw [chk_T w hs hy (plc_le hx) (h2.1 (1 - x % 2) (by omega))]
    exact h3
theorem matN_T (w : qF g) (hs : s < 8) (hsw : s.testBit 2 = true → qw g = qh g) {P : Nat → Nat} (hP : ∀ m, P m ≤ sq g) {t : Nat} (ht : t < sq g) : ∀ n, matN (TT g s P) (trn g s t) n = matN P t n
  | 0 => rfl
  | n + 1 => by
    rw [matN, matN, matN_T w hs hsw hP ht n]
    by_cases c : P n = t
    · rw [if_pos c, if_pos (show TT g s P n = trn g s t by unfold TT; rw [c])]
    · rw [if_neg c, if_neg (show ¬ TT g s P n = trn g s t from fun q => c ((trn_inj w hs hsw (hP n) (Nat.le_of_lt ht)).mp q))]
theorem gone_T (w : qF g) (hs : s < 8) (hsw : s.testBit 2 = true → qw g = qh g) {P : Nat → Nat} (hP : ∀ m, P m ≤ sq g) {m t : Nat} (ht : t < sq g) : gone g (TT g s P) m (trn g s t) = TT g s (gone g P m t) := by
  have e : mat g (TT g s P) (trn g s t) = mat g P t := matN_T w hs hsw hP ht _
  funext i
  unfold gone
  rw [e]
  cases mat g P t with
  | none =>
    show (if i = m then trn g s t else trn g s (P i)) = trn g s (if i = m then t else P i)
    split <;> rfl
  | some q =>
    show (if i = q then sq g else if i = m then trn g s t else trn g s (P i)) = trn g s (if i = q then sq g else if i = m then t else P i)
    split
    · exact trn_sq.symm
    · split <;> rfl
theorem gone_le {P : Nat → Nat} (hP : ∀ m, P m ≤ sq g) {m t : Nat} (ht : t < sq g) (i : Nat) : gone g P m t i ≤ sq g := by
  have h8 := hP i
  unfold gone
  cases mat g P t with
  | none => simp only [uP]; split <;> omega
  | some q =>
    simp only [uP]
    split
    · omega
    · split <;> omega
theorem ixo_cg {P P' : Nat → Nat} (h : ∀ m, m < 3 → P m = P' m) (b : Nat) : ixo g P b = ixo g P' b := by
  unfold ixo
  rw [h 0 (by omega), h 1 (by omega), h 2 (by omega)]
theorem mvT_T (w : qF g) (hs : s < 8) (hy : isSy g s = true) {P : Nat → Nat} (hP : ∀ m, P m ≤ sq g) {s' m t : Nat} (hs' : s' ≤ 1) (hC : posC g P) (hck : chk g P (1 - s') = false) (hm : m < qn g) (ht : t < sq g) (hme : iof g m s' = true) (hPm : P m < sq g) : mvT g (TT g s P) s' m (trn g s t) = (mvT g P s' m t).map (imv g s) := by
  have hsw := isSy_sq hy
  have e : mat g (TT g s P) (trn g s t) = mat g P t := matN_T w hs hsw hP ht _
  have c1 : canGo g (TT g s P) s' m (trn g s t) = canGo g P s' m t := by
    unfold canGo
    rw [e, sy_hole hy ht]
    have : (trn g s t == TT g s P m) = (t == P m) := by
      rw [Bool.eq_iff_iff, beq_iff_eq, beq_iff_eq]
      exact trn_inj w hs hsw (Nat.le_of_lt ht) (hP m)
    rw [this]
  have c2 : rch g m (TT g s P m) (trn g s t) (occ g (TT g s P)) (mat g P t).isSome = rch g m (P m) t (occ g P) (mat g P t).isSome := rch_T w hs hsw (sy_pw hy hm) hPm ht (fun p hp => occN_T w hs hy hP (qn g) p hp)
  unfold mvT
  rw [c1, e, c2]
  by_cases c : (canGo g P s' m t && rch g m (P m) t (occ g P) (mat g P t).isSome) = true
  · rw [c, Bool.true_and]
    have cc := c
    rw [Bool.and_eq_true] at cc
    obtain ⟨hG, -, -⟩ := gone_pos w hs' hC hck hm ht hme hPm cc.1 cc.2
    have c3 : chk g (gone g (TT g s P) m (trn g s t)) s' = chk g (gone g P m t) s' := by
      rw [gone_T w hs hsw hP ht]
      exact chk_T w hs hy (gone_le hP ht) (hG.1 s' (by omega))
    rw [c3, gone_T w hs hsw hP ht]
    have e4 : ixo g (TT g s (gone g P m t)) (1 - s') = imI g (ixo g (gone g P m t) (1 - s')) s := by
      obtain ⟨f1, f2, f3⟩ := plc_ixo (s := 1 - s') (by omega) (fun i (_ : i < 3) => gone_le hP (m := m) ht i)
      unfold imI
      rw [f1]
      exact ixo_cg (fun i hi => by show trn g s (gone g P m t i) = trn g s _; rw [f3 i hi]) _
    rw [e4, Bool.true_and]
    cases chk g (gone g P m t) s' <;> rfl
  · rw [Bool.eq_false_iff.mpr c]; simp only [Bool.false_and, Bool.false_eq_true, if_false]; rfl
theorem mv_im (w : qF g) (hs : s < 8) (hy : isSy g s = true) {x : Nat} (hx : Ps g x = true) : (∀ v, v ∈ mvs g x → imv g s v ∈ mvs g (imI g x s)) ∧ ∀ v', v' ∈ mvs g (imI g x s) → ∃ v, v ∈ mvs g x ∧ imv g s v = v' := by
  obtain ⟨hx1, hC, hck⟩ := (Ps_iff w).mp hx
  have hsw := isSy_sq hy
  obtain ⟨e1, e2, e3⟩ := plc_im w hsw hx1
  refine ⟨fun v hv => ?_, fun v' hv => ?_⟩
  · obtain ⟨m, t, hm, ht, h1, h2, h3⟩ := mvs_iff.mp hv
    refine mvs_iff.mpr ⟨m, trn g s t, hm, trn_lt w hsw ht, by rw [e1]; exact h1, by rw [e3]; exact trn_lt w hsw h2, ?_⟩
    rw [e1, e3, mvT_T w hs hy (plc_le hx1) (by omega) hC hck hm ht h1 h2, h3]; rfl
  · obtain ⟨m, t', hm, ht, h1, h2, h3⟩ := mvs_iff.mp hv
    rw [e1] at h1 h3
    rw [e3] at h2 h3
    have h2 := (trn_lt' w hsw (plc_le hx1 m)).mp h2
    obtain ⟨t, ht', et⟩ := (tn_ok w hs hsw).1 t' ht
    rw [← et, mvT_T w hs hy (plc_le hx1) (by omega) hC hck hm ht' h1 h2] at h3
    cases hv2 : mvT g (plc g x) (x % 2) m t with
    | none => rw [hv2] at h3; cases h3
    | some v =>
      rw [hv2] at h3
      refine ⟨v, mvs_iff.mpr ⟨m, t, hm, ht', h1, h2, hv2⟩, ?_⟩
      simpa using h3
theorem Ps_lt {x : Nat} (h : Ps g x = true) : x < nx g := by
  unfold Ps at h
  simp only [Bool.and_eq_true, decide_eq_true_eq] at h
  exact h.1
theorem emp_im (w : qF g) (hs : s < 8) (hy : isSy g s = true) {x : Nat} (hx : Ps g x = true) : (mvs g (imI g x s)).isEmpty = (mvs g x).isEmpty := by
  obtain ⟨h1, h2⟩ := mv_im w hs hy hx
  rw [Bool.eq_iff_iff, List.isEmpty_iff, List.isEmpty_iff]
  constructor
  · intro h
    cases hl : mvs g x with
    | nil => rfl
    | cons v l =>
      have := h1 v (by rw [hl]; exact List.mem_cons_self ..)
      rw [h] at this; cases this
  · intro h
    cases hl : mvs g (imI g x s) with
    | nil => rfl
    | cons v l =>
      obtain ⟨v', a, -⟩ := h2 v (by rw [hl]; exact List.mem_cons_self ..)
      rw [h] at a; cases a
theorem endV_im (w : qF g) (hs : s < 8) (hy : isSy g s = true) {x : Nat} (hx : Ps g x = true) : endV g (imI g x s) = endV g x := by
  obtain ⟨hx1, hC, hck⟩ := (Ps_iff w).mp hx
  obtain ⟨e1, e2, e3⟩ := plc_im w (isSy_sq hy) hx1
  unfold endV
  rw [e1, e3, chk_T w hs hy (plc_le hx1) (hC.1 (x % 2) (by omega))]
theorem Ld_im (w : qF g) (hs : s < 8) (hy : isSy g s = true) : ∀ n x, x < nx g → Ld g n (imI g x s) = Ld g n x := by
  intro n
  induction n with
  | zero =>
    intro x hx
    cases hP : Ps g x with
    | false => rw [Ld_no hP, Ld_no (by rw [Ps_im w hs hy hx]; exact hP)]
    | true => rw [Ld, Ld, Ps_im w hs hy hx, emp_im w hs hy hP, endV_im w hs hy hP]
  | succ n ih =>
    intro x hx
    cases hP : Ps g x with
    | false => rw [Ld_no hP, Ld_no (by rw [Ps_im w hs hy hx]; exact hP)]
    | true =>
      obtain ⟨h1, h2⟩ := mv_im w hs hy hP
      have ih' : ∀ v, v ∈ mvs g x → Ld g n (imI g v.2.2.2 s) = Ld g n v.2.2.2 := fun v hv => ih _ (Ps_lt (suc_Ps w hP hv))
      have a1 : (suc g (imI g x s)).any (fun y => (Ld g n y).1 == -1) = (suc g x).any (fun y => (Ld g n y).1 == -1) := by
        unfold suc
        rw [List.any_map, List.any_map, any_im h1 h2]
        exact any_mem (fun v hv => by show ((Ld g n (imI g v.2.2.2 s)).1 == -1) = _; rw [ih' v hv]; rfl)
      have a2 : (suc g (imI g x s)).all (fun y => (Ld g n y).1 == 1) = (suc g x).all (fun y => (Ld g n y).1 == 1) := by
        unfold suc
        rw [List.all_map, List.all_map, all_im h1 h2]
        exact all_mem (fun v hv => by show ((Ld g n (imI g v.2.2.2 s)).1 == 1) = _; rw [ih' v hv]; rfl)
      rw [Ld, Ld, Ps_im w hs hy hx, ih x hx, a1, a2]
theorem Lf_im (w : qF g) (hs : s < 8) (hy : isSy g s = true) {x : Nat} (hx : x < nx g) : Lf g (imI g x s) = Lf g x := Ld_im w hs hy _ x hx
theorem Cv_no {x : Nat} (h : Ps g x = false) : ∀ n, Cv g n x = (-5, false)
  | 0 => by rw [Cv, h, Bool.false_and, if_neg (by decide)]
  | n + 1 => by rw [Cv, h, Bool.false_and, Bool.false_and, if_neg (by decide), Cv_no h n]
theorem Cv_im (w : qF g) (hs : s < 8) (hy : isSy g s = true) : ∀ n x, x < nx g → Cv g n (imI g x s) = Cv g n x := by
  intro n
  induction n with
  | zero =>
    intro x hx
    cases hP : Ps g x with
    | false => rw [Cv_no hP, Cv_no (by rw [Ps_im w hs hy hx]; exact hP)]
    | true => rw [Cv, Cv, Ps_im w hs hy hx, emp_im w hs hy hP, Ld_im w hs hy 0 x hx]
  | succ n ih =>
    intro x hx
    cases hP : Ps g x with
    | false => rw [Cv_no hP, Cv_no (by rw [Ps_im w hs hy hx]; exact hP)]
    | true =>
      obtain ⟨h1, h2⟩ := mv_im w hs hy hP
      have ih' : ∀ v, v ∈ mvs g x → Cv g n (imI g v.2.2.2 s) = Cv g n v.2.2.2 := fun v hv => ih _ (Ps_lt (suc_Ps w hP hv))
      have il' : ∀ v, v ∈ mvs g x → Lf g (imI g v.2.2.2 s) = Lf g v.2.2.2 := fun v hv => Lf_im w hs hy (Ps_lt (suc_Ps w hP hv))
      have nw : ∀ v, v ∈ mvs g x → now g (imv g s v) = now g v := fun v hv => by
        unfold now
        show (v.2.2.1.isSome || (Lf g (imI g v.2.2.2 s)).2.1 == 0) = _
        rw [il' v hv]
      have a1 : (mvs g (imI g x s)).any (fun v => (now g v || (Cv g n v.2.2.2).2) && (Lf g v.2.2.2).1 == -1) = (mvs g x).any (fun v => (now g v || (Cv g n v.2.2.2).2) && (Lf g v.2.2.2).1 == -1) := by
        rw [any_im h1 h2]
        exact any_mem (fun v hv => by
          show ((now g (imv g s v) || (Cv g n (imI g v.2.2.2 s)).2) && (Lf g (imI g v.2.2.2 s)).1 == -1) = _
          rw [nw v hv, ih' v hv, il' v hv])
      have a2 : (mvs g (imI g x s)).all (fun v => now g v || (Cv g n v.2.2.2).2) = (mvs g x).all (fun v => now g v || (Cv g n v.2.2.2).2) := by
        rw [all_im h1 h2]
        exact all_mem (fun v hv => by
          show (now g (imv g s v) || (Cv g n (imI g v.2.2.2 s)).2) = _
          rw [nw v hv, ih' v hv])
      rw [Cv, Cv, Ps_im w hs hy hx, ih x hx, Lf_im w hs hy hx, a1, a2]
theorem Cf_im (w : qF g) (hs : s < 8) (hy : isSy g s = true) {x : Nat} (hx : x < nx g) : Cf g (imI g x s) = Cf g x := Cv_im w hs hy _ x hx
end
