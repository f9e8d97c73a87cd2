theorem occN_congr {g : Gm} {P P' : Nat → Nat} (n : Nat) (h : ∀ m, m < n → P m = P' m) : occN g P n = occN g P' n := by
  induction n with
  | zero => rfl
  | succ n ih =>
    show occN g P n ||| _ = occN g P' n ||| _
    rw [ih (fun m hm => h m (by omega)), h n (by omega)]
theorem attN_congr {g : Gm} {P P' : Nat → Nat} {t b : Nat} (ho : occ g P = occ g P') (n : Nat) (h : ∀ m, m < n → P m = P' m) : attN g P t b n = attN g P' t b n := by
  induction n with
  | zero => rfl
  | succ n ih =>
    show (attN g P t b n || _) = (attN g P' t b n || _)
    rw [ih (fun m hm => h m (by omega)), h n (by omega), ho]
theorem chk_congr {g : Gm} (w : qF g) {P P' : Nat → Nat} (h : ∀ m, m < 3 → P m = P' m) (s : Nat) : chk g P s = chk g P' s := by
  have hn : qn g ≤ 3 := w.2.2.2.2.2.2.1
  have hr := roy_lt w s
  unfold chk att
  rw [h _ (by omega), attN_congr (occN_congr _ (fun m hm => h m (by omega))) _ (fun m hm => h m (by omega))]
theorem setN_bit (g : Gm) (P : Nat → Nat) (p : Nat) : ∀ n, (setN g P n).testBit p = true ↔ (qo g).testBit p = true ∨ ∃ m, m < n ∧ thr g P m = true ∧ P m = p
  | 0 => by simp [setN]
  | n + 1 => by
    rw [setN, Nat.testBit_or, Bool.or_eq_true, setN_bit g P p n]
    constructor
    · rintro ((h | ⟨m, h1, h2, h3⟩) | h)
      · exact Or.inl h
      · exact Or.inr ⟨m, by omega, h2, h3⟩
      · by_cases c : thr g P n = true
        · rw [if_pos c, Nat.testBit_two_pow] at h
          exact Or.inr ⟨n, by omega, c, by simpa using h⟩
        · rw [if_neg c] at h; simp at h
    · rintro (h | ⟨m, h1, h2, h3⟩)
      · exact Or.inl (Or.inl h)
      · by_cases c : m = n
        · subst c
          right
          rw [if_pos h2, Nat.testBit_two_pow]
          simpa using h3
        · exact Or.inl (Or.inr ⟨m, by omega, h2, h3⟩)
def posC (g : Gm) (P : Nat → Nat) : Prop := (∀ s, s < 2 → P (roy g s) < sq g) ∧ (∀ m, m < qn g → P m < sq g → (qo g).testBit (P m) = false) ∧ (∀ m m', m < qn g → m' < qn g → m ≠ m' → P m < sq g → P m ≠ P m') ∧ ∀ m, m < 3 → ¬ m < qn g → P m = sq g
theorem posN_iff {g : Gm} (w : qF g) (P : Nat → Nat) : posN g P 3 = true ↔ posC g P := by
  have hn : qn g ≤ 3 := w.2.2.2.2.2.2.1
  have hb := w.2.2.2.2.2.2.2.2.1
  have hb1 := w.2.2.2.2.2.2.2.1
  have key : ∀ n, posN g P n = true ↔ ∀ m, m < n → (thr g P m = true ∨ ¬ (m = 0 ∨ m = qb g)) ∧ (thr g P m = true → (qo g).testBit (P m) = false ∧ ∀ m', m' < m → thr g P m' = true → P m' ≠ P m) ∧ (m < qn g ∨ P m = sq g) := by
    intro n
    induction n with
    | zero => simp [posN]
    | succ n ih =>
      rw [posN, Bool.and_eq_true, ih]
      have e : ((thr g P n || !(n == 0 || n == qb g)) && !(thr g P n && (setN g P n).testBit (P n)) && (decide (n < qn g) || P n == sq g)) = true ↔ (thr g P n = true ∨ ¬ (n = 0 ∨ n = qb g)) ∧ (thr g P n = true → (qo g).testBit (P n) = false ∧ ∀ m', m' < n → thr g P m' = true → P m' ≠ P n) ∧ (n < qn g ∨ P n = sq g) := by
        have e1 : (!(thr g P n && (setN g P n).testBit (P n))) = true ↔ (thr g P n = true → (qo g).testBit (P n) = false ∧ ∀ m', m' < n → thr g P m' = true → P m' ≠ P n) := by
          have hs := setN_bit g P (P n) n
          cases ht : thr g P n with
          | false => simp
          | true =>
            simp only [Bool.true_and, Bool.not_eq_true', forall_const]
            constructor
            · intro h
              refine ⟨?_, fun m' h1 h2 h3 => ?_⟩
              · cases c : (qo g).testBit (P n) with
                | false => rfl
                | true => rw [hs.mpr (Or.inl c)] at h; cases h
              · rw [hs.mpr (Or.inr ⟨m', h1, h2, h3⟩)] at h; cases h
            · intro h
              cases c : (setN g P n).testBit (P n) with
              | false => rfl
              | true =>
                rcases hs.mp c with c1 | ⟨m', h1, h2, h3⟩
                · rw [h.1] at c1; cases c1
                · exact absurd h3 (h.2 m' h1 h2)
        rw [Bool.and_eq_true, Bool.and_eq_true, e1]
        simp
        grind
      rw [e]
      constructor
      · rintro ⟨h1, h2⟩ m hm
        by_cases c : m = n
        · subst c; exact h2
        · exact h1 m (by omega)
      · intro h
        exact ⟨fun m hm => h m (by omega), h n (by omega)⟩
  have ht : ∀ m, thr g P m = true ↔ m < qn g ∧ P m < sq g := by intro m; simp [thr]
  rw [key 3]
  constructor
  · intro h
    refine ⟨fun s hs => ?_, fun m hm h1 => ?_, fun m m' hm hm' hne h1 h2 => ?_, fun m hm h1 => ?_⟩
    · have hr := roy_lt w s
      have h1 := (h (roy g s) (by omega)).1
      rcases h1 with h1 | h1
      · exact ((ht _).mp h1).2
      · exact absurd (by unfold roy; split <;> simp) h1
    · exact ((h m (by omega)).2.1 ((ht m).mpr ⟨hm, h1⟩)).1
    · rcases Nat.lt_or_gt_of_ne hne with c | c
      · exact ((h m' (by omega)).2.1 ((ht m').mpr ⟨hm', by omega⟩)).2 m c ((ht m).mpr ⟨hm, h1⟩) h2
      · exact ((h m (by omega)).2.1 ((ht m).mpr ⟨hm, h1⟩)).2 m' c ((ht m').mpr ⟨hm', by omega⟩) h2.symm
    · rcases (h m hm).2.2 with c | c
      · exact absurd c h1
      · exact c
  · rintro ⟨h1, h2, h3, h4⟩ m hm
    refine ⟨?_, fun h5 => ?_, ?_⟩
    · by_cases c : m = 0 ∨ m = qb g
      · left
        rcases c with c | c
        · have := h1 0 (by omega); rw [show roy g 0 = 0 from rfl] at this; exact (ht m).mpr ⟨by omega, by rw [c]; exact this⟩
        · have := h1 1 (by omega); rw [show roy g 1 = qb g from rfl] at this; exact (ht m).mpr ⟨by omega, by rw [c]; exact this⟩
      · exact Or.inr c
    · have h6 := (ht m).mp h5
      refine ⟨h2 m h6.1 h6.2, fun m' h7 h8 h9 => ?_⟩
      have h10 := (ht m').mp h8
      exact h3 m' m h10.1 h6.1 (by omega) h10.2 h9
    · by_cases c : m < qn g
      · exact Or.inl c
      · exact Or.inr (h4 m hm c)
theorem mvs_mem {g : Gm} {x : Nat} {v : Nat × Nat × Option Nat × Nat} (h : v ∈ mvs g x) : ∃ m t, m < qn g ∧ t < sq g ∧ iof g m (x % 2) = true ∧ plc g x m < sq g ∧ canGo g (plc g x) (x % 2) m t = true ∧ rch g m (plc g x m) t (occ g (plc g x)) (mat g (plc g x) t).isSome = true ∧ chk g (gone g (plc g x) m t) (x % 2) = false ∧ v = (m, t, mat g (plc g x) t, ixo g (gone g (plc g x) m t) (1 - x % 2)) := by
  unfold mvs mvA at h
  obtain ⟨m, hm, h1⟩ := List.mem_flatMap.mp h
  unfold mvM at h1
  split at h1
  · rename_i c
    simp only [Bool.and_eq_true, decide_eq_true_eq] at c
    unfold mvR at h1
    obtain ⟨t, ht, h2⟩ := List.mem_filterMap.mp h1
    unfold mvT at h2
    split at h2
    · rename_i c2
      simp only [Bool.and_eq_true, Bool.not_eq_true'] at c2
      exact ⟨m, t, List.mem_range.mp hm, List.mem_range.mp ht, c.1, c.2, c2.1.1, c2.1.2, c2.2, by simpa using h2.symm⟩
    · cases h2
  · cases h1
theorem att_of {g : Gm} {P : Nat → Nat} {t b m : Nat} (hm : m < qn g) (h1 : iof g m b = true) (h2 : P m < sq g) (h3 : rch g m (P m) t (occ g P) true = true) : att g P t b = true := by
  have : ∀ n, m < n → attN g P t b n = true := by
    intro n
    induction n with
    | zero => intro h; omega
    | succ n ih =>
      intro h
      show (attN g P t b n || _) = true
      by_cases c : m = n
      · subst c; simp [h1, h2, h3]
      · rw [ih (by omega)]; rfl
  exact this _ hm
theorem matN_at {P : Nat → Nat} {t : Nat} : ∀ n m, m < n → P m = t → ∃ q, matN P t n = some q
  | 0, _, h, _ => by omega
  | n + 1, m, h, e => by
    rw [matN]
    by_cases c : P n = t
    · exact ⟨n, if_pos c⟩
    · rw [if_neg c]
      refine matN_at n m ?_ e
      by_cases c2 : m = n
      · subst c2; exact absurd e c
      · omega
theorem gone_pos {g : Gm} (w : qF g) {P : Nat → Nat} {s m t : Nat} (hs : s ≤ 1) (hC : posC g P) (hchk : chk g P (1 - s) = false) (hm : m < qn g) (ht : t < sq g) (hme : iof g m s = true) (hPm : P m < sq g) (hgo : canGo g P s m t = true) (hr : rch g m (P m) t (occ g P) (mat g P t).isSome = true) : posC g (gone g P m t) ∧ (∀ q, mat g P t = some q → q < qn g ∧ P q = t ∧ q ≠ m ∧ iof g q s = false) ∧ (∀ m', m' < qn g → m' ≠ m → P m' = t → mat g P t = some m') := by
  obtain ⟨h1, h2, h3, h4⟩ := hC
  have hn : qn g ≤ 3 := w.2.2.2.2.2.2.1
  simp only [canGo, Bool.and_eq_true, Bool.not_eq_true', beq_eq_false_iff_ne] at hgo
  have hq : ∀ q, mat g P t = some q → q < qn g ∧ P q = t ∧ q ≠ m ∧ iof g q s = false := by
    intro q hq
    have a := matN_lt P t _ q hq
    have b := hgo.2
    rw [hq] at b
    exact ⟨a.1, a.2, fun c => hgo.1.2 (by rw [← a.2, c]), by simpa using b⟩
  have hu : ∀ m', m' < qn g → m' ≠ m → P m' = t → mat g P t = some m' := by
    intro m' a b c
    obtain ⟨q, hq'⟩ := matN_at (qn g) m' a c
    have d := hq q hq'
    by_cases e : q = m'
    · rw [e] at hq'; exact hq'
    · exact absurd (c.trans d.2.1.symm) (h3 m' q a d.1 (fun z => e z.symm) (by omega))
  have hval : ∀ i, gone g P m t i = if mat g P t = some i then sq g else if i = m then t else P i := by
    intro i
    unfold gone
    cases hc : mat g P t with
    | none => simp [uP]
    | some q =>
      simp only [uP, Option.some.injEq]
      by_cases e : i = q
      · subst e; simp
      · have : ¬ q = i := fun z => e z.symm
        simp [e, this]
  have hroyS : ∀ s', s' < 2 → mat g P t ≠ some (roy g s') := by
    intro s' hs' c
    have a := hq _ c
    by_cases e : s' = s
    · subst e
      have : iof g (roy g s') s' = true := by
        unfold iof roy
        have := w.2.2.2.2.2.2.2.1
        by_cases c : s' = 0
        · simp [c]; omega
        · simp [c]
      rw [this] at a; exact absurd a.2.2.2 (by simp)
    · have e2 : s' = 1 - s := by omega
      subst e2
      rw [c] at hr
      have : chk g P (1 - s) = true := by
        unfold chk
        rw [a.2.1, show 1 - (1 - s) = s by omega]
        exact att_of hm hme hPm hr
      rw [this] at hchk; cases hchk
  refine ⟨⟨fun s' hs' => ?_, fun i hi h5 => ?_, fun i i' hi hi' hne h5 h6 => ?_, fun i hi h5 => ?_⟩, hq, hu⟩
  · rw [hval, if_neg (hroyS s' hs')]
    split
    · exact ht
    · exact h1 s' hs'
  · rw [hval] at h5 ⊢
    by_cases c : mat g P t = some i
    · rw [if_pos c] at h5; omega
    · rw [if_neg c] at h5 ⊢
      by_cases c2 : i = m
      · rw [if_pos c2]; exact hgo.1.1
      · rw [if_neg c2] at h5 ⊢; exact h2 i hi h5
  · rw [hval] at h5 h6
    rw [hval] at h6
    by_cases c : mat g P t = some i
    · rw [if_pos c] at h5; omega
    · rw [if_neg c] at h5 h6
      by_cases c' : mat g P t = some i'
      · rw [if_pos c'] at h6; omega
      · rw [if_neg c'] at h6
        by_cases c2 : i = m
        · rw [if_pos c2] at h6
          by_cases c3 : i' = m
          · omega
          · rw [if_neg c3] at h6
            exact c' (hu i' hi' c3 h6.symm)
        · rw [if_neg c2] at h5 h6
          by_cases c3 : i' = m
          · rw [if_pos c3] at h6
            exact c (hu i hi c2 h6)
          · rw [if_neg c3] at h6
            exact h3 i i' hi hi' hne h5 h6
  · rw [hval]
    have c : mat g P t ≠ some i := fun c => h5 (hq i c).1
    rw [if_neg c, if_neg (by omega)]
    exact h4 i hi h5
theorem posC_le {g : Gm} {P : Nat → Nat} (hP : ∀ m, m < 3 → P m ≤ sq g) {m t : Nat} (ht : t < sq g) : ∀ i, i < 3 → gone g P m t i ≤ sq g := by
  intro i hi
  have h8 := hP i hi
  unfold gone
  cases hqe : mat g P t with
  | none =>
    simp only [uP]
    split <;> omega
  | some q =>
    simp only [uP]
    split
    · omega
    · split <;> omega
theorem Ps_iff {g : Gm} (w : qF g) {x : Nat} : Ps g x = true ↔ x < nx g ∧ posC g (plc g x) ∧ chk g (plc g x) (1 - x % 2) = false := by
  simp only [Ps, poss, Bool.and_eq_true, decide_eq_true_eq, Bool.not_eq_true', posN_iff w]
theorem posC_congr {g : Gm} (w : qF g) {P P' : Nat → Nat} (h : ∀ m, m < 3 → P m = P' m) (hC : posC g P) : posC g P' := by
  have hn : qn g ≤ 3 := w.2.2.2.2.2.2.1
  obtain ⟨h1, h2, h3, h4⟩ := hC
  refine ⟨fun s hs => ?_, fun m hm => ?_, fun m m' hm hm' => ?_, fun m hm => ?_⟩
  · have := roy_lt w s
    rw [← h _ (by omega)]; exact h1 s hs
  · rw [← h m (by omega)]; exact h2 m hm
  · rw [← h m (by omega), ← h m' (by omega)]; exact h3 m m' hm hm'
  · rw [← h m hm]; exact h4 m hm
theorem suc_Ps {g : Gm} (w : qF g) {x : Nat} (hx : Ps g x = true) {v : Nat × Nat × Option Nat × Nat} (hv : v ∈ mvs g x) : Ps g v.2.2.2 = true := by
  obtain ⟨hx1, hC, hk⟩ := (Ps_iff w).mp hx
  obtain ⟨m, t, hm, ht, hme, hPm, hgo, hr, hck, rfl⟩ := mvs_mem hv
  have hs : x % 2 ≤ 1 := by omega
  obtain ⟨hG, -, -⟩ := gone_pos w hs hC hk hm ht hme hPm hgo hr
  have hle := posC_le (fun i _ => plc_le hx1 i) (m := m) ht
  obtain ⟨e1, e2, e3⟩ := plc_ixo (s := 1 - x % 2) (by omega) hle
  refine (Ps_iff w).mpr ⟨e2, posC_congr w (fun i hi => (e3 i hi).symm) hG, ?_⟩
  show chk g (plc g (ixo g (gone g (plc g x) m t) (1 - x % 2))) (1 - ixo g (gone g (plc g x) m t) (1 - x % 2) % 2) = false
  rw [e1, show 1 - (1 - x % 2) = x % 2 by omega, chk_congr w e3]
  exact hck
