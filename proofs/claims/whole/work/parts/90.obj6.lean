section
variable {g : Gm}
theorem cmF_some {x y : Nat} {m : Nat} : ∀ k m0, m0 ≤ m → m < m0 + k → (∀ i, m0 ≤ i → i < m → plc g x i = plc g y i) → plc g x m ≠ plc g y m → cmF g x y k m0 = some m
  | 0, m0, h1, h2, _, _ => by omega
  | k + 1, m0, h1, h2, h3, h4 => by
    rw [cmF]
    by_cases c : m0 = m
    · subst c; rw [if_neg h4]
    · rw [if_pos (h3 m0 (Nat.le_refl _) (by omega))]
      exact cmF_some k (m0 + 1) (by omega) (by omega) (fun i a b => h3 i (by omega) b) h4
theorem cmF_none {x y : Nat} : ∀ k m0, (∀ i, m0 ≤ i → i < m0 + k → plc g x i = plc g y i) → cmF g x y k m0 = none
  | 0, _, _ => rfl
  | k + 1, m0, h => by
    rw [cmF, if_pos (h m0 (Nat.le_refl _) (by omega))]
    exact cmF_none k (m0 + 1) (fun i a b => h i (by omega) (by omega))
/-- what a move changes: the man that moves, and the captured one -/
theorem mv_chg (w : qF g) {x : Nat} {v : Nat × Nat × Option Nat × Nat} (hP : Ps g x = true) (hv : v ∈ mvs g x) : v.1 < qn g ∧ cM g x v.2.2.2 (x % 2) = some v.1 ∧ plc g v.2.2.2 v.1 = v.2.1 ∧ cM g x v.2.2.2 (1 - x % 2) = v.2.2.1 ∧ ∀ q, v.2.2.1 = some q → q < qn g := by
  obtain ⟨hx, hC, hck⟩ := (Ps_iff w).mp hP
  obtain ⟨m, t, hm, ht, hme, hPm, hgo, hr, hk, e⟩ := mvs_mem hv
  have hn : qn g ≤ 3 := w.2.2.2.2.2.2.1
  have hbq := w.2.2.2.2.2.2.2.2.1
  obtain ⟨-, hq, -⟩ := gone_pos w (by omega) hC hck hm ht hme hPm hgo hr
  obtain ⟨-, -, e3⟩ := plc_ixo (s := 1 - x % 2) (by omega) (fun i (_ : i < 3) => gone_le (plc_le hx) (m := m) ht i)
  obtain ⟨y, hy⟩ : ∃ y, y = ixo g (gone g (plc g x) m t) (1 - x % 2) := ⟨_, rfl⟩
  rw [← hy] at e3 e
  have hval : ∀ i, i < 3 → plc g y i = if mat g (plc g x) t = some i then sq g else if i = m then t else plc g x i := by
    intro i hi
    rw [e3 i hi]
    unfold gone
    cases mat g (plc g x) t with
    | none => simp [uP]
    | some q =>
      simp only [uP, Option.some.injEq]
      by_cases e : i = q
      · subst e; simp
      · have : ¬ q = i := fun z => e z.symm
        simp [e, this]
  have hne : t ≠ plc g x m := by
    simp only [canGo, Bool.and_eq_true, Bool.not_eq_true', beq_eq_false_iff_ne] at hgo
    exact hgo.1.2
  have hmm : mat g (plc g x) t ≠ some m := fun z => (hq m z).2.2.1 rfl
  have range : ∀ s, s < 2 → roy g s ≤ eom g s ∧ eom g s ≤ qn g := fun s hs => by
    have : s = 0 ∨ s = 1 := by omega
    unfold roy eom
    rcases this with rfl | rfl <;> simp <;> omega
  have h1 := range (x % 2) (by omega)
  have h2 := range (1 - x % 2) (by omega)
  have own := (iof_r w (s := x % 2) (by omega) hm).mp hme
  have oth : ∀ i, roy g (1 - x % 2) ≤ i → i < eom g (1 - x % 2) → i ≠ m := fun i a b z => by
    have h3 : iof g m (1 - x % 2) = true := (iof_r w (by omega) hm).mpr ⟨by omega, by omega⟩
    have h4 : x % 2 = 0 ∨ x % 2 = 1 := by omega
    have h5 := hme
    unfold iof at h3 h5
    rcases h4 with q | q
    · rw [q] at h3 h5; simp at h3 h5; omega
    · rw [q] at h3 h5; simp at h3 h5; omega
  rw [e]
  refine ⟨hm, ?_, ?_, ?_, fun q z => (hq q z).1⟩
  · unfold cM
    refine cmF_some _ _ own.1 (by omega) (fun i a b => ?_) ?_
    · have hio : iof g i (x % 2) = true := (iof_r w (by omega) (by omega)).mpr ⟨a, by omega⟩
      rw [hval i (by omega), if_neg (fun z => by rw [(hq i z).2.2.2] at hio; cases hio), if_neg (by omega)]
    · rw [hval m (by omega), if_neg hmm, if_pos rfl]
      exact fun z => hne z.symm
  · show plc g y m = t
    rw [hval m (by omega), if_neg hmm, if_pos rfl]
  · show cM g x y (1 - x % 2) = mat g (plc g x) t
    unfold cM
    cases hmt : mat g (plc g x) t with
    | none =>
      refine cmF_none _ _ (fun i a b => ?_)
      rw [hval i (by omega), hmt, if_neg (by intro z; cases z), if_neg (oth i a (by omega))]
    | some q =>
      obtain ⟨q1, q2, q3, q4⟩ := hq q hmt
      have hqo : iof g q (1 - x % 2) = true := by
        unfold iof at q4 ⊢
        have : x % 2 = 0 ∨ x % 2 = 1 := by omega
        rcases this with z | z
        · rw [z] at q4 ⊢; simp at q4 ⊢; omega
        · rw [z] at q4 ⊢; simp at q4 ⊢; omega
      have hqr := (iof_r w (by omega) q1).mp hqo
      refine cmF_some _ _ hqr.1 (by omega) (fun i a b => ?_) ?_
      · rw [hval i (by omega), hmt, if_neg (by intro z; cases z; omega), if_neg (oth i a (by omega))]
      · rw [hval q (by omega), hmt, if_pos rfl, q2]; omega
end
section
variable {E : Wd} {h h' : Hp} {O M t r n : Nat} {s : Sg} {c c1 c2 : Sl} {bt bk : Option Bool} {g : Gm} {A A' : Nat → Nat → Int32} {d : Nat}
theorem c_manOnBoard {Q : Int32 → Hp → Prop} {x : Int32} {y : Nat} (C : CT E h O M s c1 c2 bt bk) (hg : sG s = some g) (hy : y < nx g) (h10 : ∀ k : Int32, 0 ≤ k → k < 10 → ¬ x = k) (hq : Q (boA g y x) h) : OkI E YX7_manOnBoard (d + 1) [.ref O, .int (x - 10), .int (nI y)] h Q := by
  refine rnX7_manOnBoard ?_
  obtain ⟨b0, t, r, A, hbt, hp, T, w, v, bd, o4, a4, n4⟩ := C.tb hg
  have K := T.1.2.2.1.1
  have hn : qn g ≤ 3 := w.2.2.2.2.2.2.1
  have hs := w.sq_lt
  have hpl := plc_le hy
  simp only [vcX7_manOnBoard_0, o4, a4, T.1.fs, true_and]
  rcases man10 w x with ⟨m1, m2⟩ | ⟨m, hm, e⟩
  · refine c_isMan K ?_
    rw [m2]
    refine ⟨fun z => absurd rfl z, fun _ => ?_⟩
    unfold boA at hq
    rw [m1, if_neg (by decide), if_neg (h10 0 (by decide) (by decide)), if_neg (h10 1 (by decide) (by decide)), if_neg (h10 2 (by decide) (by decide)), if_neg (h10 3 (by decide) (by decide)), if_neg (h10 4 (by decide) (by decide)), if_neg (h10 5 (by decide) (by decide)), if_neg (h10 6 (by decide) (by decide)), if_neg (h10 7 (by decide) (by decide)), if_neg (h10 8 (by decide) (by decide)), if_neg (h10 9 (by decide) (by decide))] at hq
    exact hq
  · obtain ⟨m1, m2, m3⟩ := man10_y w hm
    rw [e] at hq ⊢
    unfold boA at hq
    rw [m1, if_pos rfl, m3] at hq
    rw [m2]
    refine c_isMan K ?_
    rw [isM_nat w (by omega), decide_eq_true hm]
    refine ⟨fun _ => ⟨⟨_, K.1⟩, c_squareOf (m := m) K w hy (by omega) ?_⟩, fun z => absurd z (by decide)⟩
    have := hpl m
    simp only [K.fs, true_and]
    rw [nI_eq (by omega) (by omega)]
    refine ⟨fun z => ?_, fun z => ?_⟩
    · rw [if_pos (by omega)] at hq; exact hq
    · rw [if_neg (by omega)] at hq; exact hq
theorem boA_lo (w : qF g) {x : Int32} {y : Nat} (h : x < 10) : boA g y x = if x = 0 then nI y else if x = 1 then nI (y % 2) else if x = 2 then val g y else if x = 3 then tE g y else if x = 4 then tC g y else if x = 5 then vdt g y else
  if x = 6 then bI (chk g (plc g y) (y % 2)) else if x = 7 then nI (mvs g y).length else if x = 8 then nI (can g y) else if x = 9 then nI (cN (newI g y) 8) else -1 := by
  unfold boA
  rw [btw_no (Or.inl h), if_neg (by decide)]
theorem c_board {Q : Int32 → Hp → Prop} {x : Int32} (C : CT E h O M s c1 c2 bt bk) (hq : ∀ h', CT E h' O M s c1 c2 bt bk → FQ M h h' → Q (sBoard s x) h') : OkI E YX7_board (d + 5) [.ref O, .int x] h Q := by
  refine rnX7_board ⟨⟨_, C.1⟩, c_isPlaying C ?_⟩
  unfold sBoard at hq
  have h0 := hq h C (FQ.rfl M h)
  refine pN_c' (fun q => ?_) (fun q => ?_)
  · cases hg : sG s with
    | none => rw [hg] at h0; exact h0
    | some g => rw [hg] at h0; simp only [q, if_true] at h0; exact h0
  · obtain ⟨g, hg, hP, -⟩ := C.pl q
    obtain ⟨b0, t, r, A, hbt, hp, T, w, v, bd, o4, a4, n4⟩ := C.tb hg
    rw [hg] at hq h0
    simp only [q, if_false] at hq h0
    simp only [C.fp, true_and]
    refine c_present C.2.2.1 q ?_
    obtain ⟨y, hye⟩ : ∃ y, y = pHe (sP s) := ⟨_, rfl⟩
    rw [← hye] at hq h0 hP ⊢
    have hy := Ps_lt hP
    have V := T.2.2 y hy
    simp only [C.fp, true_and, o4, a4, T.1.fs]
    have lo : ∀ k : Int32, k < 10 → x = k → Q (if k = 0 then nI y else if k = 1 then nI (y % 2) else if k = 2 then val g y else if k = 3 then tE g y else if k = 4 then tC g y else if k = 5 then vdt g y else if k = 6 then bI (chk g (plc g y) (y % 2)) else if k = 7 then nI (mvs g y).length else if k = 8 then nI (can g y) else if k = 9 then nI (cN (newI g y) 8) else -1) h := fun k hk e => by
      rw [e, boA_lo w hk] at h0; exact h0
    refine ⟨fun z => lo 0 (by decide) z, fun z0 => ⟨fun z => ?_, fun z1 => ⟨fun z => c_valueOf T.1 w hy ?_, fun z2 => ⟨fun z => c_toEndOf T.1 w hy ?_, fun z3 => ⟨fun z => c_toConversionOf T.1 w hy ?_, fun z4 => ⟨fun z => c_verdictOf T.1 T.2.2 w hy (lo 5 (by decide) z), fun z5 => ⟨fun z => ?_, fun z6 => ⟨fun z => c_stepsOf T.1 T.2.1 w hP (lo 7 (by decide) z), fun z7 => ⟨fun z => c_canonicalOf T.1 w hy ?_, fun z8 => ⟨fun z => ?_, fun z9 => ?_⟩⟩⟩⟩⟩⟩⟩⟩⟩⟩
    · rw [n_lit1, nx_and, Nat.and_one_is_mod]; exact lo 1 (by decide) z
    · rw [V.1]; exact lo 2 (by decide) z
    · rw [V.2.1]; exact lo 3 (by decide) z
    · rw [V.2.2]; exact lo 4 (by decide) z
    · refine c_isRoyalAttacked T.1 w hP (fun h2 T2 F2 => ?_)
      rw [hbt] at C
      obtain ⟨C2, Fq⟩ := C.ft hp (T.sp T2) F2.ft
      have h2q := hq h2 (by rw [hbt]; exact C2) Fq
      rw [z, boA_lo w (by decide)] at h2q
      have h2q : Q (bI (chk g (plc g y) (y % 2))) h2 := h2q
      refine bI_c (fun z2 => ?_) (fun z2 => ?_)
      · rw [z2] at h2q; exact h2q
      · rw [z2] at h2q; exact h2q
    · rw [(T.2.1.1 y hy).1, if_pos hP]; exact lo 8 (by decide) z
    · refine c_differentImages (d := d + 1) T.1.2.2.1 w hy ?_
      rw [← newI_cnt w hy]; exact lo 9 (by decide) z
    · refine c_manOnBoard C hg hy (fun k hk1 hk2 e => ?_) h0
      obtain ⟨j, hj, ej⟩ : ∃ j, j < 10 ∧ k = nI j := by
        rcases pk_ix k (show 10 < 2 ^ 31 by omega) with y | y | y
        · exact absurd y (Int32.not_lt.mpr hk1)
        · exact absurd hk2 (Int32.not_lt.mpr y)
        · exact y
      rw [ej] at e
      have : j = 0 ∨ j = 1 ∨ j = 2 ∨ j = 3 ∨ j = 4 ∨ j = 5 ∨ j = 6 ∨ j = 7 ∨ j = 8 ∨ j = 9 := by omega
      rcases this with rfl | rfl | rfl | rfl | rfl | rfl | rfl | rfl | rfl | rfl
      · exact z0 e
      · exact z1 e
      · exact z2 e
      · exact z3 e
      · exact z4 e
      · exact z5 e
      · exact z6 e
      · exact z7 e
      · exact z8 e
      · exact z9 e
theorem c_move {Q : Int32 → Hp → Prop} {k x : Int32} (C : CT E h O M s c1 c2 bt bk) (hq : Q (sMove s k x) h) : OkI E YX7_move (d + 3) [.ref O, .int k, .int x] h Q := by
  refine rnX7_move ⟨⟨_, C.1⟩, c_isPlaying C ?_⟩
  unfold sMove at hq
  refine pN_c' (fun q => ?_) (fun q => ?_)
  · cases hg : sG s with
    | none => rw [hg] at hq; exact hq
    | some g => rw [hg] at hq; simp only [q, if_true] at hq; exact hq
  · obtain ⟨g, hg, hP, -⟩ := C.pl q
    obtain ⟨b0, t, r, A, hbt, hp, T, w, v, bd, o4, a4, n4⟩ := C.tb hg
    rw [hg] at hq
    simp only [q, if_false] at hq
    have hnx := nx_le w
    simp only [C.fp, true_and]
    refine c_present C.2.2.1 q ?_
    obtain ⟨y, hye⟩ : ∃ y, y = pHe (sP s) := ⟨_, rfl⟩
    rw [← hye] at hq hP ⊢
    have hy := Ps_lt hP
    simp only [o4, a4, T.1.fs, true_and]
    refine c_stepOfI T.1 T.2.1 w bd hP ?_
    cases hm : mvO g y k with
    | none =>
      rw [hm] at hq
      exact ⟨fun z => absurd z (by decide), fun _ => hq⟩
    | some v' =>
      have hv := mvO_in hm
      have hz := Ps_lt (suc_Ps w hP hv)
      obtain ⟨g1, g2, g3, g4, g5⟩ := mv_chg w hP hv
      have hn : qn g ≤ 3 := w.2.2.2.2.2.2.1
      have K := T.1.2.2.1.1
      rw [hm] at hq
      have hq : Q (mvW g v' x) h := hq
      unfold mvW at hq
      have V := T.2.2 v'.2.2.2 hz
      refine ⟨fun _ => ?_, fun z => absurd (nI_pos' (by omega)) z⟩
      simp only [o4, a4, T.1.fs, true_and]
      rw [n_lit1, nx_and, Nat.and_one_is_mod]
      refine c_changedMan K w hy hz (by omega) ?_
      rw [g2]
      simp only [C.fp, o4, a4, T.1.fs, true_and]
      refine ⟨fun z => ?_, fun z0 => ⟨fun z => c_squareOf K w hz (by omega) ?_, fun z1 => ⟨fun z => ?_, fun z2 => ⟨fun z => c_valueOf T.1 w hz ?_, fun z3 => ⟨fun z => c_toEndOf T.1 w hz ?_, fun z4 => ⟨fun z => c_toConversionOf T.1 w hz ?_, fun z5 => ⟨fun z => ?_, fun z6 => ?_⟩⟩⟩⟩⟩⟩⟩
      · rw [if_pos z] at hq; exact hq
      · have z1 : x = 1 := z
        rw [if_neg z0, if_pos z1] at hq; rw [g3]; exact hq
      · have z1' : ¬ x = 1 := z1
        rw [if_neg z0, if_neg z1', if_pos z] at hq
        refine rnX7_capturedMan ?_
        simp only [vcX7_capturedMan_0, o4, a4, T.1.fs, true_and]
        rw [n_lit1, nx_and, Nat.and_one_is_mod, n_sub (by omega)]
        refine c_changedMan K w hy hz (by omega) ?_
        rw [g4]
        cases hc : v'.2.2.1 with
        | none => rw [hc] at hq; exact ⟨fun z => absurd z (by decide), fun _ => hq⟩
        | some q' =>
          have := g5 q' hc
          rw [hc] at hq
          exact ⟨fun _ => hq, fun z => absurd (nI_pos' (by omega)) z⟩
      · have z1' : ¬ x = 1 := z1
        rw [if_neg z0, if_neg z1', if_neg z2, if_pos z] at hq; rw [V.1]; exact hq
      · have z1' : ¬ x = 1 := z1
        rw [if_neg z0, if_neg z1', if_neg z2, if_neg z3, if_pos z] at hq; rw [V.2.1]; exact hq
      · have z1' : ¬ x = 1 := z1
        rw [if_neg z0, if_neg z1', if_neg z2, if_neg z3, if_neg z4, if_pos z] at hq; rw [V.2.2]; exact hq
      · have z1' : ¬ x = 1 := z1
        rw [if_neg z0, if_neg z1', if_neg z2, if_neg z3, if_neg z4, if_neg z5, if_pos z] at hq; exact hq
      · have z1' : ¬ x = 1 := z1
        rw [if_neg z0, if_neg z1', if_neg z2, if_neg z3, if_neg z4, if_neg z5, if_neg z6] at hq; exact hq
end
