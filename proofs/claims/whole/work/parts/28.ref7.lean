def nx (g : Gm) : Nat := (sq g + 1) * (sq g + 1) * (sq g + 1) * 2
theorem nx_le {g : Gm} (w : qF g) : nx g ≤ 4394 := by
  have h := w.sq_lt
  have h1 : (sq g + 1) * (sq g + 1) ≤ 13 * 13 := Nat.mul_le_mul (by omega) (by omega)
  have h2 : (sq g + 1) * (sq g + 1) * (sq g + 1) ≤ 13 * 13 * 13 := Nat.mul_le_mul h1 (by omega)
  unfold nx
  omega
theorem plc_le {g : Gm} {x : Nat} (hx : x < nx g) (m : Nat) : plc g x m ≤ sq g := by
  unfold plc nx at *
  split
  · have h1 : x / 2 < (sq g + 1) * (sq g + 1) * (sq g + 1) := by omega
    have h2 : x / 2 / (sq g + 1) < (sq g + 1) * (sq g + 1) := (Nat.div_lt_iff_lt_mul (by omega)).mpr h1
    have h3 : x / 2 / (sq g + 1) / (sq g + 1) < sq g + 1 := (Nat.div_lt_iff_lt_mul (by omega)).mpr h2
    omega
  · split
    · have := Nat.mod_lt (x / 2 / (sq g + 1)) (show 0 < sq g + 1 by omega); omega
    · have := Nat.mod_lt (x / 2) (show 0 < sq g + 1 by omega); omega
theorem pos_step {g : Gm} {P : Nat → Nat} (h : posN g P 3 = true) (m : Nat) (hm : m < 3) : posN g P (m + 1) = true := by
  have c2 : posN g P 2 = true := by rw [posN] at h; simp only [Bool.and_eq_true] at h; exact h.1
  have c1 : posN g P 1 = true := by rw [posN] at c2; simp only [Bool.and_eq_true] at c2; exact c2.1
  match m, hm with
  | 0, _ => exact c1
  | 1, _ => exact c2
  | 2, _ => exact h
theorem poss_roy {g : Gm} (w : qF g) {P : Nat → Nat} {s : Nat} (h : poss g P s = true) (s' : Nat) : P (roy g s') < sq g := by
  have h3 := roy_lt w s'
  have hn : qn g ≤ 3 := w.2.2.2.2.2.2.1
  simp only [poss, Bool.and_eq_true] at h
  have h4 := pos_step h.1 (roy g s') (by omega)
  rw [posN] at h4
  have h5 : (roy g s' == 0 || roy g s' == qb g) = true := by unfold roy; split <;> simp
  rw [h5] at h4
  simp [thr] at h4
  omega
section
variable {E : Wd} {h0 h : Hp} {M : Nat} {A : Nat → Nat → Int32} {f : Nat → Int32} {g : Gm} {d : Nat}
def FM (g : Gm) (A A' : Nat → Nat → Int32) (e : Nat) (P : Nat → Nat) (L : List (Nat × Nat × Option Nat × Nat)) : Prop :=
  MVs A' e L ∧ (∀ m, m < 3 → A' (6 + e) m = nI (P m)) ∧ ∀ j i, j ≠ 6 + e → offM e j i → A' j i = A j i
theorem FM.g2 {A' : Nat → Nat → Int32} {e : Nat} {P : Nat → Nat} {L : List (Nat × Nat × Option Nat × Nat)} (F : FM g A A' e P L) (hg : rA (A 2) g) : rA (A' 2) g := by
  have : A' 2 = A 2 := funext fun i => F.2.2 2 i (by omega) ⟨by omega, by omega, by omega, by omega, by omega⟩
  rw [this]; exact hg
theorem k_findMoves {Q : Hp → Prop} {e x : Nat} (R : Rf E h0 h M A f) (hg : rA (A 2) g) (w : qF g) (he : e < 6) (hx : x < nx g) (hpo : poss g (plc g x) (x % 2) = true)
    (hq : ∀ h' A', Rf E h0 h' M A' f → FM g A A' e (plc g x) (mvs g x) → Q h') : OkV E YX8_findMoves (d + 6) [.ref M, .int (nI e), .int (nI x)] h Q := by
  refine rnX8_findMoves (fun K25 K39 k25 k39 => ?_)
  have hn : qn g ≤ 3 := w.2.2.2.2.2.2.1
  have hsq := w.sq_lt
  have hnx := nx_le w
  have hj : rP (6 + e) := Or.inl ⟨by omega, by omega⟩
  obtain ⟨P, hPe⟩ : ∃ P, P = plc g x := ⟨_, rfl⟩
  obtain ⟨s, hse⟩ : ∃ s, s = x % 2 := ⟨_, rfl⟩
  have hs : s ≤ 1 := by omega
  rw [← hPe, ← hse] at hpo
  have hP : ∀ m, m < 3 → P m ≤ sq g := fun m _ => by rw [hPe]; exact plc_le hx m
  have hP' : ∀ m, m < 3 → P m < 2 ^ 31 := fun m hm => by have := hP m hm; omega
  have hroy := poss_roy w hpo s
  have outer := lp_up (K := fun m => ∀ h' A', Rf E h0 h' M A' f → FM g A A' e P (mvA g P s m) → K25 M (nI e) (nI s) (nI m) h') (qn g) (fun m hm ih h' A' R' F => by
    have hg' := F.g2 hg
    refine k25 _ _ _ _ _ ?_
    simp only [vcX8_findMoves_25, R'.fs, R'.gm hg', true_and, nI_leI (show qn g < 2 ^ 31 by omega) (show m < 2 ^ 31 by omega)]
    refine ⟨fun c => absurd c (by omega), fun _ => ?_⟩
    by_cases c : (iof g m s && decide (P m < sq g)) = true
    · have hM : mvM g P s m = mvR g P s m (sq g) := by unfold mvM; rw [if_pos c]
      simp only [Bool.and_eq_true, decide_eq_true_eq] at c
      have inner := lp_up (K := fun t => ∀ h' A', Rf E h0 h' M A' f → FM g A A' e P (mvA g P s m ++ mvR g P s m t) → K39 M (nI e) (nI s) (nI m) (nI t) h') (sq g) (fun t ht iht h' A' R' F => by
        have hg' := F.g2 hg
        refine k39 _ _ _ _ _ _ ⟨⟨_, R'.obj⟩, k_squares R' hg' ?_⟩
        rw [nI_leI (by omega) (by omega)]
        refine ⟨fun c2 => absurd c2 (by omega), fun _ => ⟨⟨_, R'.obj⟩, k_isOf R' hg' w (by omega) (by omega) ?_⟩⟩
        rw [c.1]
        refine ⟨fun c2 => absurd c2 (by decide), fun _ => ?_⟩
        simp only [R'.fs, R'.rows he, R'.plm hj F.2.1 (show m < 3 by omega), true_and]
        refine k_squares R' hg' ?_
        rw [nI_leI (by omega) (hP' m (by omega))]
        refine ⟨fun c2 => absurd c2 (by omega), fun _ => ⟨⟨_, R'.obj⟩, ?_⟩⟩
        have hlen : (mvA g P s m ++ mvR g P s m t).length < 36 := by
          rw [List.length_append]
          have h1 := mvA_len g w P s m
          have h2 := mvR_len g P s m t
          omega
        refine k_tryMove R' hg' w he F.2.1 hP hm c.2 ht hs c.1 hroy F.1 hlen (fun h2 A2 R2 M2 o2 => ?_)
        rw [nI_1]
        refine iht h2 A2 R2 ⟨?_, fun i hi => ?_, fun j i c3 c4 => ?_⟩
        · rw [mvR_succ, ← List.append_assoc]; exact M2
        · rw [o2 _ _ ⟨by omega, by omega, by omega, by omega, by omega⟩]; exact F.2.1 i hi
        · rw [o2 j i c4]; exact F.2.2 j i c3 c4) (fun h' A' R' F => by
        have hg' := F.g2 hg
        refine k39 _ _ _ _ _ _ ⟨⟨_, R'.obj⟩, k_squares R' hg' ?_⟩
        refine ⟨fun _ => ?_, fun c2 => absurd (nI_le (Nat.le_refl _) (by omega)) c2⟩
        rw [nI_1]
        refine ih h' A' R' ?_
        rw [mvA_succ, hM]; exact F) 0 (Nat.zero_le _)
      refine inner h' A' R' ?_
      rw [show mvR g P s m 0 = [] from rfl, List.append_nil]; exact F
    · have hM : mvM g P s m = [] := by unfold mvM; rw [if_neg c]
      have ih' := ih h' A' R' (by rw [mvA_succ, hM, List.append_nil]; exact F)
      rw [← nI_1] at ih'
      refine k39 _ _ _ _ _ _ ⟨⟨_, R'.obj⟩, k_squares R' hg' ?_⟩
      refine ⟨fun _ => ih', fun _ => ⟨⟨_, R'.obj⟩, k_isOf R' hg' w (by omega) (by omega) (bI_c (fun _ => ih') (fun c2 => ?_))⟩⟩
      simp only [R'.fs, R'.rows he, R'.plm hj F.2.1 (show m < 3 by omega), true_and]
      refine k_squares R' hg' ?_
      rw [nI_leI (by omega) (hP' m (by omega))]
      refine ⟨fun _ => ih', fun c3 => absurd ?_ c⟩
      simp only [c2, Bool.true_and, decide_eq_true_eq]
      omega) (fun h' A' R' F => by
    have hg' := F.g2 hg
    refine k25 _ _ _ _ _ ?_
    simp only [vcX8_findMoves_25, R'.fs, R'.gm hg', true_and]
    refine ⟨fun _ => hq h' A' R' ?_, fun c => absurd (nI_le (Nat.le_refl _) (by omega)) c⟩
    rw [mvs, ← hPe, ← hse]; exact F) 0 (Nat.zero_le _)
  simp only [vcX8_findMoves_0, R.fs, R.rows he, true_and]
  refine k_decode R hg w hj (by omega) (fun h1 A1 R1 p1 o1 => ?_)
  simp only [R1.fs, R1.rows he, true_and]
  refine ⟨by decide, fun h2 e2 => ?_⟩
  subst e2
  have R2 := R1.st (j := 12) (nI e) 0 rfl
  rw [n_cl (n := e)] at R2
  rw [show (2 : Int32) = nI 2 from rfl, pk_rem (show x < 2 ^ 31 by omega) (by omega) (by omega), ← hse]
  refine outer _ _ R2 ⟨⟨by simp [up2, mvA, nI], fun i v hv => by simp [mvA] at hv⟩, fun i hi => ?_, fun j i c3 c4 => ?_⟩
  · rw [hPe]
    simp only [up2, show ¬ 6 + e = 12 by omega, false_and, if_false]
    exact p1 i hi
  · obtain ⟨o1', o2, o3, o4, o5⟩ := c4
    simp only [up2, o5, if_false]
    exact o1 j i c3
theorem k_isEnd {Q : Int32 → Hp → Prop} {x : Nat} (R : Rf E h0 h M A f) (hg : rA (A 2) g) (w : qF g) (hx : x < nx g) (hpo : poss g (plc g x) (x % 2) = true)
    (hq : ∀ h' A', Rf E h0 h' M A' f → FM g A A' 0 (plc g x) (mvs g x) → Q (bI (mvs g x).isEmpty) h') : OkI E YX8_isEnd (d + 7) [.ref M, .int (nI x)] h Q := by
  refine rnX8_isEnd ?_
  refine ⟨⟨_, R.obj⟩, k_findMoves (e := 0) R hg w (by omega) hx hpo (fun h' A' R' F => ?_)⟩
  have hl : A' 12 0 = nI (mvs g x).length := F.1.1
  have hq' := hq h' A' R' F
  simp only [R'.fs, R'.oR 12 0 rfl rfl (vpd rfl), R'.gR 12 0 rfl, show (0 : Int32).toNatClampNeg = 0 from rfl, hl, true_and]
  have hlen : (mvs g x).length < 2 ^ 31 := by
    have := mvA_len g w (plc g x) (x % 2) (qn g)
    have := w.2.2.2.2.2.2.1
    unfold mvs
    omega
  rw [(ks hlen).1]
  refine ⟨fun c => ⟨Or.inl rfl, ?_⟩, fun c => ⟨Or.inr rfl, ?_⟩⟩
  · rw [show (mvs g x).isEmpty = false by cases h1 : mvs g x <;> simp_all] at hq'; exact hq'
  · rw [show (mvs g x).isEmpty = true by cases h1 : mvs g x <;> simp_all] at hq'; exact hq'
def endV (g : Gm) (x : Nat) : Int32 := if chk g (plc g x) (x % 2) = true then -1 else qs g
theorem k_endValue {Q : Int32 → Hp → Prop} {x e : Nat} (R : Rf E h0 h M A f) (hg : rA (A 2) g) (w : qF g) (he : e < 6) (hx : x < nx g) (hpo : poss g (plc g x) (x % 2) = true) (hp : ∀ m, m < 3 → A (6 + e) m = nI (plc g x m))
    (hq : Q (endV g x) h) : OkI E YX8_endValue (d + 5) [.ref M, .int (nI x), .int (nI e)] h Q := by
  refine rnX8_endValue ?_
  have hsq := w.sq_lt
  have hnx := nx_le w
  have hj : rP (6 + e) := Or.inl ⟨by omega, by omega⟩
  simp only [vcX8_endValue_0, R.fs, R.rows he, true_and]
  refine ⟨by decide, ?_⟩
  rw [show (2 : Int32) = nI 2 from rfl, pk_rem (show x < 2 ^ 31 by omega) (by omega) (by omega)]
  have hr := poss_roy w hpo (x % 2)
  refine k_isInCheck R hg w hj hp (fun m hm => by have := plc_le hx m; omega) (by omega) (by omega) (bI_c (fun c => ?_) (fun c => ?_))
  · simp only [R.fs, R.gm hg, true_and]
    rw [endV, c] at hq; exact hq
  · rw [endV, c] at hq; exact hq
end
