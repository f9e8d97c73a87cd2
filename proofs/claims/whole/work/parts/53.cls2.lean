def cmF (g : Gm) (x y : Nat) : Nat → Nat → Option Nat
  | 0, _ => none
  | k + 1, m => if plc g x m = plc g y m then cmF g x y k (m + 1) else some m
def cM (g : Gm) (x y s : Nat) : Option Nat := cmF g x y (eom g s - roy g s) (roy g s)
def Ky (E : Wd) (h : Hp) (p : Nat) (pl : Pl) : Prop := pN pl ≤ 41 ∧ h.2 p = some (.inr (0, [.ref (p + 1), .int (nI (pN pl))])) ∧ ∃ F, h.2 (p + 1) = some (.inl (eA E 0, 41, .inl F)) ∧ ∀ k, k < pN pl → F k = nI (pP pl k) ∧ pP pl k < 2 ^ 31
/-- all but two cells stay -/
def Fr2 (h h' : Hp) (p : Nat) : Prop := h'.1 = h.1 ∧ ∀ a, a ≠ p → a ≠ p + 1 → h'.2 a = h.2 a
theorem Fr2.tr {h h' h'' : Hp} {p : Nat} (F : Fr2 h h' p) (G : Fr2 h' h'' p) : Fr2 h h'' p := ⟨G.1.trans F.1, fun a o1 o2 => (G.2 a o1 o2).trans (F.2 a o1 o2)⟩
section
variable {E : Wd} {h : Hp} {r p : Nat} {g : Gm} {d : Nat} {pl : Pl}
theorem c_changedMan {Q : Int32 → Hp → Prop} {x y s : Nat} (K : Kr E h r g) (w : qF g) (hx : x < nx g) (hy : y < nx g) (hs : s < 2) (hq : Q (lxI (cM g x y s)) h) : OkI E YX4_changedMan (d + 1) [.ref r, .int (nI x), .int (nI y), .int (nI s)] h Q := by
  refine rnX4_changedMan (fun K7 k7 => ?_)
  have hn : qn g ≤ 3 := w.2.2.2.2.2.2.1
  have hb := w.2.2.2.2.2.2.2.2.1
  have hsq := w.sq_lt
  have hre : roy g s ≤ eom g s ∧ eom g s ≤ 3 := by
    have : s = 0 ∨ s = 1 := by omega
    unfold roy eom
    rcases this with rfl | rfl
    · simp; omega
    · simp; omega
  refine ⟨⟨_, K.1⟩, c_firstMan K (by omega) ?_⟩
  have loop : ∀ k m, k + m = eom g s → cmF g x y k m = cM g x y s → K7 r (nI x) (nI y) (nI s) (nI m) h := by
    intro k
    induction k with
    | zero =>
      intro m e hc
      refine k7 _ _ _ _ _ _ ⟨⟨_, K.1⟩, c_endOfMen K (by omega) ⟨fun _ => ?_, fun q => absurd (nI_le (by omega) (by omega)) q⟩⟩
      rw [← hc] at hq; exact hq
    | succ k ih =>
      intro m e hc
      refine k7 _ _ _ _ _ _ ⟨⟨_, K.1⟩, c_endOfMen K (by omega) ?_⟩
      rw [nI_leI (by omega) (by omega)]
      have p1 := plc_le hx m
      have p2 := plc_le hy m
      refine ⟨fun q => absurd q (by omega), fun _ => ⟨⟨_, K.1⟩, c_squareOf K w hx (by omega) ⟨⟨_, K.1⟩, c_squareOf K w hy (by omega) ?_⟩⟩⟩
      rw [nI_eq (by omega) (by omega), nI_1]
      rw [cmF] at hc
      refine ⟨fun q => ?_, fun q => ?_⟩
      · rw [if_pos q] at hc
        exact ih (m + 1) (by omega) hc
      · rw [if_neg q] at hc
        rw [← hc] at hq; exact hq
  exact loop _ _ (by omega) rfl
theorem c_hasPawns {Q : Int32 → Hp → Prop} (K : Kr E h r g) (w : qF g) (hq : Q (bI (pawns g (qn g))) h) : OkI E YX4_hasPawns (d + 2) [.ref r] h Q := by
  refine rnX4_hasPawns (fun K2 k2 => ?_)
  have hn : qn g ≤ 3 := w.2.2.2.2.2.2.1
  refine lp_up (K := fun m => pawns g m = false → K2 r (nI m) h) (qn g) (fun m hm ih hp => ?_) (fun hp => ?_) 0 (Nat.zero_le _) rfl
  · refine k2 _ _ _ ?_
    have hk9 := w.2.2.2.2.2.2.2.2.2.2 m
    simp only [vcX4_hasPawns_2, K.fs, true_and, nI_leI (show qn g < 2 ^ 31 by omega) (show m < 2 ^ 31 by omega)]
    refine ⟨fun q => absurd q (by omega), fun _ => c_kindOf K w ?_⟩
    have hk : kdO g (nI m) = nI (qk g m) := by
      unfold kdO
      rw [isM_nat w (by omega), decide_eq_true hm, if_pos rfl, n_cl]
    rw [hk, show (9 : Int32) = nI 9 from rfl, nI_eq (by omega) (by omega), nI_1]
    refine ⟨fun q => ih ?_, fun q => ⟨Or.inr rfl, ?_⟩⟩
    · rw [pawns_succ, hp]; simpa using q
    · have : pawns g (qn g) = true := by
        unfold pawns
        rw [List.any_eq_true]
        exact ⟨m, List.mem_range.mpr hm, by simpa using q⟩
      rw [this] at hq; exact hq
  · refine k2 _ _ _ ?_
    simp only [vcX4_hasPawns_2, K.fs, true_and]
    rw [hp] at hq
    exact ⟨fun _ => ⟨Or.inl rfl, hq⟩, fun q => absurd (nI_le (Nat.le_refl _) (by omega)) q⟩
theorem Ky.fs (K : Ky E h p pl) : isO h p 0 ∧ okI h p 0 1 ∧ vI (hF h p 1) = nI (pN pl) ∧ okP h p 0 1 ∧ okA h p 0 0 ∧ vA (hF h p 0) = p + 1 ∧ okL E h (p + 1) 0 ∧ lA h (p + 1) = nI 41 := by
  obtain ⟨-, e, F, e1, -⟩ := K
  exact ⟨⟨_, e⟩, ⟨_, _, e, rfl⟩, (by rw [hF_of e rfl]; rfl), ⟨_, e, Nat.le_refl _⟩, ⟨_, _, e, rfl⟩, (by rw [hF_of e rfl]; rfl), ⟨_, e1⟩, by simp [lA, e1, nI]⟩
theorem Ky.of {h' : Hp} (K : Ky E h p pl) (e0 : h'.2 p = h.2 p) (e1 : h'.2 (p + 1) = h.2 (p + 1)) : Ky E h' p pl := by
  obtain ⟨k1, k2, k3⟩ := K
  exact ⟨k1, by rw [e0]; exact k2, by rw [e1]; exact k3⟩
theorem Ky.ln {n : Nat} (K : Ky E h p pl) (hn : n ≤ pN pl) : Ky E (pF h p 1 (.int (nI n))) p (n, pP pl, pC pl) ∧ Fr2 h (pF h p 1 (.int (nI n))) p := by
  obtain ⟨k1, k2, F, e1, e2⟩ := K
  refine ⟨⟨Nat.le_trans hn k1, by simp [pF, k2, pN], F, ?_, fun k hk => e2 k (Nat.lt_of_lt_of_le hk hn)⟩, rfl, fun a o1 _ => by simp [pF, o1]⟩
  have : p + 1 ≠ p := by omega
  simp only [pF, this, if_false]; exact e1
theorem Ky.gt (K : Ky E h p pl) {k : Nat} (hk : k < 41) : okR E h (p + 1) 0 (nI k) ∧ (k < pN pl → gA h (p + 1) (nI k) = nI (pP pl k)) := by
  obtain ⟨-, -, F, e1, e2⟩ := K
  exact ⟨⟨_, _, e1, vpn hk⟩, fun hk2 => by rw [gA_of e1, n_cl]; exact (e2 k hk2).1⟩
theorem c_clear {Q : Hp → Prop} (K : Ky E h p pl) (hq : ∀ h', Ky E h' p pl0 → Fr2 h h' p → Q h') : OkV E YX0_clear d [.ref p] h Q := by
  refine rnX0_clear ?_
  simp only [vcX0_clear_0, K.fs, true_and]
  intro h1 e1
  subst e1
  obtain ⟨k1, k2⟩ := K.ln (Nat.zero_le _)
  refine hq _ ?_ k2
  obtain ⟨q1, q2, F, q3, q4⟩ := k1
  exact ⟨q1, q2, F, q3, fun k hk => absurd hk (Nat.not_lt_zero _)⟩
theorem c_add {Q : Hp → Prop} {x : Nat} {b : Bool} (K : Ky E h p pl) (hn : pN pl < 41) (hx : x < 2 ^ 31) (hq : ∀ h', Ky E h' p (plA pl x b) → Fr2 h h' p → Q h') : OkV E YX0_add d [.ref p, .int (nI x)] h Q := by
  refine rnX0_add ?_
  simp only [vcX0_add_0, K.fs, true_and, nI_ltI (show pN pl < 2 ^ 31 by omega) (show 41 < 2 ^ 31 by omega), (K.gt hn).1]
  refine ⟨fun q => absurd q (nI_pos (by omega)), fun _ => ⟨fun _ h1 e1 => ?_, fun q => absurd hn q⟩⟩
  subst e1
  obtain ⟨k1, k2, F, e1, e2⟩ := K
  have c1 : (sA h (p + 1) (nI (pN pl)) (nI x)).2 (p + 1) = some (.inl (eA E 0, 41, .inl (upd F (pN pl) (nI x)))) := by
    have := sA_of (i := nI (pN pl)) (x := nI x) e1
    rw [n_cl] at this; exact this
  have c2 : (sA h (p + 1) (nI (pN pl)) (nI x)).2 p = some (.inr (0, [.ref (p + 1), .int (nI (pN pl))])) := by
    have : p ≠ p + 1 := by omega
    simp only [sA, this, if_false]; exact k2
  obtain ⟨h1, eh⟩ : ∃ h1, sA h (p + 1) (nI (pN pl)) (nI x) = h1 := ⟨_, rfl⟩
  have fr : Fr2 h h1 p := by rw [← eh]; exact ⟨rfl, fun a _ o2 => by simp [sA, o2]⟩
  rw [eh] at c1 c2 ⊢
  refine ⟨⟨_, _, c2, rfl⟩, ⟨_, c2, Nat.le_refl _⟩, fun h2 e3 => ?_⟩
  rw [show fI h1 p 1 = nI (pN pl) by show vI (hF h1 p 1) = _; rw [hF_of c2 rfl]; rfl, nI_1] at e3
  subst e3
  refine hq _ ⟨by show pN pl + 1 ≤ 41; omega, by simp [pF, c2, plA, pN], upd F (pN pl) (nI x), ?_, fun k hk => ?_⟩ (fr.tr ⟨rfl, fun a o1 _ => by simp [pF, o1]⟩)
  · have : p + 1 ≠ p := by omega
    simp only [pF, this, if_false]; exact c1
  · have hk : k < pN pl + 1 := hk
    show upd F (pN pl) (nI x) k = nI (if k = pN pl then x else pP pl k) ∧ (if k = pN pl then x else pP pl k) < 2 ^ 31
    by_cases c : k = pN pl
    · subst c; simp [upd, hx]
    · have := e2 k (by omega)
      simpa [upd, c] using this
theorem c_begin {Q : Hp → Prop} {x : Nat} (K : Ky E h p pl) (hx : x < 2 ^ 31) (hq : ∀ h', Ky E h' p (plB x) → Fr2 h h' p → Q h') : OkV E YX0_begin (d + 1) [.ref p, .int (nI x)] h Q := by
  refine rnX0_begin ?_
  simp only [vcX0_begin_0, K.fs, true_and]
  intro h1 e1
  subst e1
  obtain ⟨k1, k2⟩ := K.ln (Nat.zero_le _)
  refine ⟨⟨_, k1.2.1⟩, c_add (b := false) k1 (by show 0 < 41; omega) hx (fun h2 k3 k4 => hq h2 ?_ (k2.tr k4))⟩
  obtain ⟨q1, q2, F, q3, q4⟩ := k3
  refine ⟨q1, q2, F, q3, fun k hk => ?_⟩
  have hk : k < 1 := hk
  have : k = 0 := by omega
  subst this
  exact q4 0 (by show 0 < 0 + 1; omega)
theorem c_removeLast {Q : Hp → Prop} (K : Ky E h p pl) (hn : pN pl ≠ 0) (hq : ∀ h', Ky E h' p (plK pl) → Fr2 h h' p → Q h') : OkV E YX0_removeLast d [.ref p] h Q := by
  refine rnX0_removeLast ?_
  have h41 := K.1
  simp only [vcX0_removeLast_0, K.fs, true_and]
  refine ⟨fun q => absurd q (nI_nle (by omega) (by omega)), fun _ h1 e1 => ?_⟩
  rw [show nI (pN pl) - 1 = nI (pN pl - 1) from n_sub (show 1 ≤ pN pl by omega)] at e1
  subst e1
  obtain ⟨k1, k2⟩ := K.ln (n := pN pl - 1) (by omega)
  exact hq _ k1 k2
theorem c_hasPosition {Q : Int32 → Hp → Prop} (K : Ky E h p pl) (hq : Q (bI (decide (pN pl ≠ 0))) h) : OkI E YX0_hasPosition d [.ref p] h Q := by
  refine rnX0_hasPosition ?_
  have h41 := K.1
  simp only [vcX0_hasPosition_0, K.fs, true_and]
  refine ⟨fun q => ⟨Or.inl rfl, ?_⟩, fun q => ⟨Or.inr rfl, ?_⟩⟩
  · rw [decide_eq_false (fun e => nI_nle (by omega) (by omega) q)] at hq; exact hq
  · have e : pN pl ≠ 0 := fun e => by rw [e] at q; exact q (by decide)
    rw [decide_eq_true e] at hq; exact hq
theorem c_made {Q : Int32 → Hp → Prop} (K : Ky E h p pl) (hq : Q (nI (pN pl - 1)) h) : OkI E YX0_made (d + 1) [.ref p] h Q := by
  refine rnX0_made ?_
  have h41 := K.1
  simp only [vcX0_made_0, K.fs, true_and]
  cases hn : pN pl with
  | zero =>
    rw [hn] at hq
    rw [if_neg (by decide)]; exact hq
  | succ n =>
    rw [hn] at hq
    rw [nI_pred]
    by_cases c : n = 0
    · subst c; rw [if_neg (by decide)]; exact hq
    · rw [if_pos (show (0 : Int32) < nI n from nI_lt (a := 0) (b := n) (by omega) (by omega))]; exact hq
theorem c_at {Q : Int32 → Hp → Prop} {k : Nat} (K : Ky E h p pl) (hk : k < pN pl) (hq : Q (nI (pP pl k)) h) : OkI E YX0_at d [.ref p, .int (nI k)] h Q := by
  refine rnX0_at ?_
  have h41 := K.1
  simp only [vcX0_at_0, K.fs, true_and, (K.gt (show k < 41 by omega)).1, (K.gt (show k < 41 by omega)).2 hk, nI_leI (show 41 < 2 ^ 31 by omega) (show k < 2 ^ 31 by omega)]
  exact ⟨fun q => absurd q (nI_pos (by omega)), fun _ => ⟨fun q => absurd q (by omega), fun _ => hq⟩⟩
theorem c_present {Q : Int32 → Hp → Prop} (K : Ky E h p pl) (hn : pN pl ≠ 0) (hq : Q (nI (pHe pl)) h) : OkI E YX0_present (d + 1) [.ref p] h Q := by
  refine rnX0_present ?_
  have h41 := K.1
  simp only [vcX0_present_0, K.fs, true_and]
  rw [show nI (pN pl) - 1 = nI (pN pl - 1) from n_sub (show 1 ≤ pN pl by omega)]
  exact c_at K (by omega) hq
theorem c_upTo {Q : Int32 → Hp → Prop} {l : Nat} (K : Ky E h p pl) (hl : l < pN pl) (hq : Q (nI (cN (fun k => pP pl k == pP pl l) (l + 1))) h) : OkI E YX0_occurrencesUpTo (d + 1) [.ref p, .int (nI l)] h Q := by
  refine rnX0_occurrencesUpTo (fun K4 k4 => ?_)
  have h41 := K.1
  have lt : ∀ k, k < pN pl → pP pl k < 2 ^ 31 := fun k hk => by
    obtain ⟨-, -, F, -, e2⟩ := K
    exact (e2 k hk).2
  refine lp_up (K := fun k => K4 p (nI l) (nI (cN (fun k => pP pl k == pP pl l) k)) (nI k) h) (l + 1) (fun k hk ih => ?_) ?_ 0 (Nat.zero_le _)
  · refine k4 _ _ _ _ _ ?_
    simp only [vcX0_occurrencesUpTo_4, K.fs, true_and, nI_ltI (show l < 2 ^ 31 by omega) (show k < 2 ^ 31 by omega)]
    refine ⟨fun q => absurd q (by omega), fun _ => c_at K (by omega) ⟨⟨_, K.2.1⟩, c_at K hl ?_⟩⟩
    rw [nI_eq (lt k (by omega)) (lt l hl)]
    rw [← nI_1, cN] at ih
    refine ⟨fun q => ?_, fun q => ?_⟩
    · rw [if_neg (by simpa using q)] at ih; exact ih
    · rw [if_pos (by simpa using q)] at ih
      rw [n_lit1, nI_add]; exact ih
  · refine k4 _ _ _ _ _ ?_
    exact ⟨fun _ => hq, fun q => absurd (nI_lt (show l < l + 1 by omega) (by omega)) q⟩
theorem c_occurrences {Q : Int32 → Hp → Prop} (K : Ky E h p pl) (hq : Q (nI (ocP pl)) h) : OkI E YX0_occurrences (d + 2) [.ref p] h Q := by
  refine rnX0_occurrences ?_
  have h41 := K.1
  simp only [vcX0_occurrences_0, K.fs, true_and]
  refine ⟨fun q => ?_, fun q => ?_⟩
  · have hn : pN pl = 0 := by
      rcases Nat.eq_zero_or_pos (pN pl) with e | e
      · exact e
      · exact absurd q (nI_nle e (by omega))
    rw [ocP, hn] at hq; exact hq
  · have hn : pN pl ≠ 0 := fun e => by rw [e] at q; exact q (by decide)
    rw [show nI (pN pl) - 1 = nI (pN pl - 1) from n_sub (show 1 ≤ pN pl by omega)]
    refine c_upTo K (by omega) ?_
    rw [show pN pl - 1 + 1 = pN pl by omega]
    exact hq
theorem cN_one {D : Nat → Bool} {k : Nat} (hD : D k = true) : cN D (k + 1) = 1 ↔ (List.range k).all (fun b => !D b) = true := by
  rw [cN, if_pos hD]
  have : ∀ n, cN D n = 0 ↔ (List.range n).all (fun b => !D b) = true := by
    intro n
    induction n with
    | zero => simp [cN]
    | succ n ih =>
      rw [cN, List.range_succ, List.all_append, Bool.and_eq_true, ← ih]
      by_cases c : D n = true
      · simp [c]
      · simp [show D n = false by simpa using c]
  rw [← this k]
  omega
theorem c_different {Q : Int32 → Hp → Prop} (K : Ky E h p pl) (hq : Q (nI (dfP pl)) h) : OkI E YX0_different (d + 2) [.ref p] h Q := by
  refine rnX0_different (fun K4 k4 => ?_)
  have h41 := K.1
  refine lp_up (K := fun k => K4 p (nI (cN (fun k => (List.range k).all (fun b => pP pl b != pP pl k)) k)) (nI k) h) (pN pl) (fun k hk ih => ?_) ?_ 0 (Nat.zero_le _)
  · refine k4 _ _ _ _ ?_
    simp only [vcX0_different_4, K.fs, true_and, nI_leI (show pN pl < 2 ^ 31 by omega) (show k < 2 ^ 31 by omega)]
    refine ⟨fun q => absurd q (by omega), fun _ => c_upTo K hk ?_⟩
    have hle := cN_le (fun j => pP pl j == pP pl k) (k + 1)
    have h1 : cN (fun j => pP pl j == pP pl k) (k + 1) = 1 ↔ ((List.range k).all (fun b => pP pl b != pP pl k)) = true := cN_one (D := fun j => pP pl j == pP pl k) (k := k) (by simp)
    rw [show (1 : Int32) = nI 1 from rfl, nI_eq (by omega) (by omega), h1]
    rw [← nI_1, cN] at ih
    refine ⟨fun q => ?_, fun q => ?_⟩
    · rw [if_neg q] at ih; exact ih
    · rw [if_pos q] at ih
      rw [nI_add]; exact ih
  · refine k4 _ _ _ _ ?_
    simp only [vcX0_different_4, K.fs, true_and]
    exact ⟨fun _ => hq, fun q => absurd (nI_le (Nat.le_refl _) (by omega)) q⟩
end
