section
variable {g : Gm}
theorem suc_any {x : Nat} {p : Nat → Bool} : (suc g x).any p = (List.range (mvs g x).length).any (fun k => p (yO g x k)) := by
  unfold suc
  rw [List.any_map, Bool.eq_iff_iff, List.any_eq_true, List.any_eq_true]
  constructor
  · rintro ⟨v, h1, h2⟩
    obtain ⟨k, hk, e⟩ := List.mem_iff_getElem.mp h1
    have e2 : (mvs g x)[k]? = some v := by rw [List.getElem?_eq_getElem hk, e]
    exact ⟨k, List.mem_range.mpr hk, by rw [yO_get e2]; exact h2⟩
  · rintro ⟨k, h1, h2⟩
    have hk := List.mem_range.mp h1
    have e2 := List.getElem?_eq_getElem hk
    exact ⟨_, List.getElem_mem hk, by rw [yO_get e2] at h2; exact h2⟩
theorem suc_all {x : Nat} {p : Nat → Bool} : (suc g x).all p = (List.range (mvs g x).length).all (fun k => p (yO g x k)) := by
  have h := suc_any (g := g) (x := x) (p := fun y => !p y)
  rw [List.any_eq_not_all_not, List.any_eq_not_all_not] at h
  simpa using h
def Lk (g : Gm) (n x : Nat) : Int32 × Int32 × Bool := if Ps g x = true ∧ can g x = x then Ld g n x else Ld g 0 x
def Lm (g : Gm) (n i x : Nat) : Int32 × Int32 × Bool := if x < i then Lk g (n + 1) x else Lk g n x
def TV (A : Nat → Nat → Int32) (g : Gm) (S : Nat → Int32 × Int32 × Bool) : Prop := ∀ x, x < nx g → A 3 x = (S x).1 ∧ A 4 x = (S x).2.1
theorem Lm_or {n i z : Nat} (hP : Ps g z = true) (hc : can g z = z) : Lm g n i z = Ld g n z ∨ Lm g n i z = Ld g (n + 1) z := by
  have e : ∀ n, Lk g n z = Ld g n z := fun n => by unfold Lk; rw [if_pos ⟨hP, hc⟩]
  unfold Lm
  rw [e, e]
  by_cases q : z < i
  · rw [if_pos q]; exact Or.inr rfl
  · rw [if_neg q]; exact Or.inl rfl
theorem Ld_keep {n z : Nat} (h : (Ld g n z).2.2 = true) : Ld g (n + 1) z = Ld g n z := by
  rw [Ld, h, Bool.not_true, Bool.and_false, if_neg (by decide)]
theorem see_eq (v : qV g) {n z : Nat} (hn : n < 2 ^ 30) {S : Int32 × Int32 × Bool} (hS : S = Ld g n z ∨ S = Ld g (n + 1) z) : (nI (n + 1) ≤ S.2.1 → (Ld g n z).1 = 0) ∧ (¬ nI (n + 1) ≤ S.2.1 → S.1 = (Ld g n z).1) := by
  rcases Ld_inv v n z with ⟨h1, h2⟩ | ⟨h1, h2, k, h3, h4⟩
  · refine ⟨fun _ => h1, fun q => ?_⟩
    rcases hS with rfl | rfl
    · rfl
    · rw [Ld] at q ⊢
      by_cases c1 : (Ps g z && !(Ld g n z).2.2) = true
      · rw [if_pos c1] at q ⊢
        split
        · rename_i c2; rw [if_pos c2] at q; exact absurd (Int32.le_refl _) q
        · rename_i c2
          split
          · rename_i c3; rw [if_neg c2, if_pos c3] at q; exact absurd (Int32.le_refl _) q
          · rw [h1]
      · rw [if_neg c1]
  · have e : S = Ld g n z := by
      rcases hS with rfl | rfl
      · rfl
      · exact Ld_keep h2
    rw [e, h4]
    exact ⟨fun q => absurd q (nI_ge (by omega) (by omega)), fun _ => rfl⟩
theorem Ld_c (v : qV g) (n z : Nat) : (Ld g n z).1 = -1 ∨ (Ld g n z).1 = 0 ∨ (Ld g n z).1 = 1 := by
  rcases Ld_inv v n z with ⟨h1, -⟩ | ⟨h1, -⟩
  · exact Or.inr (Or.inl h1)
  · rcases h1 with h | h
    · exact Or.inr (Or.inr h)
    · exact Or.inl h
theorem und {x : Nat} (he : (mvs g x).isEmpty = false) : ∀ n, (Ld g n x).1 = 0 → (Ld g n x).2.2 = false
  | 0, _ => by rw [Ld, he, Bool.and_false, if_neg (by decide)]
  | n + 1, h => by
    rw [Ld] at h ⊢
    by_cases c1 : (Ps g x && !(Ld g n x).2.2) = true
    · rw [if_pos c1] at h ⊢
      by_cases c2 : ((suc g x).any fun y => (Ld g n y).1 == -1) = true
      · rw [if_pos c2] at h; exact absurd (show (1 : Int32) = 0 from h) (by decide)
      · rw [if_neg c2] at h ⊢
        by_cases c3 : ((suc g x).all fun y => (Ld g n y).1 == 1) = true
        · rw [if_pos c3] at h; exact absurd (show (-1 : Int32) = 0 from h) (by decide)
        · rw [if_neg c3]
    · rw [if_neg c1] at h ⊢
      exact und he n h
theorem endd {x : Nat} (hP : Ps g x = true) (he : (mvs g x).isEmpty = true) : ∀ n, Ld g n x = Ld g 0 x ∧ (Ld g n x).2.2 = true
  | 0 => ⟨rfl, by rw [Ld, hP, he]; rfl⟩
  | n + 1 => by
    obtain ⟨h1, h2⟩ := endd hP he n
    have := Ld_keep h2
    exact ⟨by rw [this, h1], by rw [this, h2]⟩
def vfs (g : Gm) (n x : Nat) : Int32 := if (suc g x).any (fun y => (Ld g n y).1 == -1) = true then 1 else if (suc g x).all (fun y => (Ld g n y).1 == 1) = true then -1 else 0
theorem vfs_Ld {n x : Nat} (hP : Ps g x = true) (hu : (Ld g n x).2.2 = false) : Ld g (n + 1) x = if vfs g n x = 0 then (0, -5, false) else (vfs g n x, nI (n + 1), true) := by
  rw [Ld, hP, hu, Bool.not_false, Bool.true_and, if_pos rfl]
  unfold vfs
  split
  · rw [if_neg (by decide)]
  · split
    · rw [if_neg (by decide)]
    · rw [if_pos rfl]
def chK (g : Gm) (n x : Nat) : Bool := Ps g x && can g x == x && chg g n x
def fdN (g : Gm) (n i : Nat) : Bool := (List.range i).any (chK g n)
theorem fdN_succ (n i : Nat) : fdN g n (i + 1) = (fdN g n i || chK g n i) := by
  unfold fdN
  rw [List.range_succ, List.any_append]
  simp
theorem fdN_eq (w : qF g) (n : Nat) : fdN g n (nx g) = anyN g n (nx g) := by
  unfold fdN anyN
  rw [Bool.eq_iff_iff, List.any_eq_true, List.any_eq_true]
  constructor
  · rintro ⟨x, h1, h2⟩
    simp only [chK, Bool.and_eq_true] at h2
    exact ⟨x, h1, h2.2⟩
  · rintro ⟨x, h1, h2⟩
    have hx := List.mem_range.mp h1
    refine ⟨can g x, List.mem_range.mpr (can_lt w hx), ?_⟩
    have hP : Ps g x = true := by
      simp only [chg, Bool.and_eq_true] at h2
      exact h2.1.1
    simp only [chK, Bool.and_eq_true, beq_iff_eq]
    refine ⟨⟨by rw [Ps_can w hx]; exact hP, can_can w hx⟩, ?_⟩
    unfold chg at h2 ⊢
    rw [Ps_can w hx, Ld_can w hx, Ld_can w hx]; exact h2
theorem Ps_0 (w : qF g) : Ps g 0 = false := by
  rw [Bool.eq_false_iff]
  intro h
  obtain ⟨-, hC, -⟩ := (Ps_iff w).mp h
  have h1 : ∀ m, plc g 0 m = 0 := fun m => by unfold plc; simp
  have hn : 2 ≤ qn g := w.2.2.2.2.2.1
  have hs := w.sq_lt
  exact hC.2.2.1 0 1 (by omega) (by omega) (by omega) (by rw [h1]; omega) (by rw [h1, h1])
theorem cN_less {D : Nat → Bool} {N : Nat} (h0 : D 0 = false) (hN : 0 < N) : cN D N + 1 ≤ N := by
  have := cN_lt (D := D) (D' := fun _ => true) (fun _ _ => rfl) h0 rfl N hN
  have := cN_le (fun _ => true) N
  omega
theorem nx_pos : 0 < nx g := Nat.mul_pos (Nat.mul_pos (Nat.mul_pos (Nat.succ_pos _) (Nat.succ_pos _)) (Nat.succ_pos _)) (by omega)
theorem Ld_lv' (w : qF g) {n : Nat} (h : ∀ k, k < n → anyN g k (nx g) = true) : n + 1 ≤ nx g := by
  have h1 : n ≤ cN (fun x => (Ld g n x).2.2) (nx g) := cN_lv (D := fun n x => (Ld g n x).2.2) (N := nx g) Ld_mono n (fun k hk => by
    obtain ⟨x, h1, h2⟩ := any_wit (h k hk)
    simp only [chg, Bool.and_eq_true, Bool.not_eq_true'] at h2
    exact ⟨x, h1, h2.1.2, h2.2⟩)
  have h2 := cN_less (D := fun x => (Ld g n x).2.2) (N := nx g) (by rw [Ld_no (Ps_0 w)]) nx_pos
  omega
end
section
variable {E : Wd} {h : Hp} {t r : Nat} {g : Gm} {A : Nat → Nat → Int32} {a b c : Int32} {d : Nat}
theorem c_valueFromSteps {Q : Int32 → Hp → Prop} {n i x : Nat} (T : Tb E h t r g A a (nI (nx g)) c) (G : Tg A g) (w : qF g) (v : qV g) (bd : bnd g) (V : TV A g (Lm g n i)) (hP : Ps g x = true) (hn : n < 2 ^ 30) (hq : Q (vfs g n x) h) : OkI E YX6_valueFromSteps (d + 2) [.ref t, .int (nI x), .int (nI (n + 1))] h Q := by
  refine rnX6_valueFromSteps (fun K10 k10 => ?_)
  have hnx := nx_le w
  have hx := Ps_lt hP
  have hb := bnd_le bd (show x + 1 ≤ nx g by omega)
  rw [stN_at hP] at hb
  obtain ⟨F, hF⟩ : ∃ F : Nat → Int32, F = fun k => (Ld g n (yO g x k)).1 := ⟨_, rfl⟩
  unfold vfs at hq
  rw [suc_any, suc_all] at hq
  have t6 := T.gt (j := 6) (i := x) (by omega) (by show x < 4395; omega)
  have t6' := T.gt (j := 6) (i := x + 1) (by omega) (by show x + 1 < 4395; omega)
  have a6 := G.2.1 x (by omega)
  have a6' := G.2.1 (x + 1) (by omega)
  rw [stN_at hP] at a6'
  rw [a6] at t6
  rw [a6'] at t6'
  simp only [vcX6_valueFromSteps_0, T.fs, true_and, t6]
  have any_up : ∀ (p : Nat → Bool) (k m : Nat), k ≤ m → (List.range k).any p = true → (List.range m).any p = true := fun p k m hk h => by
    obtain ⟨j, hj, e⟩ := List.any_eq_true.mp h
    exact List.any_eq_true.mpr ⟨j, List.mem_range.mpr (by have := List.mem_range.mp hj; omega), e⟩
  refine lp_up (K := fun k => (List.range k).any (fun k => (Ld g n (yO g x k)).1 == -1) = false → K10 t (nI x) (nI (n + 1)) (bI ((List.range k).all (fun k => (Ld g n (yO g x k)).1 == 1))) (nI (stN g x + k)) h) (mvs g x).length (fun k hk ih hf => ?_) (fun hf => ?_) 0 (Nat.zero_le _) rfl
  · refine k10 _ _ _ _ _ _ ?_
    have hy := yO_Ps w hP hk
    have hyx := Ps_lt hy
    have hc := can_lt w hyx
    have t7 := T.gt (j := 7) (i := stN g x + k) (by omega) (by show _ < 7200; omega)
    rw [G.2.2 x hP k hk] at t7
    simp only [vcX6_valueFromSteps_10, T.fs, true_and, nI_1, t6', t7, nI_leI (show stN g x + (mvs g x).length < 2 ^ 31 by omega) (show stN g x + k < 2 ^ 31 by omega)]
    refine ⟨fun q => absurd q (by omega), fun _ => c_canonicalOf T w hyx ?_⟩
    rw [(G.1 _ hyx).1, if_pos hy]
    refine ⟨⟨_, T.1⟩, c_toEndOf T w hc ?_⟩
    have hPc : Ps g (can g (yO g x k)) = true := by rw [Ps_can w hyx]; exact hy
    obtain ⟨v1, v2⟩ := V _ hc
    obtain ⟨s1, s2⟩ := see_eq v hn (Lm_or (n := n) (i := i) hPc (can_can w hyx))
    rw [Ld_can w hyx] at s1 s2
    have L56 : ∀ z, z = (Ld g n (yO g x k)).1 → vcX6_valueFromSteps_56 E (d + 1) K10 t (nI x) (nI (n + 1)) (bI ((List.range k).all (fun k => (Ld g n (yO g x k)).1 == 1))) (nI (stN g x + k)) z h Q := fun z hz => by
      rw [vcX6_valueFromSteps_56]
      have e1 : (List.range (k + 1)).any (fun k => (Ld g n (yO g x k)).1 == -1) = ((List.range k).any (fun k => (Ld g n (yO g x k)).1 == -1) || z == -1) := by
        rw [List.range_succ, List.any_append, hz]; simp
      have e2 : (List.range (k + 1)).all (fun k => (Ld g n (yO g x k)).1 == 1) = ((List.range k).all (fun k => (Ld g n (yO g x k)).1 == 1) && z == 1) := by
        rw [List.range_succ, List.all_append, hz]; simp
      rw [hf, Bool.false_or] at e1
      rw [e1, e2] at ih
      rw [nI_1]
      rcases Ld_c v n (yO g x k) with e | e | e
      · rw [← hz] at e
        subst e
        refine ⟨fun q => absurd q (by decide), fun _ => ?_⟩
        rw [if_pos (any_up _ (k + 1) _ hk (by rw [e1]; rfl))] at hq
        exact hq
      · rw [← hz] at e
        subst e
        have := ih (by decide)
        rw [show ((0 : Int32) == 1) = false from rfl, Bool.and_false] at this
        exact ⟨fun _ => ⟨fun q => absurd rfl q, fun _ => this⟩, fun q => absurd (by decide) q⟩
      · rw [← hz] at e
        subst e
        have := ih (by decide)
        rw [show ((1 : Int32) == 1) = true from rfl, Bool.and_true] at this
        exact ⟨fun _ => ⟨fun _ => this, fun q => absurd q (by decide)⟩, fun q => absurd (by decide) q⟩
    rw [v2]
    refine ⟨fun q => L56 0 (s1 q).symm, fun q => ⟨⟨_, T.1⟩, c_valueOf T w hc ?_⟩⟩
    rw [v1]
    exact L56 _ (s2 q)
  · refine k10 _ _ _ _ _ _ ?_
    simp only [vcX6_valueFromSteps_10, T.fs, true_and, nI_1, t6']
    rw [if_neg (by rw [hf]; decide)] at hq
    refine ⟨fun _ => bI_c (fun q => ?_) (fun q => ?_), fun q => absurd (Int32.le_refl _) q⟩
    · rw [if_neg (by rw [q]; decide)] at hq; exact hq
    · rw [if_pos q] at hq; exact hq
theorem c_findValues {Q : Int32 → Hp → Prop} {n : Nat} (T : Tb E h t r g A a (nI (nx g)) c) (G : Tg A g) (w : qF g) (v : qV g) (bd : bnd g) (V : TV A g (Lk g n)) (hn : n < 2 ^ 30) (hq : ∀ h' A', Tb E h' t r g A' a (nI (nx g)) c → FT h h' t r → Tg A' g → A' 5 = A 5 → TV A' g (Lk g (n + 1)) → Q (bI (anyN g n (nx g))) h') : OkI E YX6_findValues (d + 3) [.ref t, .int (nI (n + 1))] h Q := by
  refine rnX6_findValues (fun K4 k4 => ?_)
  have hnx := nx_le w
  refine lp_up (K := fun i => ∀ h' A', Tb E h' t r g A' a (nI (nx g)) c → FT h h' t r → Tg A' g → A' 5 = A 5 → TV A' g (Lm g n i) → K4 t (nI (n + 1)) (bI (fdN g n i)) (nI i) h') (nx g) (fun i hi ih h' A' T' F' G' E5 V' => ?_) (fun h' A' T' F' G' E5 V' => ?_) 0 (Nat.zero_le _) h A T (FT.rfl h t r) G rfl (fun x hx => by unfold Lm; rw [if_neg (by omega)]; exact V x hx)
  · refine k4 _ _ _ _ _ ?_
    have t1 := (T'.tt (show i < 4394 by omega)).1
    have t3 := (T'.tt (show i < 4394 by omega)).2.2.1
    have t4 := (T'.tt (show i < 4394 by omega)).2.2.2.1
    rw [(G'.1 i hi).1] at t1
    have Vi : Lm g n i i = Lk g n i := by unfold Lm; rw [if_neg (by omega)]
    obtain ⟨v1, v2⟩ := V' i hi
    rw [Vi] at v1 v2
    rw [v1] at t3
    -- nothing changes at this place
    have same : Lk g (n + 1) i = Lk g n i → K4 t (nI (n + 1)) (bI (fdN g n i)) (nI (i + 1)) h' := fun e => by
      have hch : chK g n i = false := by
        rw [Bool.eq_false_iff]
        intro q
        simp only [chK, chg, Bool.and_eq_true, beq_iff_eq, Bool.not_eq_true'] at q
        unfold Lk at e
        rw [if_pos ⟨q.1.1, q.1.2⟩, if_pos ⟨q.1.1, q.1.2⟩] at e
        rw [e, q.2.1.2] at q
        exact absurd q.2.2 (by decide)
      have := ih h' A' T' F' G' E5 (fun x hx => by
        have : Lm g n (i + 1) x = Lm g n i x := by
          unfold Lm
          by_cases z : x = i
          · subst z; rw [if_pos (by omega), if_neg (by omega), e]
          · by_cases z2 : x < i
            · rw [if_pos (by omega), if_pos z2]
            · rw [if_neg (by omega), if_neg z2]
        rw [this]; exact V' x hx)
      rw [fdN_succ, hch, Bool.or_false] at this
      exact this
    simp only [vcX6_findValues_4, T'.fs, true_and, nI_leI (show nx g < 2 ^ 31 by omega) (show i < 2 ^ 31 by omega), t1, t3, nI_1]
    refine ⟨fun q => absurd q (by omega), fun _ => ⟨fun q => same ?_, fun q => ?_⟩⟩
    · unfold Lk
      have : ¬ (Ps g i = true ∧ can g i = i) := fun z => q (by rw [if_pos z.1, z.2])
      rw [if_neg this, if_neg this]
    · have hP : Ps g i = true := by
        cases hP : Ps g i with
        | true => rfl
        | false =>
          rw [hP, if_neg (by decide)] at q
          exact absurd (show nI i < 0 by rw [← q]; decide) (nI_pos (by omega))
      rw [if_pos hP] at q
      have hc : can g i = i := by
        have hcl := can_lt w hi
        exact (nI_eq (by omega) (by omega)).mp q
      have eL : ∀ n, Lk g n i = Ld g n i := fun n => by unfold Lk; rw [if_pos ⟨hP, hc⟩]
      rw [eL] at v1 v2 ⊢
      refine ⟨fun q2 => same ?_, fun q2 => c_isEnd T' G' w hP (bI_c (fun q3 => ⟨⟨_, T'.1⟩, c_valueFromSteps T' G' w v bd V' hP hn ?_⟩) (fun q3 => same ?_))⟩
      · rw [eL, eL]
        rcases Ld_inv v n i with ⟨z, -⟩ | ⟨-, z, -⟩
        · exact absurd z q2
        · exact Ld_keep z
      · have hu := und q3 n q2
        have eN := vfs_Ld hP hu
        refine ⟨fun q4 => ?_, fun q4 => same ?_⟩
        · rw [if_neg q4] at eN
          simp only [T'.fs, true_and, (T'.tt (show i < 4394 by omega)).2.2.1]
          intro h5 e5
          obtain ⟨T5, F5⟩ := T'.st (j := 3) (i := i) (x := vfs g n i) (by omega) (by show i < 4394; omega)
          rw [← e5] at T5 F5
          clear e5
          simp only [T5.fs, true_and, (T5.tt (show i < 4394 by omega)).2.2.2.1]
          intro h6 e6
          obtain ⟨T6, F6⟩ := T5.st (j := 4) (i := i) (x := nI (n + 1)) (by omega) (by show i < 4394; omega)
          rw [← e6] at T6 F6
          clear e6
          have hch : chK g n i = true := by
            simp only [chK, chg, Bool.and_eq_true, beq_iff_eq, Bool.not_eq_true']
            exact ⟨⟨hP, hc⟩, ⟨hP, hu⟩, by rw [eN]⟩
          have := ih h6 _ T6 ((F'.tr F5).tr F6) (G'.of (fun j hj => by rw [up2_ne (by omega), up2_ne (by omega)])) (by rw [up2_ne (by omega), up2_ne (by omega)]; exact E5) (fun x hx => by
            by_cases z : x = i
            · subst z
              have : Lm g n (x + 1) x = (vfs g n x, nI (n + 1), true) := by
                unfold Lm; rw [if_pos (by omega), eL, eN]
              rw [this, up2_ne (by omega), up2_at, up2_at]
              exact ⟨rfl, rfl⟩
            · have : Lm g n (i + 1) x = Lm g n i x := by
                unfold Lm
                by_cases z2 : x < i
                · rw [if_pos (by omega), if_pos z2]
                · rw [if_neg (by omega), if_neg z2]
              rw [this, up2_o z, up2_o z, up2_o z, up2_o z]; exact V' x hx)
          rw [fdN_succ, hch, Bool.or_true] at this
          exact this
        · rw [if_pos q4] at eN
          rw [eL, eL, eN]
          rcases Ld_inv v n i with ⟨z, z2⟩ | ⟨z, -⟩
          · have : Ld g n i = ((Ld g n i).1, (Ld g n i).2.1, (Ld g n i).2.2) := rfl
            rw [this, z, z2, hu]
          · rw [q2] at z; exact absurd z (by decide)
      · rw [eL, eL]
        exact Ld_keep (endd hP q3 n).2
  · refine k4 _ _ _ _ _ ?_
    simp only [vcX6_findValues_4, T'.fs, true_and]
    refine ⟨fun _ => ⟨bI_m _, ?_⟩, fun q => absurd (nI_le (Nat.le_refl _) (by omega)) q⟩
    rw [fdN_eq w]
    exact hq h' A' T' F' G' E5 (fun x hx => by have := V' x hx; unfold Lm at this; rw [if_pos hx] at this; exact this)
end
