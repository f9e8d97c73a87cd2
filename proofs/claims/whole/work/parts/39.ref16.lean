def yO (g : Gm) (x k : Nat) : Nat := match (mvs g x)[k]? with
  | none => 0
  | some v => v.2.2.2
def btr (g : Gm) (x y : Nat) : Option Nat → Bool
  | none => true
  | some b => (val g x == 1 && decide (tE g y < tE g (yO g x b))) || (val g x == -1 && decide (¬ tE g y ≤ tE g (yO g x b)))
def bsN (g : Gm) (x : Nat) : Nat → Option Nat
  | 0 => none
  | k + 1 => if val g (yO g x k) == -val g x && btr g x (yO g x k) (bsN g x k) then some k else bsN g x k
def bst (g : Gm) (x : Nat) : Option Nat := bsN g x (mvs g x).length
theorem bsN_lt (g : Gm) (x : Nat) : ∀ n b, bsN g x n = some b → b < n
  | 0, b, h => by cases h
  | n + 1, b, h => by
    rw [bsN] at h
    by_cases c : (val g (yO g x n) == -val g x && btr g x (yO g x n) (bsN g x n)) = true
    · rw [if_pos c] at h; cases h; omega
    · rw [if_neg c] at h; have := bsN_lt g x n b h; omega
theorem yO_Ps {g : Gm} (w : qF g) {x k : Nat} (hx : Ps g x = true) (hk : k < (mvs g x).length) : Ps g (yO g x k) = true := by
  unfold yO
  rw [List.getElem?_eq_getElem hk]
  exact suc_Ps w hx (List.getElem_mem hk)
def fol (g : Gm) (x : Nat) : Nat → Nat
  | 0 => x
  | k + 1 => match bst g (fol g x k) with
    | none => 0
    | some b => yO g (fol g x k) b
def gsO (g : Gm) (x k : Nat) : Bool := (bst g (fol g x k)).isSome && !(List.range (k + 1)).any (fun i => fol g x i == fol g x (k + 1))
def lnN (g : Gm) (x : Nat) : Nat → Nat → Nat
  | 0, k => k
  | r + 1, k => if gsO g x k then lnN g x r (k + 1) else k
def lnc (g : Gm) (x : Nat) : Nat := lnN g x 60 0
def sBest (s : Sg) : Int32 := match sG s with
  | none => -3
  | some g => if pN (sP s) = 0 then -3 else mI (bst g (pHe (sP s)))
def liA (g : Gm) (x : Nat) (k : Int32) : Int32 := if k = -1 then nI (lnc g x) else if btw 1 (nI (lnc g x)) k then nI (fol g x k.toNatClampNeg) else -1
def sLine (s : Sg) (k : Int32) : Int32 := match sG s with
  | none => -3
  | some g => if pN (sP s) = 0 then -3 else liA g (pHe (sP s)) k
def srL (F : Nat → Int32) (l : List Nat) : Int32 := l.foldl (fun a y => if -(F y) ≤ a then a else -(F y)) (-1)
def srV (g : Gm) : Nat → Nat → Int32
  | 0, x => if (mvs g x).isEmpty then endV g x else 0
  | e + 1, x => if (mvs g x).isEmpty then endV g x else srL (srV g e) (suc g x)
def sSear (s : Sg) (e : Int32) : Int32 := match sG s with
  | none => -3
  | some g => if pN (sP s) = 0 then -3 else if btw 0 4 e then srV g e.toNatClampNeg (pHe (sP s)) else -2
theorem fol_Ps {g : Gm} (w : qF g) {x : Nat} (hx : Ps g x = true) : ∀ k, (∀ i, i < k → (bst g (fol g x i)).isSome = true) → Ps g (fol g x k) = true
  | 0, _ => hx
  | k + 1, h => by
    have ih := fol_Ps w hx k (fun i hi => h i (by omega))
    have := h k (by omega)
    rw [fol]
    cases hb : bst g (fol g x k) with
    | none => rw [hb] at this; cases this
    | some b => exact yO_Ps w ih (bsN_lt _ _ _ _ hb)
def offS (e j i : Nat) : Prop := ∀ e', e' ≤ e → j ≠ 6 + e' ∧ offM e' j i
def FR (e : Nat) (A A' : Nat → Nat → Int32) : Prop := ∀ j i, offS e j i → A' j i = A j i
section
variable {E : Wd} {h0 h : Hp} {M : Nat} {A : Nat → Nat → Int32} {f : Nat → Int32} {g : Gm} {d : Nat} {s : Sg}
theorem k_bestOf {Q : Int32 → Hp → Prop} {x : Nat} (R : Rf E h0 h M A f) (G : RG A f g) (hP : Ps g x = true)
    (hq : ∀ h' A', Rf E h0 h' M A' f → FM g A A' 0 (plc g x) (mvs g x) → Q (mI (bst g x)) h') : OkI E YX8_bestOf (d + 7) [.ref M, .int (nI x)] h Q := by
  refine rnX8_bestOf (fun K11 k11 => ?_)
  have w := G.2.1
  obtain ⟨hx, hpo⟩ := Ps_un w hP
  have hnx := nx_le w
  have hlen := mvs_len w x
  refine ⟨⟨_, R.obj⟩, k_findMoves (e := 0) R G.1 w (by omega) hx hpo (fun h2 A2 R2 F2 => ?_)⟩
  have G2 := F2.rg (by omega) G
  obtain ⟨hg2, -, v, hf2, T2, Tc2⟩ := G2
  have r0 := R2.row0
  have tbx := R2.tb (show x < 4394 by omega)
  obtain ⟨x1, x2, x3, x4⟩ := T2 x hx
  have row : ∀ k, k < (mvs g x).length → ∃ y, yO g x k = y ∧ y < nx g ∧ gA h2 (M + (35 + 0)) (nI k) = nI y ∧ okR E h2 (M + (35 + 0)) 0 (nI k) := fun k hk => by
    have hgt : (mvs g x)[k]? = some (mvs g x)[k] := List.getElem?_eq_getElem hk
    have at' := F2.1.at R2 (by omega) (by omega) hgt
    exact ⟨_, rfl, (Ps_un w (yO_Ps w hP hk)).1, by unfold yO; rw [hgt]; exact at'.2.2.2.1, at'.2.2.2.2.2.2.2⟩
  refine lp_up (K := fun k => K11 M (nI x) (mI (bsN g x k)) (nI k) h2) (mvs g x).length (fun k hk ih => ?_) ?_ 0 (Nat.zero_le _)
  · refine k11 _ _ _ _ _ ?_
    obtain ⟨y, hy, hy1, hrow, hok⟩ := row k hk
    have tby := R2.tb (show y < 4394 by omega)
    obtain ⟨y1, y2, y3, y4⟩ := T2 y hy1
    simp only [vcX8_bestOf_11, R2.fs, r0, F2.1.1, true_and, nI_leI (show (mvs g x).length < 2 ^ 31 by omega) (show k < 2 ^ 31 by omega), hrow, hok, tby, tbx, y3, x3]
    rw [← nI_1, bsN, hy] at ih
    obtain ⟨o, ho⟩ : ∃ o, bsN g x k = o := ⟨_, rfl⟩
    have ho2 : ∀ b, o = some b → b < k := fun b e => bsN_lt g x k b (by rw [ho, e])
    rw [ho] at ih ⊢
    -- the last test
    have L131 : ∀ a b : Bool, a = (val g y == -val g x) → b = btr g x y o → vcX8_bestOf_131 E (d + 6) K11 M (nI x) (mI o) (nI k) (bI a) (bI b) h2 Q := fun a b ha hb => by
      rw [← ha, ← hb] at ih
      refine bI_c (fun c => ?_) (fun c => bI_c (fun c2 => ?_) (fun c2 => ?_))
      · rw [c, Bool.false_and] at ih; exact ih
      · rw [c2, Bool.and_false] at ih; exact ih
      · rw [c, c2] at ih; exact ih
    have L53 : ∀ a : Bool, a = (val g y == -val g x) → vcX8_bestOf_53 E (d + 6) K11 M (nI x) (mI o) (nI k) (nI y) (bI a) h2 Q := fun a ha => by
      have hm : (0 : Int32) ≤ mI o ↔ o.isSome = true := mI_ge (fun q e => by have := ho2 q e; omega)
      have hm' : mI o < 0 ↔ o = none := mI_lt (fun q e => by have := ho2 q e; omega)
      simp only [vcX8_bestOf_53, vcX8_bestOf_76, vcX8_bestOf_104, vcX8_bestOf_126, vcX8_bestOf_130, R2.fs, r0, true_and, hm, hm', tbx, tby, x3, x4, y3, y4]
      cases o with
      | none =>
        refine ⟨fun q => (by cases q), fun _ => ⟨fun _ => L131 _ true ha rfl, fun q => absurd rfl q⟩⟩
      | some b =>
        obtain ⟨z, hz, hz1, hrz, hokz⟩ := row b (by have := ho2 b rfl; omega)
        have tbz := R2.tb (show z < 4394 by omega)
        obtain ⟨z1, z2, z3, z4⟩ := T2 z hz1
        simp only [mI, hrz, hokz, tbz, z4, true_and]
        have L104 : ¬ (val g x = 1 ∧ tE g y < tE g z) → (¬ val g x = -1 → vcX8_bestOf_131 E (d + 6) K11 M (nI x) (mI (some b)) (nI k) (bI a) 0 h2 Q) ∧ (val g x = -1 → (tE g y ≤ tE g z → vcX8_bestOf_131 E (d + 6) K11 M (nI x) (mI (some b)) (nI k) (bI a) 0 h2 Q) ∧ (¬ tE g y ≤ tE g z → vcX8_bestOf_131 E (d + 6) K11 M (nI x) (mI (some b)) (nI k) (bI a) 1 h2 Q)) := fun q => by
          have e1 : (val g x == 1 && decide (tE g y < tE g z)) = false := by simpa using q
          refine ⟨fun c => L131 a false ha ?_, fun c => ⟨fun c2 => L131 a false ha ?_, fun c2 => L131 a true ha ?_⟩⟩
          · rw [btr, hz, e1]; simp [c]
          · rw [btr, hz, e1]; simp [c2]
          · rw [btr, hz, e1]; simp [c, c2]
        refine ⟨fun _ => ⟨fun q => (by cases q), fun _ => ⟨fun q => L104 (fun q2 => q q2.1), fun q => ⟨fun q2 => L131 a true ha ?_, fun q2 => L104 (fun q3 => q2 q3.2)⟩⟩⟩, fun q => absurd rfl q⟩
        have q' : val g x = 1 := q
        have q2' : tE g y < tE g z := q2
        rw [btr, hz]; simp [q', q2']
    refine ⟨fun c => absurd c (by omega), fun _ => ⟨fun c => L53 false ?_, fun c => L53 true ?_⟩⟩
    · exact (beq_eq_false_iff_ne.mpr c).symm
    · exact (beq_iff_eq.mpr c).symm
  · refine k11 _ _ _ _ _ ?_
    simp only [vcX8_bestOf_11, R2.fs, r0, F2.1.1, true_and]
    exact ⟨fun _ => hq h2 A2 R2 F2, fun c => absurd (nI_le (Nat.le_refl _) (by omega)) c⟩
theorem k_best {Q : Int32 → Hp → Prop} (R : Rf E h0 h M A f) (S : RS A f s)
    (hq : ∀ h' A', Rf E h0 h' M A' f → FS A A' → Q (sBest s) h') : OkI E YX8_best (d + 8) [.ref M] h Q := by
  refine rnX8_best ?_
  refine ⟨⟨_, R.obj⟩, k_isPlaying R S (bI_c (fun c => ?_) (fun c => ?_))⟩
  · have := hq h A R (FS.rfl A)
    rw [sBest] at this
    simp only [decide_eq_false_iff_not, Decidable.not_not] at c
    cases hg : sG s with
    | none => rw [hg] at this; exact this
    | some g => rw [hg] at this; simp only [c, if_true] at this; exact this
  · have c := of_decide_eq_true c
    obtain ⟨g, m, e1, e2, e3, e4, e5, e6⟩ := S.pl c
    refine ⟨⟨_, R.obj⟩, k_here R S c ⟨⟨_, R.obj⟩, k_bestOf R (S.go e1) e6 (fun h2 A2 R2 F2 => ?_)⟩⟩
    have := hq h2 A2 R2 (F2.fs (by omega))
    rw [sBest, e1] at this
    simp only [c, if_false] at this
    exact this
theorem FR.fs {e : Nat} (he : e < 6) {A A' : Nat → Nat → Int32} (F : FR e A A') : FS A A' := fun j o => funext fun i => F j i (fun e' _ => ⟨by omega, by omega, by omega, by omega, by omega, by omega⟩)
theorem k_searchFrom {Q : Int32 → Hp → Prop} (w : qF g) : ∀ e x h A Q, e ≤ 4 → Rf E h0 h M A f → RG A f g → Ps g x = true →
    (∀ h' A', Rf E h0 h' M A' f → FR (e + 1) A A' → Q (srV g e x) h') → OkI E YX8_searchFrom (d + e + 7) [.ref M, .int (nI x), .int (nI e)] h Q := by
  intro e
  induction e with
  | zero =>
    intro x h A Q he R G hP hq
    refine rnX8_searchFrom (fun K39 k39 => ?_)
    obtain ⟨hx, hpo⟩ := Ps_un w hP
    have hnx := nx_le w
    have hlen := mvs_len w x
    refine ⟨⟨_, R.obj⟩, ?_⟩
    rw [show nI 0 + 1 = nI 1 from rfl]
    refine k_findMoves (e := 1) R G.1 w (by omega) hx hpo (fun h2 A2 R2 F2 => ?_)
    have F2' : FR 1 A A2 := fun j i o => F2.2.2 j i (o 1 (by omega)).1 (o 1 (by omega)).2
    have hq := hq h2 A2 R2 F2'
    have r1 := R2.rows (e := 1) (by omega)
    simp only [R2.fs, r1, F2.1.1, true_and, (ks (show (mvs g x).length < 2 ^ 31 by omega)).1]
    refine ⟨fun c => ⟨fun c2 => absurd (by rfl) c2, fun _ => ?_⟩, fun c => ?_⟩
    · rw [srV, if_neg (by simpa using c)] at hq; exact hq
    · rw [srV, if_pos (by simpa using c)] at hq
      exact k_endValue (e := 1) R2 (F2.g2 G.1) w (by omega) hx hpo F2.2.1 hq
  | succ e ih =>
    intro x h A Q he R G hP hq
    refine rnX8_searchFrom (fun K39 k39 => ?_)
    obtain ⟨hx, hpo⟩ := Ps_un w hP
    have hnx := nx_le w
    have hlen := mvs_len w x
    refine ⟨⟨_, R.obj⟩, ?_⟩
    rw [nI_1]
    refine k_findMoves (e := e + 1 + 1) R G.1 w (by omega) hx hpo (fun h2 A2 R2 F2 => ?_)
    have F2' : FR (e + 1 + 1) A A2 := fun j i o => F2.2.2 j i (o _ (by omega)).1 (o _ (by omega)).2
    have r1 := R2.rows (e := e + 1 + 1) (by omega)
    simp only [R2.fs, r1, F2.1.1, true_and, (ks (show (mvs g x).length < 2 ^ 31 by omega)).1, (ks (show e + 1 < 2 ^ 31 by omega)).1]
    refine ⟨fun c => ⟨fun _ => ?_, fun c2 => absurd c2 (by omega)⟩, fun c => ?_⟩
    · have hsl : (suc g x).length = (mvs g x).length := by unfold suc; rw [List.length_map]
      refine lp_up (K := fun k => ∀ h3 A3, Rf E h0 h3 M A3 f → FR (e + 1) A2 A3 → K39 M (nI (e + 1)) (srL (srV g e) ((suc g x).take k)) (nI k) h3) (mvs g x).length (fun k hk ihk h3 A3 R3 F3 => ?_) (fun h3 A3 R3 F3 => ?_) 0 (Nat.zero_le _) h2 A2 R2 (fun _ _ _ => rfl)
      · refine k39 _ _ _ _ _ ?_
        have hgt : (mvs g x)[k]? = some (mvs g x)[k] := List.getElem?_eq_getElem hk
        have keep : ∀ j i, (j = 14 + (e + 1 + 1) ∨ j = 21 + (e + 1 + 1) ∨ j = 28 + (e + 1 + 1) ∨ j = 35 + (e + 1 + 1) ∨ j = 12 ∧ i = e + 1 + 1) → A3 j i = A2 j i := fun j i o => F3 j i (fun e' he' => ⟨by omega, by omega, by omega, by omega, by omega, by omega⟩)
        have V3 : MVs A3 (e + 1 + 1) (mvs g x) := by
          refine ⟨by rw [keep 12 _ (by omega)]; exact F2.1.1, fun i v hv => ?_⟩
          rw [keep _ _ (Or.inl rfl), keep _ _ (Or.inr (Or.inl rfl)), keep _ _ (Or.inr (Or.inr (Or.inl rfl))), keep _ _ (Or.inr (Or.inr (Or.inr (Or.inl rfl))))]
          exact F2.1.2 i v hv
        have r3 := R3.rows (e := e + 1 + 1) (by omega)
        have at3 := V3.at R3 (by omega) (by omega) hgt
        simp only [vcX8_searchFrom_39, nI_1, R3.fs, r3, V3.1, true_and, at3, nI_leI (show (mvs g x).length < 2 ^ 31 by omega) (show k < 2 ^ 31 by omega)]
        refine ⟨fun c2 => absurd c2 (by omega), fun _ => ?_⟩
        rw [nI_pred]
        have hy := suc_Ps w hP (List.mem_of_getElem? hgt)
        have G3 : RG A3 f g := G.of (fun j o => by
          rw [(FR.fs (by omega) F3) j (by omega), (F2.fs (by omega)) j (by omega)])
        refine ih _ h3 A3 _ (by omega) R3 G3 hy (fun h4 A4 R4 F4 => ?_)
        have F4' : FR (e + 1) A2 A4 := fun j i o => (F4 j i o).trans (F3 j i o)
        have := ihk h4 A4 R4 F4'
        have hsk : (suc g x)[k]? = some (mvs g x)[k].2.2.2 := by unfold suc; rw [List.getElem?_map, hgt]; rfl
        rw [List.take_succ, hsk, srL, List.foldl_append] at this
        simp only [Option.toList, List.foldl_cons, List.foldl_nil] at this
        rw [← srL] at this
        refine ⟨fun c3 => ?_, fun c3 => ?_⟩
        · rw [if_pos c3] at this; exact this
        · rw [if_neg c3] at this; exact this
      · refine k39 _ _ _ _ _ ?_
        have r3 := R3.rows (e := e + 1 + 1) (by omega)
        have h12 : A3 12 (e + 1 + 1) = nI (mvs g x).length := by
          rw [F3 12 _ (fun e' he' => ⟨by omega, by omega, by omega, by omega, by omega, by omega⟩)]; exact F2.1.1
        simp only [vcX8_searchFrom_39, nI_1, R3.fs, r3, h12, true_and]
        refine ⟨fun _ => ?_, fun c3 => absurd (nI_le (Nat.le_refl _) (by omega)) c3⟩
        rw [← hsl, List.take_length]
        have := hq h3 A3 R3 (fun j i o => (F3 j i (fun e' he' => o e' (by omega))).trans (F2' j i o))
        rw [srV, if_neg (by simpa using c)] at this
        exact this
    · have hq := hq h2 A2 R2 F2'
      rw [srV, if_pos (by simpa using c)] at hq
      exact k_endValue (e := e + 1 + 1) R2 (F2.g2 G.1) w (by omega) hx hpo F2.2.1 hq
theorem k_search {Q : Int32 → Hp → Prop} {x : Int32} (R : Rf E h0 h M A f) (S : RS A f s)
    (hq : ∀ h' A', Rf E h0 h' M A' f → FS A A' → Q (sSear s x) h') : OkI E YX8_search (d + 12) [.ref M, .int x] h Q := by
  refine rnX8_search ?_
  refine ⟨⟨_, R.obj⟩, k_isPlaying R S (bI_c' (fun c => ?_) (fun c => ?_))⟩
  · have := hq h A R (FS.rfl A)
    rw [sSear] at this
    simp only [decide_eq_false_iff_not, Decidable.not_not] at c
    cases hg : sG s with
    | none => rw [hg] at this; exact this
    | some g => rw [hg] at this; simp only [c, if_true] at this; exact this
  · have c := of_decide_eq_true c
    obtain ⟨g, m, e1, e2, e3, e4, e5, e6⟩ := S.pl c
    have w := (S.go e1).2.1
    rw [sSear, e1] at hq
    simp only [c, if_false] at hq
    refine k_isBetween (bI_c (fun c1 => ?_) (fun c1 => ?_))
    · have := hq h A R (FS.rfl A)
      rw [if_neg (by rw [show btw 0 4 x = false from c1]; decide)] at this
      exact this
    · obtain ⟨k, hk, e⟩ := btw_in (b := 5) (by omega) c1
      rw [if_pos (show btw 0 4 x = true from c1)] at hq
      subst e
      rw [n_cl] at hq
      refine ⟨⟨_, R.obj⟩, k_here R S c ⟨⟨_, R.obj⟩, ?_⟩⟩
      have go : ∀ D, D = d + (4 - k) + k + 7 → OkI E YX8_searchFrom D [.ref M, .int (nI (pHe (sP s))), .int (nI k)] h Q := by
        rintro D rfl
        exact k_searchFrom (Q := Q) w k _ h A Q (by omega) R (S.go e1) e6 (fun h2 A2 R2 F2 => hq h2 A2 R2 (FR.fs (by omega) F2))
      exact go _ (by omega)
end
