def Lf (g : Gm) (x : Nat) : Int32 × Int32 × Bool := Ld g 4394 x
def now (g : Gm) (v : Nat × Nat × Option Nat × Nat) : Bool := v.2.2.1.isSome || (Lf g v.2.2.2).2.1 == 0
def Cv (g : Gm) : Nat → Nat → Int32 × Bool
  | 0, x => if Ps g x && (mvs g x).isEmpty then ((Ld g 0 x).2.1, true) else (-5, false)
  | n + 1, x => if Ps g x && (Lf g x).2.2 && !(Cv g n x).2 then
      (if (if (Lf g x).1 == 1 then (mvs g x).any (fun v => (now g v || (Cv g n v.2.2.2).2) && (Lf g v.2.2.2).1 == -1) else (mvs g x).all (fun v => now g v || (Cv g n v.2.2.2).2)) then (nI (n + 1), true) else Cv g n x)
    else Cv g n x
theorem Cv_inv {g : Gm} (v : qV g) : ∀ n x, (Cv g n x).2 = true → (Cv g n x).1 = -5 ∨ ∃ k, k ≤ n ∧ (Cv g n x).1 = nI k
  | 0, x => by
    intro h
    rw [Cv] at h ⊢
    split
    · rcases Ld_inv v 0 x with h1 | ⟨h1, h2, k, h3, h4⟩
      · exact Or.inl h1.2
      · exact Or.inr ⟨k, h3, h4⟩
    · rename_i c; rw [if_neg c] at h; cases h
  | n + 1, x => by
    intro h
    have ih := Cv_inv v n x
    rw [Cv] at h ⊢
    have lift : (Cv g n x).2 = true → (Cv g n x).1 = -5 ∨ ∃ k, k ≤ n + 1 ∧ (Cv g n x).1 = nI k := fun q => by
      rcases ih q with h1 | ⟨k, h1, h2⟩
      · exact Or.inl h1
      · exact Or.inr ⟨k, by omega, h2⟩
    by_cases c1 : (Ps g x && (Lf g x).2.2 && !(Cv g n x).2) = true
    · rw [if_pos c1] at h ⊢
      simp only [Bool.and_eq_true, Bool.not_eq_true'] at c1
      by_cases c2 : (if (Lf g x).1 == 1 then (mvs g x).any (fun v => (now g v || (Cv g n v.2.2.2).2) && (Lf g v.2.2.2).1 == -1) else (mvs g x).all (fun v => now g v || (Cv g n v.2.2.2).2)) = true
      · rw [if_pos c2]
        exact Or.inr ⟨n + 1, Nat.le_refl _, rfl⟩
      · rw [if_neg c2] at h; rw [c1.2] at h; cases h
    · rw [if_neg c1] at h ⊢
      exact lift h
theorem cbf_eq {g : Gm} (v : qV g) {n y : Nat} (hn : n < 2 ^ 30) {S : Int32 × Bool} (hS : S = Cv g n y ∨ S = Cv g (n + 1) y) : (S.2 && decide (¬ nI (n + 1) ≤ S.1)) = (Cv g n y).2 := by
  have key : ∀ S : Int32 × Bool, S = Cv g n y → (S.2 && decide (¬ nI (n + 1) ≤ S.1)) = (Cv g n y).2 := by
    rintro S rfl
    cases h : (Cv g n y).2 with
    | false => rfl
    | true =>
      have : ¬ nI (n + 1) ≤ (Cv g n y).1 := by
        rcases Cv_inv v n y h with h1 | ⟨k, h1, h2⟩
        · rw [h1, Int32.le_iff_toInt_le, nI_toInt (by omega), show (-5 : Int32).toInt = -5 from rfl]; omega
        · rw [h2]; exact nI_ge (by omega) (by omega)
      rw [Bool.true_and, decide_eq_true this]
  rcases hS with hS | hS
  · exact key S hS
  · rw [Cv] at hS
    by_cases c1 : (Ps g y && (Lf g y).2.2 && !(Cv g n y).2) = true
    · rw [if_pos c1] at hS
      simp only [Bool.and_eq_true, Bool.not_eq_true'] at c1
      by_cases c2 : (if (Lf g y).1 == 1 then (mvs g y).any (fun v => (now g v || (Cv g n v.2.2.2).2) && (Lf g v.2.2.2).1 == -1) else (mvs g y).all (fun v => now g v || (Cv g n v.2.2.2).2)) = true
      · rw [if_pos c2] at hS
        rw [hS, c1.2]
        simp
      · rw [if_neg c2] at hS
        exact key S hS
    · rw [if_neg c1] at hS
      exact key S hS
def TC (A : Nat → Nat → Int32) (g : Gm) (S : Nat → Int32 × Bool) : Prop := ∀ x, x < nx g → A 43 x = bI (S x).2 ∧ A 46 x = (S x).1
def mixC (g : Gm) (n i x : Nat) : Int32 × Bool := if x < i then Cv g (n + 1) x else Cv g n x
theorem mixC_or (g : Gm) (n i x : Nat) : mixC g n i x = Cv g n x ∨ mixC g n i x = Cv g (n + 1) x := by unfold mixC; split <;> simp
def chc (g : Gm) (n x : Nat) : Bool := !(Cv g n x).2 && (Cv g (n + 1) x).2
def anyC (g : Gm) (n i : Nat) : Bool := (List.range i).any (chc g n)
theorem anyC_succ (g : Gm) (n i : Nat) : anyC g n (i + 1) = (anyC g n i || chc g n i) := by
  unfold anyC
  rw [List.range_succ, List.any_append]
  simp
def FC (A A' : Nat → Nat → Int32) : Prop := ∀ j i, j ≠ 6 → offM 0 j i → j ≠ 43 → j ≠ 46 → A' j i = A j i
theorem FC.g2 {A A' : Nat → Nat → Int32} {g : Gm} (F : FC A A') (hg : rA (A 2) g) : rA (A' 2) g := by
  have : A' 2 = A 2 := funext fun i => F 2 i (by omega) ⟨by omega, by omega, by omega, by omega, by omega⟩ (by omega) (by omega)
  rw [this]; exact hg
theorem mI_ge {o : Option Nat} (h : ∀ q, o = some q → q < 2 ^ 31) : (0 : Int32) ≤ mI o ↔ o.isSome = true := by
  cases o with
  | none => simp [mI]
  | some q => simp [mI, nI_pos' (h q rfl)]
section
variable {E : Wd} {h0 h : Hp} {M : Nat} {A : Nat → Nat → Int32} {f : Nat → Int32} {g : Gm} {d : Nat}
theorem k_convert {Q : Int32 → Hp → Prop} {n : Nat} (R : Rf E h0 h M A f) (hg : rA (A 2) g) (w : qF g) (v : qV g) (hf : f 20 = nI (nx g)) (hT : TB A g (Lf g)) (hC : TC A g (Cv g n)) (hn : n < 2 ^ 30)
    (hq : ∀ h' A', Rf E h0 h' M A' f → TB A' g (Lf g) → TC A' g (Cv g (n + 1)) → FC A A' → Q (bI (anyC g n (nx g))) h') : OkI E YX8_convert (d + 7) [.ref M, .int (nI (n + 1))] h Q := by
  refine rnX8_convert (fun K4 K54 k4 k54 => ?_)
  have hnx := nx_le w
  have loop := lp_up (K := fun i => ∀ h' A', Rf E h0 h' M A' f → TB A' g (Lf g) → TC A' g (mixC g n i) → FC A A' → K4 M (nI (n + 1)) (bI (anyC g n i)) (nI i) h') (nx g) (fun i hi ih h' A' R' T' Tc F' => by
    have hg' := F'.g2 hg
    have tb := R'.tb (show i < 4394 by omega)
    obtain ⟨t1, t2, t3, t4⟩ := T' i hi
    obtain ⟨t5, t6⟩ := Tc i hi
    have hmi : mixC g n i i = Cv g n i := by unfold mixC; rw [if_neg (by omega)]
    rw [hmi] at t5 t6
    refine k4 _ _ _ _ _ ?_
    simp only [vcX8_convert_4, R'.fs, tb, true_and, hf, t1, t2, t5, nI_leI (show nx g < 2 ^ 31 by omega) (show i < 2 ^ 31 by omega)]
    have same : Cv g (n + 1) i = Cv g n i → ∀ h2 A2, Rf E h0 h2 M A2 f → TB A2 g (Lf g) → TC A2 g (mixC g n i) → FC A A2 → K4 M (nI (n + 1)) (bI (anyC g n i)) (nI i + 1) h2 := fun e1 h2 A2 R2 T2 Tc2 F2 => by
      have e3 : mixC g n (i + 1) = mixC g n i := by
        funext x
        unfold mixC
        by_cases c1 : x < i
        · rw [if_pos c1, if_pos (by omega)]
        · by_cases c2 : x = i
          · subst c2; rw [if_pos (by omega), if_neg c1, e1]
          · rw [if_neg c1, if_neg (by omega)]
      have := ih h2 A2 R2 T2 (by rw [e3]; exact Tc2) F2
      rw [anyC_succ, show chc g n i = false by simp [chc, e1], Bool.or_false] at this
      rw [nI_1]; exact this
    refine ⟨fun c => absurd c (by omega), fun _ => bI_c (fun c => ?_) (fun c => bI_c (fun c1 => ?_) (fun c1 => bI_c' (fun c2 => ?_) (fun c2 => ?_)))⟩
    · exact same (by rw [Cv, c]; rfl) h' A' R' T' Tc F'
    · exact same (by rw [Cv, c1, Bool.and_false]; rfl) h' A' R' T' Tc F'
    · obtain ⟨hx1, -, -⟩ := (Ps_iff w).mp c
      have hpo : poss g (plc g i) (i % 2) = true := by simp only [Ps, Bool.and_eq_true] at c; exact c.2
      refine k_findMoves (e := 0) R' hg' w (by omega) hx1 hpo (fun h2 A2 R2 F2 => ?_)
      have T2 : TB A2 g (Lf g) := fun x hx => by
        rw [F2.tab (by omega) (show 41 ≤ 41 by omega), F2.tab (by omega) (show 41 ≤ 42 by omega), F2.tab (by omega) (show 41 ≤ 44 by omega), F2.tab (by omega) (show 41 ≤ 45 by omega)]; exact T' x hx
      have Tc2 : TC A2 g (mixC g n i) := fun x hx => by
        rw [F2.tab (by omega) (show 41 ≤ 43 by omega), F2.tab (by omega) (show 41 ≤ 46 by omega)]; exact Tc x hx
      have FC2 : FC A A2 := fun j i' o1 o2 o3 o4 => by rw [F2.2.2 j i' (by omega) o2]; exact F' j i' o1 o2 o3 o4
      have hlen : (mvs g i).length < 37 := by
        have h1 := mvA_len g w (plc g i) (i % 2) (qn g)
        have h2 := w.2.2.2.2.2.2.1
        unfold mvs
        omega
      have hk0 : A2 12 0 = nI (mvs g i).length := F2.1.1
      have rw2 := R2.rows (e := 0) (by omega)
      have inner := lp_up (K := fun k => K54 M (nI (n + 1)) (bI (anyC g n i)) (nI i) (bI (((mvs g i).take k).any (fun v => (now g v || (Cv g n v.2.2.2).2) && (Lf g v.2.2.2).1 == -1))) (bI (((mvs g i).take k).all (fun v => now g v || (Cv g n v.2.2.2).2))) (nI k) h2) (mvs g i).length (fun k hk ihk => by
        obtain ⟨mv, hmv⟩ : ∃ mv, (mvs g i)[k]? = some mv := ⟨_, List.getElem?_eq_getElem hk⟩
        obtain ⟨y, hy⟩ : ∃ y, mv.2.2.2 = y := ⟨_, rfl⟩
        have hmem : mv ∈ mvs g i := List.mem_of_getElem? hmv
        have hyP := suc_Ps w c hmem
        rw [hy] at hyP
        have hy1 := ((Ps_iff w).mp hyP).1
        have hk36 : k < 36 := by
          have := mvA_len g w (plc g i) (i % 2) (qn g)
          have h2' := w.2.2.2.2.2.2.1
          unfold mvs at hk
          omega
        have hrow : gA h2 (M + (35 + 0)) (nI k) = nI y := by
          rw [R2.gR (35 + 0) _ rfl, n_cl, (F2.1.2 k mv hmv).2.2.2, hy]
        have hokr : okR E h2 (M + (35 + 0)) 0 (nI k) := R2.oR (35 + 0) _ rfl rfl (vpn (n := 36) hk36 (by omega))
        have hrow2 : gA h2 (M + (28 + 0)) (nI k) = mI mv.2.2.1 := by
          rw [R2.gR (28 + 0) _ rfl, n_cl, (F2.1.2 k mv hmv).2.2.1]
        have hokr2 : okR E h2 (M + (28 + 0)) 0 (nI k) := R2.oR (28 + 0) _ rfl rfl (vpn (n := 36) hk36 (by omega))
        have hmI : (0 : Int32) ≤ mI mv.2.2.1 ↔ mv.2.2.1.isSome = true := mI_ge (fun q hq' => by
          obtain ⟨m, t, -, -, -, -, -, -, -, e⟩ := mvs_mem hmem
          rw [e] at hq'
          have := matN_lt _ _ _ q hq'
          have := w.2.2.2.2.2.2.1
          omega)
        have tby := R2.tb (show y < 4394 by omega)
        obtain ⟨u1, u2, u3, u4⟩ := T2 y hy1
        obtain ⟨u5, u6⟩ := Tc2 y hy1
        have htake : (mvs g i).take (k + 1) = (mvs g i).take k ++ [mv] := by rw [List.take_succ, hmv]; rfl
        have b1 := cbf_eq v hn (mixC_or g n i y)
        rw [htake, List.any_append, List.all_append] at ihk
        simp only [List.any_cons, List.any_nil, Bool.or_false, List.all_cons, List.all_nil, Bool.and_true, hy] at ihk
        rw [← b1, ← nI_1 k] at ihk
        obtain ⟨S, hS⟩ : ∃ S, mixC g n i y = S := ⟨_, rfl⟩
        rw [hS] at u5 u6 ihk
        obtain ⟨nw, hnw⟩ : ∃ nw, now g mv = nw := ⟨_, rfl⟩
        have hnw2 := hnw
        simp only [now, hy] at hnw2
        rw [hnw] at ihk
        obtain ⟨wn, hwn⟩ : ∃ wn, ((mvs g i).take k).any (fun v => (now g v || (Cv g n v.2.2.2).2) && (Lf g v.2.2.2).1 == -1) = wn := ⟨_, rfl⟩
        obtain ⟨ln, hln⟩ : ∃ ln, ((mvs g i).take k).all (fun v => now g v || (Cv g n v.2.2.2).2) = ln := ⟨_, rfl⟩
        rw [hwn, hln] at ihk ⊢
        obtain ⟨b, hb⟩ : ∃ b, (nw || (S.2 && decide (¬ nI (n + 1) ≤ S.1))) = b := ⟨_, rfl⟩
        rw [hb] at ihk
        refine k54 _ _ _ _ _ _ _ _ ?_
        have L161 : ∀ a : Bool, a = (b && (Lf g y).1 == -1) → vcX8_convert_161 E (d + 6) K4 K54 M (nI (n + 1)) (bI (anyC g n i)) (nI i) (bI ln) (nI k) (bI b) (bI wn) (bI a) h2 Q := by
          intro a ha
          simp only [vcX8_convert_161, bI_or, bI_and, ha]
          exact ihk
        have L136 : vcX8_convert_136 E (d + 6) K4 K54 M (nI (n + 1)) (bI (anyC g n i)) (nI i) (bI wn) (bI ln) (nI k) (nI y) (bI b) h2 Q := by
          simp only [vcX8_convert_136, vcX8_convert_160, R2.fs, tby, true_and, u3]
          refine bI_c (fun c3 => ?_) (fun c3 => ⟨fun c4 => ?_, fun c4 => ?_⟩)
          · exact L161 false (by rw [c3]; rfl)
          · exact L161 false (by rw [c3]; simpa using (show (false = ((Lf g y).1 == -1)) by simpa using c4))
          · exact L161 true (by rw [c3, c4]; rfl)
        have L103 : vcX8_convert_103 E (d + 6) K4 K54 M (nI (n + 1)) (bI (anyC g n i)) (nI i) (bI wn) (bI ln) (nI k) (nI y) (bI nw) h2 Q := by
          simp only [vcX8_convert_103, vcX8_convert_131, vcX8_convert_135, R2.fs, tby, true_and, u5, u6]
          have L1 : b = true → vcX8_convert_136 E (d + 6) K4 K54 M (nI (n + 1)) (bI (anyC g n i)) (nI i) (bI wn) (bI ln) (nI k) (nI y) 1 h2 Q := fun q => by rw [q] at L136; exact L136
          have L0 : b = false → vcX8_convert_136 E (d + 6) K4 K54 M (nI (n + 1)) (bI (anyC g n i)) (nI i) (bI wn) (bI ln) (nI k) (nI y) 0 h2 Q := fun q => by rw [q] at L136; exact L136
          refine bI_c' (fun c3 => bI_c (fun c4 => ?_) (fun c4 => ⟨fun c5 => ?_, fun c5 => ?_⟩)) (fun c3 => ?_)
          · exact L0 (by rw [← hb, c3, c4]; rfl)
          · exact L0 (by rw [← hb, c3, c4]; simp [c5])
          · exact L1 (by rw [← hb, c3, c4]; simp [c5])
          · exact L1 (by rw [← hb, c3]; rfl)
        have L1 : nw = true → vcX8_convert_103 E (d + 6) K4 K54 M (nI (n + 1)) (bI (anyC g n i)) (nI i) (bI wn) (bI ln) (nI k) (nI y) 1 h2 Q := fun q => by rw [q] at L103; exact L103
        have L0 : nw = false → vcX8_convert_103 E (d + 6) K4 K54 M (nI (n + 1)) (bI (anyC g n i)) (nI i) (bI wn) (bI ln) (nI k) (nI y) 0 h2 Q := fun q => by rw [q] at L103; exact L103
        simp only [vcX8_convert_54, R2.fs, rw2, R2.oR 12 0 rfl rfl (vpd rfl), R2.gR 12 0 rfl, show (0 : Int32).toNatClampNeg = 0 from rfl, hk0, true_and, nI_leI (show (mvs g i).length < 2 ^ 31 by omega) (show k < 2 ^ 31 by omega)]
        have rw3 : gW h2 (M + 34) 0 = M + (35 + 0) ∧ okW E h2 (M + 34) 0 := ⟨rw2.2.2.2.2.1, rw2.2.2.2.2.2.2.2.2.2.1⟩
        have rw4 : gW h2 (M + 27) 0 = M + (28 + 0) ∧ okW E h2 (M + 27) 0 := ⟨rw2.2.2.2.1, rw2.2.2.2.2.2.2.2.2.1⟩
        refine ⟨fun c3 => absurd c3 (by omega), fun _ => ?_⟩
        simp only [rw3, rw4, hrow, hokr, hrow2, hokr2, tby, u4, hmI, true_and, vcX8_convert_98]
        refine ⟨fun c3 => L1 (by rw [← hnw2, c3]; rfl), fun c3 => ⟨fun c4 => L0 ?_, fun c4 => L1 ?_⟩⟩
        · rw [← hnw2, show mv.2.2.1.isSome = false by simpa using c3]; simpa using c4
        · rw [← hnw2, c4]; simp) (by
        refine k54 _ _ _ _ _ _ _ _ ?_
        rw [List.take_length]
        have done : Cv g (n + 1) i = (nI (n + 1), true) → vcX8_convert_200 E (d + 6) K4 K54 M (nI (n + 1)) (nI i) h2 Q := by
          intro hr
          simp only [vcX8_convert_200, R2.fs, R2.tb (show i < 4394 by omega), true_and]
          intro h3 e3
          subst e3
          have R3 := R2.st (j := 46) (nI i) (nI (n + 1)) rfl
          simp only [R3.fs, R3.tb (show i < 4394 by omega), true_and]
          refine ⟨Or.inr rfl, fun h5 e5 => ?_⟩
          subst e5
          have R5 := R3.st (j := 43) (nI i) 1 rfl
          rw [n_cl (n := i)] at R3 R5
          have := ih _ _ R5 (fun x hx => by
            obtain ⟨z1, z2, z3, z4⟩ := T2 x hx
            simp [up2, z1, z2, z3, z4]) (fun x hx => by
            obtain ⟨z1, z2⟩ := Tc2 x hx
            by_cases c4 : x = i
            · subst c4
              simp [up2, mixC, hr, bI]
            · have : mixC g n (i + 1) x = mixC g n i x := by
                unfold mixC
                by_cases c5 : x < i
                · rw [if_pos c5, if_pos (by omega)]
                · rw [if_neg c5, if_neg (by omega)]
              rw [this]
              simp [up2, c4, z1, z2]) (fun j i' o1 o2 o3 o4 => by
            simp only [up2, o3, o4, false_and, if_false]; exact FC2 j i' o1 o2 o3 o4)
          rw [anyC_succ, show chc g n i = true by simp [chc, c2, hr], Bool.or_true] at this
          rw [nI_1]; exact this
        have hCv : Cv g (n + 1) i = if (if (Lf g i).1 == 1 then (mvs g i).any (fun v => (now g v || (Cv g n v.2.2.2).2) && (Lf g v.2.2.2).1 == -1) else (mvs g i).all (fun v => now g v || (Cv g n v.2.2.2).2)) then (nI (n + 1), true) else Cv g n i := by
          rw [Cv, if_pos (by simp [c, c1, c2])]
        simp only [vcX8_convert_54, R2.fs, R2.oR 12 0 rfl rfl (vpd rfl), R2.gR 12 0 rfl, show (0 : Int32).toNatClampNeg = 0 from rfl, hk0, true_and, R2.tb (show i < 4394 by omega), (T2 i hx1).2.2.1]
        refine ⟨fun _ => ⟨fun c3 => bI_c (fun c4 => ?_) (fun c4 => ?_), fun c3 => bI_c (fun c4 => ?_) (fun c4 => ?_)⟩, fun c3 => absurd (nI_le (Nat.le_refl _) (by omega)) c3⟩
        · exact same (by rw [hCv, show ((Lf g i).1 == 1) = false by simpa using c3, if_neg (by simp [c4])]) h2 A2 R2 T2 Tc2 FC2
        · exact done (by rw [hCv, show ((Lf g i).1 == 1) = false by simpa using c3, if_pos (by simp [c4])])
        · exact same (by rw [hCv, show ((Lf g i).1 == 1) = true by simpa using c3, if_neg (by simp [c4])]) h2 A2 R2 T2 Tc2 FC2
        · exact done (by rw [hCv, show ((Lf g i).1 == 1) = true by simpa using c3, if_pos (by simp [c4])])) 0 (Nat.zero_le _)
      exact inner
    · exact same (by rw [Cv, if_neg (by simp [c2])]) h' A' R' T' Tc F') (fun h' A' R' T' Tc F' => by
    refine k4 _ _ _ _ _ ?_
    simp only [vcX8_convert_4, R'.fs, true_and, hf]
    refine ⟨fun _ => ⟨bI_m _, hq h' A' R' T' (fun x hx => ?_) F'⟩, fun c => absurd (nI_le (Nat.le_refl _) (by omega)) c⟩
    have := Tc x hx
    unfold mixC at this
    rw [if_pos hx] at this
    exact this) 0 (Nat.zero_le _)
  have e0 : mixC g n 0 = Cv g n := by funext x; unfold mixC; rw [if_neg (by omega)]
  refine loop h A R hT (by rw [e0]; exact hC) (fun _ _ _ _ _ _ => rfl)
end
