section
variable {g : Gm} {mA mC mB sA β : Nat}
def dk (g : Gm) (m : Nat) : Nat := if qk g m < 9 then qk g m else if m < qb g then 9 else 10
theorem dk_lt (g : Gm) (m : Nat) : dk g m < 11 := by unfold dk; split; omega; split <;> omega
theorem qi_lt {x : Nat} (h : x < 11) : qi x < 13 := by unfold qi; split; omega; split <;> omega
theorem si_lt {x : Nat} (h : x < 11) : si x < 13 := by unfold si; split; omega; split <;> omega
theorem rr_free {w k f t o : Nat} (hk : k < 9) (up cap : Bool) : rr w k up f t o cap = rr w k true f t o false := by
  unfold rr
  rcases (show k = 0 ∨ k = 1 ∨ k = 2 ∨ k = 3 ∨ k = 4 ∨ k = 5 ∨ k = 6 ∨ k = 7 ∨ k = 8 by omega) with rfl | rfl | rfl | rfl | rfl | rfl | rfl | rfl | rfl <;> rfl
theorem rch_tm (w : qF g) (hβ : β < 4) (hw : qw g = wB β) {m c f t : Nat} (cap : Bool) (hc : c < 13) (hf : f < 12) (ht : t < 12) (h1 : t ≠ f) (h2 : t ≠ c) (h3 : f ≠ c) : rch g m f t (bc c) cap = (tm (mkT β (if cap then si (dk g m) else qi (dk g m))) c f).testBit t := by
  have hk := w.2.2.2.2.2.2.2.2.2.2 m
  have hd := dk_lt g m
  have hi : (if cap then si (dk g m) else qi (dk g m)) < 13 := by cases cap; exact qi_lt hd; exact si_lt hd
  rw [okT hβ hi hc hf ht, rch_rr, hw, ne_b h1, ne_b h2, ne_b h3]
  simp only [Bool.true_and]
  by_cases h9 : qk g m < 9
  · have e : dk g m = qk g m := if_pos h9
    have e1 : qi (qk g m) = qk g m := if_pos h9
    have e2 : si (qk g m) = qk g m := if_pos h9
    rw [e, e1, e2]
    have e3 : (if cap = true then qk g m else qk g m) = qk g m := by cases cap <;> rfl
    rw [e3]
    unfold rk
    rw [if_pos h9]
    exact rr_free h9 _ _
  · have e9 : qk g m = 9 := by omega
    rw [e9]
    unfold dk
    rw [if_neg h9]
    by_cases hb : m < qb g
    · rw [if_pos hb, decide_eq_true hb]; cases cap <;> rfl
    · rw [if_neg hb, decide_eq_false hb]; cases cap <;> rfl
theorem bt_bc (h0 : qo g = 0) (hs : sq g = 12) (c : Nat) : bt g c = bc c := by
  unfold bt bc; rw [h0, hs, Nat.zero_or]
theorem fre12 (h0 : qo g = 0) (hs : sq g = 12) {p : Nat} : fre g p = decide (p < 12) := by
  unfold fre; rw [h0, hs, Nat.zero_testBit]; simp
theorem QS12 (w : qF g) (hβ : β < 4) (hw : qw g = wB β) (h0 : qo g = 0) (hs : sq g = 12) {m c f t : Nat} (hc : c < 13) (hf : f < 12) (ht : t < 12) (h3 : f ≠ c) : Qf g m c f t = (tm (mkT β (qi (dk g m))) c f).testBit t ∧ Sf g m c f t = (tm (mkT β (si (dk g m))) c f).testBit t := by
  have hd := dk_lt g m
  unfold Qf Sf
  rw [fre12 h0 hs, decide_eq_true ht, bt_bc h0 hs]
  by_cases h1 : t = f
  · subst h1
    rw [okT hβ (qi_lt hd) hc hf ht, okT hβ (si_lt hd) hc hf ht]
    simp
  · by_cases h2 : t = c
    · subst h2
      rw [okT hβ (qi_lt hd) hc hf ht, okT hβ (si_lt hd) hc hf ht]
      simp
    · have e1 := rch_tm (m := m) w hβ hw false hc hf ht h1 h2 h3
      have e2 := rch_tm (m := m) w hβ hw true hc hf ht h1 h2 h3
      rw [e1, e2, ne_b h1, ne_b h2]
      exact ⟨rfl, rfl⟩
theorem lt_12 {a b : Nat} (ha : a < 4096) (hb : b < 4096) : Nat.lor a b < 4096 := by
  have : a ||| b < 2 ^ 12 := Nat.or_lt_two_pow ha hb
  exact this
theorem p2_lt {a : Nat} (h : a < 12) : Nat.pow 2 a < 4096 := by
  have : 2 ^ a < 2 ^ 12 := Nat.pow_lt_pow_right (by omega) h
  exact this
theorem bc_lt (c : Nat) : bc c < 4096 := by
  unfold bc; split
  · rename_i h; exact p2_lt h
  · omega
theorem um_lt {s y c a t : Nat} (hs : s < 4096) (hy : y < 4096) (ha : a < 12) (ht : t < 12) : um s y c a t < 4096 := by
  have h := lt_12 (lt_12 (lt_12 (lt_12 hs hy) (p2_lt ha)) (p2_lt ht)) (bc_lt c)
  have : 4095 ^^^ (Nat.lor (Nat.lor (Nat.lor (Nat.lor s y) (Nat.pow 2 a)) (Nat.pow 2 t)) (bc c)) < 2 ^ 12 := Nat.xor_lt_two_pow (by decide) h
  exact this
theorem um_bit {s y c a t b : Nat} (hb : b < 12) (h1 : s.testBit b = false) (h2 : y.testBit b = false) (h3 : b ≠ a) (h4 : b ≠ t) (h5 : b ≠ c) : (um s y c a t).testBit b = true := by
  show (4095 ^^^ ((((s ||| y) ||| 2 ^ a) ||| 2 ^ t) ||| bc c)).testBit b = true
  have e : bc c = if c < 12 then 2 ^ c else 0 := rfl
  have e1 : (bc c).testBit b = false := by
    cases h : (bc c).testBit b with
    | false => rfl
    | true => rw [e] at h; exact absurd ((bit_if c 12 b).mp h).2.symm h5
  rw [Nat.testBit_xor, Nat.testBit_or, Nat.testBit_or, Nat.testBit_or, Nat.testBit_or, h1, h2, e1, Nat.testBit_two_pow, Nat.testBit_two_pow, decide_eq_false (Ne.symm h3), decide_eq_false (Ne.symm h4), show (4095 : Nat) = 2 ^ 12 - 1 from rfl, Nat.testBit_two_pow_sub_one, decide_eq_true hb]
  rfl
theorem ul_le {T : Nat → Nat → Bool} {q s : Nat} {y : Nat → Nat} {c a : Nat} (hs : s < 4096) (hy : ∀ t, y t < 4096) (ha : a < 12) (h : ∀ b t, t < 12 → T b t = true → b < 12 ∧ q.testBit t = true ∧ s.testBit b = false ∧ (y t).testBit b = false ∧ b ≠ a ∧ b ≠ t ∧ b ≠ c) : sm 13 (fun b => cnt 12 (T b)) ≤ ulK q s y c a := by
  have z : cnt 12 (T 12) = 0 := cnt_0 fun t ht => by
    cases e : T 12 t with
    | false => rfl
    | true => have := (h 12 t ht e).1; omega
  rw [sm, z, Nat.add_zero]
  unfold ulK
  rw [smK_sm]
  unfold cnt
  rw [sm_comm]
  refine sm_le fun t ht => ?_
  cases e : Nat.testBit q t with
  | false =>
    have : sm 12 (fun i => (T i t).toNat) = 0 := cnt_0 (p := fun i => T i t) fun b hb => by
      cases e2 : T b t with
      | false => rfl
      | true => have := (h b t ht e2).2.1; rw [e] at this; cases this
    rw [this]; exact Nat.zero_le _
  | true =>
    show cnt 12 (fun i => T i t) ≤ pc (um s (y t) c a t)
    rw [← pc_ok (um_lt hs (hy t) ha ht)]
    refine cnt_le fun b hb e2 => ?_
    obtain ⟨-, -, k1, k2, k3, k4, k5⟩ := h b t ht e2
    exact um_bit hb k1 k2 k3 k4 k5
theorem two_le {F G : Nat → Nat → Nat} {n k : Nat} (h0 : ∀ c, F c k = 0) (h : ∀ c f, c < n → f < k → F c f ≤ G c f) : sm n (fun c => sm (k + 1) (fun f => F c f)) ≤ smK n (fun c => smK k (fun f => G c f)) := by
  rw [smK_sm]
  refine sm_le fun c hc => ?_
  rw [smK_sm, sm, h0, Nat.add_zero]
  exact sm_le fun f hf => h c f hc hf
theorem V3_b (h0 : qo g = 0) (hs : sq g = 12) {a c t b : Nat} (h : V3 g a c t b = true) : b < 12 ∧ b ≠ a ∧ b ≠ c ∧ b ≠ t := by
  unfold V3 at h
  simp only [Bool.and_eq_true, Bool.not_eq_true', beq_eq_false_iff_ne] at h
  have := fre_lt h.1.1.1
  exact ⟨by omega, h.1.1.2, h.1.2, h.2⟩
theorem lv12 (h0 : qo g = 0) (hs : sq g = 12) {c a : Nat} (h : lv g c a = true) : a < 12 ∧ a ≠ c := by
  unfold lv at h
  simp only [Bool.and_eq_true, Bool.or_eq_true, Bool.not_eq_true', beq_eq_false_iff_ne, beq_iff_eq] at h
  have := fre_lt h.1
  refine ⟨by omega, fun e => ?_⟩
  rcases h.2 with h | h
  · omega
  · exact h.2 e.symm
theorem TA12 (w : qF g) (hβ : β < 4) (hw : qw g = wB β) (h0 : qo g = 0) (hs : sq g = 12) : sm (sq g + 1) (fun c => sm (sq g + 1) (fun a => LA g mA mC mB c a)) ≤ ufK (mkT β (qi (dk g mA))) (mkT β (si (dk g mA))) (mkT β (ai (dk g mB))) := by
  rw [hs]
  refine two_le (fun c => ?_) (fun c a hc ha => ?_)
  · refine sm_0 fun b _ => cnt_0 fun t _ => ?_
    unfold tAq lv
    rw [fre12 h0 hs]; rfl
  · cases e : Nat.beq a c with
    | true =>
      have e := Nat.eq_of_beq_eq_true e
      refine Nat.le_of_eq (sm_0 fun b _ => cnt_0 fun t _ => ?_)
      cases e2 : lv g c a with
      | false => unfold tAq; rw [e2]; rfl
      | true => exact absurd e (lv12 h0 hs e2).2
    | false =>
      have ne : a ≠ c := Nat.ne_of_beq_eq_false e
      unfold LA WAq
      rw [hs]
      refine ul_le (tm_lt _ _ _) (fun _ => tm_lt _ _ _) ha (fun b t ht h => ?_)
      unfold tAq at h
      simp only [Bool.and_eq_true, Bool.not_eq_true'] at h
      obtain ⟨h1, h2, ⟨⟨h3, h4⟩, h5⟩, -⟩ := h
      obtain ⟨b1, b2, b3, b4⟩ := V3_b h0 hs h3
      rw [(QS12 w hβ hw h0 hs hc ha ht ne).1] at h2
      rw [(QS12 w hβ hw h0 hs hc ha b1 ne).2] at h4
      rw [(QS12 w hβ hw h0 hs hc b1 ht b3).2, trT hβ (dk_lt g mB) hc b1 ht] at h5
      exact ⟨b1, h2, h4, h5, b2, b4, b3⟩
theorem TA3 (w : qF g) (hβ : β < 4) (hw : qw g = wB β) (h0 : qo g = 0) (hs : sq g = 12) : sm (sq g + 1) (fun c => sm (sq g + 1) (fun a => LA g mA mC mB c a)) ≤ u3K (mkT β (qi (dk g mA))) (mkT β (si (dk g mA))) (mkT β (ai (dk g mB))) (mkT β (si (dk g mC))) := by
  rw [hs]
  refine two_le (fun c => ?_) (fun c a hc ha => ?_)
  · refine sm_0 fun b _ => cnt_0 fun t _ => ?_
    unfold tAq lv
    rw [fre12 h0 hs]; rfl
  · cases e : Nat.beq a c with
    | true =>
      have e := Nat.eq_of_beq_eq_true e
      refine Nat.le_of_eq (sm_0 fun b _ => cnt_0 fun t _ => ?_)
      cases e2 : lv g c a with
      | false => unfold tAq; rw [e2]; rfl
      | true => exact absurd e (lv12 h0 hs e2).2
    | false =>
      have ne : a ≠ c := Nat.ne_of_beq_eq_false e
      unfold LA WAq
      rw [hs]
      have zlt : cond (Nat.beq c 12) 0 (tm (mkT β (si (dk g mC))) a c) < 4096 := by
        cases Nat.beq c 12
        · exact tm_lt _ _ _
        · exact Nat.succ_pos _
      refine ul_le (tm_lt _ _ _) (fun _ => lt_12 (tm_lt _ _ _) zlt) ha (fun b t ht h => ?_)
      unfold tAq at h
      simp only [Bool.and_eq_true, Bool.not_eq_true'] at h
      obtain ⟨h1, h2, ⟨⟨h3, h4⟩, h5⟩, h6⟩ := h
      obtain ⟨b1, b2, b3, b4⟩ := V3_b h0 hs h3
      rw [(QS12 w hβ hw h0 hs hc ha ht ne).1] at h2
      rw [(QS12 w hβ hw h0 hs hc ha b1 ne).2] at h4
      rw [(QS12 w hβ hw h0 hs hc b1 ht b3).2, trT hβ (dk_lt g mB) hc b1 ht] at h5
      refine ⟨b1, h2, h4, ?_, b2, b4, b3⟩
      show (tm (mkT β (ai (dk g mB))) c t ||| cond (Nat.beq c 12) 0 (tm (mkT β (si (dk g mC))) a c)).testBit b = false
      rw [Nat.testBit_or, h5, Bool.false_or]
      cases e3 : Nat.beq c 12 with
      | true => exact Nat.zero_testBit b
      | false =>
        have c12 : c ≠ 12 := Nat.ne_of_beq_eq_false e3
        rw [Bool.or_eq_true, Bool.not_eq_true', beq_iff_eq, hs] at h6
        rcases h6 with h6 | h6
        · exact absurd h6 c12
        · rw [(QS12 w hβ hw h0 hs (by omega) (by omega) b1 (Ne.symm ne)).2] at h6
          exact h6
theorem TC12 (w : qF g) (hβ : β < 4) (hw : qw g = wB β) (h0 : qo g = 0) (hs : sq g = 12) : sm (sq g + 1) (fun a => sm (sq g + 1) (fun c => LC g mC mB a c)) ≤ rfK (mkT β (qi (dk g mC))) (mkT β (si (dk g mC))) (mkT β (ai (dk g mB))) := by
  rw [hs]
  have z : sm (12 + 1) (fun c => LC g mC mB 12 c) = 0 := sm_0 fun c _ => sm_0 fun b _ => cnt_0 fun t _ => by
    unfold tCq
    rw [fre12 h0 hs (p := 12)]
    simp
  rw [sm, z, Nat.add_zero]
  refine two_le (fun c => ?_) (fun a c hc ha => ?_)
  · refine sm_0 fun b _ => cnt_0 fun t _ => ?_
    unfold tCq
    rw [fre12 h0 hs (p := 12)]
    simp
  · cases e : Nat.beq c a with
    | true =>
      have e := Nat.eq_of_beq_eq_true e
      refine Nat.le_of_eq (sm_0 fun b _ => cnt_0 fun t _ => ?_)
      unfold tCq
      rw [beq_iff_eq.mpr e.symm]
      simp
    | false =>
      have ne : c ≠ a := Nat.ne_of_beq_eq_false e
      unfold LC WCq
      rw [hs]
      refine ul_le (tm_lt _ _ _) (fun _ => tm_lt _ _ _) ha (fun b t ht h => ?_)
      unfold tCq at h
      simp only [Bool.and_eq_true, Bool.not_eq_true'] at h
      obtain ⟨h1, h2, ⟨h3, h4⟩, h5⟩ := h
      obtain ⟨b1, b2, b3, b4⟩ := V3_b h0 hs h3
      rw [(QS12 w hβ hw h0 hs (by omega) ha ht ne).1] at h2
      rw [(QS12 w hβ hw h0 hs (by omega) ha b1 ne).2] at h4
      rw [(QS12 w hβ hw h0 hs (by omega) b1 hc b4).2, trT hβ (dk_lt g mB) (by omega) b1 hc] at h5
      exact ⟨b1, h2, h4, h5, b2, b4, b3⟩
theorem TB12 (w : qF g) (hβ : β < 4) (hw : qw g = wB β) (h0 : qo g = 0) (hs : sq g = 12) : sm (sq g + 1) (fun c => sm (sq g + 1) (fun b => LB g mA mB c b)) ≤ ufK (mkT β (qi (dk g mB))) (mkT β (si (dk g mB))) (mkT β (ai (dk g mA))) + xfK (mkT β (si (dk g mB))) := by
  have e : sm (sq g + 1) (fun c => sm (sq g + 1) (fun b => LB g mA mB c b)) = sm (sq g + 1) (fun c => sm (sq g + 1) (fun b => sm (sq g + 1) (fun a => WBq g mA mB a c b))) + sm (sq g + 1) (fun c => sm (sq g + 1) (fun b => sm (sq g + 1) (fun a => WXq g mB a c b))) := by
    rw [← sm_add]
    refine sm_congr fun c _ => ?_
    rw [← sm_add]
    refine sm_congr fun b _ => ?_
    rw [← sm_add]
    rfl
  rw [e, hs]
  refine Nat.add_le_add ?_ ?_
  · refine two_le (fun c => ?_) (fun c b hc hb => ?_)
    · refine sm_0 fun a _ => cnt_0 fun t _ => ?_
      unfold tBq lv
      rw [fre12 h0 hs (p := 12)]; rfl
    · cases e : Nat.beq b c with
      | true =>
        have e := Nat.eq_of_beq_eq_true e
        refine Nat.le_of_eq (sm_0 fun a _ => cnt_0 fun t _ => ?_)
        cases e2 : lv g c b with
        | false => unfold tBq; rw [e2]; rfl
        | true => exact absurd e (lv12 h0 hs e2).2
      | false =>
        have ne : b ≠ c := Nat.ne_of_beq_eq_false e
        unfold WBq
        rw [hs]
        refine ul_le (tm_lt _ _ _) (fun _ => tm_lt _ _ _) hb (fun a t ht h => ?_)
        unfold tBq at h
        simp only [Bool.and_eq_true, Bool.not_eq_true'] at h
        obtain ⟨h1, h2, ⟨h3, h4⟩, h5⟩ := h
        obtain ⟨b1, b2, b3, b4⟩ := V3_b h0 hs h3
        rw [(QS12 w hβ hw h0 hs hc hb ht ne).1] at h2
        rw [(QS12 w hβ hw h0 hs hc hb b1 ne).2] at h4
        rw [(QS12 w hβ hw h0 hs hc b1 ht b3).2, trT hβ (dk_lt g mA) hc b1 ht] at h5
        exact ⟨b1, h2, h4, h5, b2, b4, b3⟩
  · have z : sm (12 + 1) (fun b => sm (12 + 1) (fun a => WXq g mB a 12 b)) = 0 := sm_0 fun b _ => sm_0 fun a _ => by
      unfold WXq tXq
      rw [fre12 h0 hs (p := 12)]
      simp
    rw [sm, z, Nat.add_zero]
    refine two_le (fun c => ?_) (fun c b hc hb => ?_)
    · refine sm_0 fun a _ => ?_
      unfold WXq tXq
      rw [fre12 h0 hs (p := 12)]
      rfl
    · have z2 : WXq g mB 12 c b = 0 := by
        unfold WXq tXq
        rw [fre12 h0 hs (p := 12)]
        simp
      rw [sm, z2, Nat.add_zero]
      have hX : ∀ a, tXq g mB a c b = true → b ≠ c ∧ (tm (mkT β (si (dk g mB))) 12 b).testBit c = true ∧ a < 12 ∧ a ≠ b ∧ a ≠ c ∧ Sf g mB c b a = false := fun a h => by
        unfold tXq at h
        simp only [Bool.and_eq_true, Bool.not_eq_true', beq_eq_false_iff_ne] at h
        obtain ⟨⟨k1, k2, k3⟩, k4, ⟨⟨k5, k6⟩, k7⟩, k8⟩ := h
        rw [hs, (QS12 w hβ hw h0 hs (by omega) hb hc (by omega)).2] at k4
        have := fre_lt k5
        exact ⟨Ne.symm k3, k4, by omega, k6, k7, k8⟩
      cases e : Nat.beq b c with
      | true =>
        have e := Nat.eq_of_beq_eq_true e
        refine Nat.le_of_eq (cnt_0 (p := fun a => tXq g mB a c b) fun a _ => ?_)
        cases e2 : tXq g mB a c b with
        | false => rfl
        | true => exact absurd e (hX a e2).1
      | false =>
        have ne : b ≠ c := Nat.ne_of_beq_eq_false e
        show _ ≤ cond (Nat.testBit (tm (mkT β (si (dk g mB))) 12 b) c) _ 0
        cases e2 : Nat.testBit (tm (mkT β (si (dk g mB))) 12 b) c with
        | false =>
          refine Nat.le_of_eq (cnt_0 (p := fun a => tXq g mB a c b) fun a _ => ?_)
          cases e3 : tXq g mB a c b with
          | false => rfl
          | true => have := (hX a e3).2.1; rw [e2] at this; cases this
        | true =>
          show cnt 12 (fun a => tXq g mB a c b) ≤ pc (um (tm (mkT β (si (dk g mB))) c b) 0 c b b)
          rw [← pc_ok (um_lt (tm_lt _ _ _) (by decide) hb hb)]
          refine cnt_le fun a ha e3 => ?_
          obtain ⟨-, -, -, k1, k2, k3⟩ := hX a e3
          rw [(QS12 w hβ hw h0 hs (by omega) hb ha ne).2] at k3
          exact um_bit ha k3 (Nat.zero_testBit a) k1 k1 k2
theorem same_no (w : qF g) {m m' s : Nat} (h : iof g m s = true) (h' : iof g m' s = false) : same9 (dk g m) (dk g m') = false := by
  cases e : same9 (dk g m) (dk g m') with
  | false => rfl
  | true =>
    exfalso
    unfold same9 at e
    rw [Bool.and_eq_true] at e
    have e1 := Nat.eq_of_beq_eq_true e.1
    have e2 := Nat.le_of_ble_eq_true e.2
    have hn : decide (m < qb g) ≠ decide (m' < qb g) := fun q => by
      unfold iof at h h'
      rw [q, h'] at h
      cases h
    unfold dk at e1 e2
    by_cases a1 : qk g m < 9
    · rw [if_pos a1] at e2; omega
    · rw [if_neg a1] at e1 e2
      by_cases a2 : qk g m' < 9
      · rw [if_pos a2] at e1
        split at e1 <;> omega
      · rw [if_neg a2] at e1
        by_cases a3 : m < qb g <;> by_cases a4 : m' < qb g
        · exact hn (by rw [decide_eq_true a3, decide_eq_true a4])
        · rw [if_pos a3, if_neg a4] at e1; omega
        · rw [if_neg a3, if_pos a4] at e1; omega
        · exact hn (by rw [decide_eq_false a3, decide_eq_false a4])
theorem bnd_12 (w : qF g) (R : Ro g mA mC mB sA) (hp : (mA = 0 ∧ mC = 1 ∧ mB = 2) ∨ (mA = 1 ∧ mC = 2 ∧ mB = 0)) (hβ : β < 4) (hw : qw g = wB β) (h0 : qo g = 0) (hs : sq g = 12) : bnd g := by
  have h := tot_le w R hp
  have tA := TA12 (mA := mA) (mC := mC) (mB := mB) w hβ hw h0 hs
  have tA3 := TA3 (mA := mA) (mC := mC) (mB := mB) w hβ hw h0 hs
  have tC := TC12 (mC := mC) (mB := mB) w hβ hw h0 hs
  have tB := TB12 (mA := mA) (mB := mB) w hβ hw h0 hs
  have s1 := same_no w R.iA R.nB
  have s2 := same_no w R.iB R.nA
  have s3 := same_no w R.iC R.nB
  have dA := dk_lt g mA
  have dC := dk_lt g mC
  have dB := dk_lt g mB
  have u1 := uT hβ dA dB s1
  have u2 := uT hβ dB dA s2
  have u3 := rT hβ dC dB s3
  have u4 := xTl hβ dB
  unfold bnd
  cases hE : isE β (dk g mA) (dk g mC) (dk g mB) with
  | false =>
    have f := List.all_eq_true.mp fin_all β (List.mem_range.mpr hβ)
    have f := List.all_eq_true.mp f _ (List.mem_range.mpr dA)
    have f := List.all_eq_true.mp f _ (List.mem_range.mpr dC)
    have f := List.all_eq_true.mp f _ (List.mem_range.mpr dB)
    rw [s1, s3, hE] at f
    have f : Nat.ble (Nat.add (Nat.add (tv uTv β (dk g mA) (dk g mB)) (tv uTv β (dk g mB) (dk g mA))) (Nat.add (tv xTv β 0 (dk g mB)) (tv rTv β (dk g mC) (dk g mB)))) 7200 = true := f
    have f : (tv uTv β (dk g mA) (dk g mB) + tv uTv β (dk g mB) (dk g mA)) + (tv xTv β 0 (dk g mB) + tv rTv β (dk g mC) (dk g mB)) ≤ 7200 := Nat.le_of_ble_eq_true f
    omega
  | true =>
    have hE0 := hE
    unfold isE at hE
    rw [Bool.and_eq_true, Bool.and_eq_true] at hE
    have b2 := Nat.le_of_ble_eq_true hE.1.1
    have a2 := Nat.eq_of_beq_eq_true hE.1.2
    rw [a2] at hE0 tA3 u2
    have f := List.all_eq_true.mp e3_all β (List.mem_range.mpr (by omega))
    have f := List.all_eq_true.mp f _ (List.mem_range.mpr dC)
    have f := List.all_eq_true.mp f _ (List.mem_range.mpr dB)
    rw [hE0] at f
    have f : Nat.ble (Nat.add (Nat.add (u3K (mkT β (qi 2)) (mkT β (si 2)) (mkT β (ai (dk g mB))) (mkT β (si (dk g mC)))) (tv uTv β (dk g mB) 2)) (Nat.add (tv xTv β 0 (dk g mB)) (tv rTv β (dk g mC) (dk g mB)))) 7200 = true := f
    have f : (u3K (mkT β (qi 2)) (mkT β (si 2)) (mkT β (ai (dk g mB))) (mkT β (si (dk g mC))) + tv uTv β (dk g mB) 2) + (tv xTv β 0 (dk g mB) + tv rTv β (dk g mC) (dk g mB)) ≤ 7200 := Nat.le_of_ble_eq_true f
    rw [a2] at tB
    omega
end
