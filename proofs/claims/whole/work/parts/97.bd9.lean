def dm (K d : Nat) : Nat := Nat.mul d (Nat.sub K d)
def d11 (T h c f : Nat) : Nat := pc (Nat.land (tm T c f) (tm T h f))
def s11 (T h : Nat) : Nat := smK 12 (fun c => cond (Nat.beq c h) 0 (smK 12 (fun f => cond (Nat.beq f h || Nat.beq f c) 0 (dm 9 (d11 T h c f)))))
def e11 (T h : Nat) : Nat := smK 12 (fun f => cond (Nat.beq f h) 0 (dm 10 (d11 T h 12 f)))
def b11 (T h : Nat) : Nat := smK 12 (fun c => cond (Nat.beq c h) 0 (smK 12 (fun f => cond (Nat.beq f h || Nat.beq f c) 0 (Nat.mul (Nat.add (d11 T h c f) (cond (Nat.testBit (Nat.land (tm T 12 f) (tm T h f)) c) 1 0)) (Nat.sub 9 (d11 T h c f))))))
theorem all11 : ((List.range 4).all fun β => (List.range 12).all fun h => (List.range 9).all fun x => Nat.ble (s11 (mkT β x) h) 2082 && Nat.ble (e11 (mkT β x) h) 270 && Nat.ble (Nat.add (b11 (mkT β x) h) (e11 (mkT β x) h)) 2646) = true := by decide +kernel
theorem got11 {β h x : Nat} (hβ : β < 4) (hh : h < 12) (hx : x < 9) : s11 (mkT β x) h ≤ 2082 ∧ e11 (mkT β x) h ≤ 270 ∧ b11 (mkT β x) h + e11 (mkT β x) h ≤ 2646 := by
  have f := List.all_eq_true.mp all11 β (List.mem_range.mpr hβ)
  have f := List.all_eq_true.mp f h (List.mem_range.mpr hh)
  have f := List.all_eq_true.mp f x (List.mem_range.mpr hx)
  rw [Bool.and_eq_true, Bool.and_eq_true] at f
  exact ⟨Nat.le_of_ble_eq_true f.1.1, Nat.le_of_ble_eq_true f.1.2, Nat.le_of_ble_eq_true f.2⟩
section
variable {g : Gm} {mA mC mB sA β hh : Nat}
theorem rch_or (w : qF g) {m f t a b : Nat} {cap : Bool} : rch g m f t (a ||| b) cap = (rch g m f t a cap && rch g m f t b cap) := by
  have hk := w.2.2.2.2.2.2.2.2.2.2 m
  rw [rch_o hk, rch_o (o := a) hk, rch_o (o := b) hk]
  have e : (wyM g m f t &&& (a ||| b) == 0) = ((wyM g m f t &&& a == 0) && (wyM g m f t &&& b == 0)) := by
    rw [Bool.eq_iff_iff, Bool.and_eq_true, beq_iff_eq, beq_iff_eq, beq_iff_eq]
    exact or_and0
  rw [e]
  cases rch g m f t 0 cap <;> cases (wyM g m f t &&& a == 0) <;> cases (wyM g m f t &&& b == 0) <;> rfl
theorem fre11 (h0 : qo g = 2 ^ hh) (hs : sq g = 12) {p : Nat} : fre g p = (decide (p < 12) && !(p == hh)) := by
  unfold fre; rw [h0, hs, Nat.testBit_two_pow]
  by_cases e : hh = p
  · subst e; simp
  · rw [decide_eq_false e, beq_eq_false_iff_ne.mpr (Ne.symm e)]
theorem Q11 (w : qF g) (hβ : β < 4) (hw : qw g = wB β) (hh2 : hh < 12) (h0 : qo g = 2 ^ hh) (hs : sq g = 12) {m c f t : Nat} (hk : qk g m < 9) (hc : c < 13) (hf : f < 12) (ht : t < 12) (h3 : f ≠ c) (h4 : f ≠ hh) : Qf g m c f t = (Nat.land (tm (mkT β (qk g m)) c f) (tm (mkT β (qk g m)) hh f)).testBit t := by
  have ed : dk g m = qk g m := if_pos hk
  have eq' : qi (qk g m) = qk g m := if_pos hk
  show Qf g m c f t = (tm (mkT β (qk g m)) c f &&& tm (mkT β (qk g m)) hh f).testBit t
  rw [Nat.testBit_and]
  unfold Qf
  rw [fre11 h0 hs, decide_eq_true ht]
  have hq : qk g m < 13 := by omega
  by_cases h1 : t = f
  · subst h1
    rw [okT hβ hq hc hf ht]
    simp
  · by_cases h2 : t = c
    · subst h2
      rw [okT hβ hq hc hf ht]
      simp
    · by_cases h5 : t = hh
      · subst h5
        rw [okT hβ hq (show t < 13 by omega) hf ht]
        simp
      · have e1 := rch_tm (m := m) w hβ hw false hc hf ht h1 h2 h3
        have e2 := rch_tm (m := m) w hβ hw false (show hh < 13 by omega) hf ht h1 h5 h4
        rw [ed] at e1 e2
        have e1 : rch g m f t (bc c) false = (tm (mkT β (qk g m)) c f).testBit t := by rw [e1]; show (tm (mkT β (qi (qk g m))) c f).testBit t = _; rw [eq']
        have e2 : rch g m f t (bc hh) false = (tm (mkT β (qk g m)) hh f).testBit t := by rw [e2]; show (tm (mkT β (qi (qk g m))) hh f).testBit t = _; rw [eq']
        have eb : bt g c = bc hh ||| bc c := by
          unfold bt bc; rw [h0, hs, if_pos hh2]
        rw [eb, rch_or w, e1, e2, ne_b h1, ne_b h2, ne_b h5]
        cases (tm (mkT β (qk g m)) c f).testBit t <;> cases (tm (mkT β (qk g m)) hh f).testBit t <;> rfl
theorem d_11 (w : qF g) (hβ : β < 4) (hw : qw g = wB β) (hh2 : hh < 12) (h0 : qo g = 2 ^ hh) (hs : sq g = 12) {m c f : Nat} (hk : qk g m < 9) (hc : c < 13) (hf : f < 12) (h3 : f ≠ c) (h4 : f ≠ hh) : dq g m c f = d11 (mkT β (qk g m)) hh c f := by
  unfold dq d11
  rw [hs, ← pc_ok (show Nat.land (tm (mkT β (qk g m)) c f) (tm (mkT β (qk g m)) hh f) < 4096 from Nat.lt_of_le_of_lt Nat.and_le_left (tm_lt _ _ _))]
  exact sm_congr fun t ht => by rw [Q11 w hβ hw hh2 h0 hs hk hc hf ht h3 h4]
theorem lv11 (h0 : qo g = 2 ^ hh) (hs : sq g = 12) {c f : Nat} (h : lv g c f = true) : f < 12 ∧ f ≠ hh ∧ f ≠ c ∧ (c = 12 ∨ (c < 12 ∧ c ≠ hh)) := by
  unfold lv at h
  rw [fre11 h0 hs, fre11 h0 hs, hs] at h
  simp only [Bool.and_eq_true, Bool.or_eq_true, Bool.not_eq_true', beq_eq_false_iff_ne, beq_iff_eq, decide_eq_true_eq] at h
  obtain ⟨⟨h1, h2⟩, h3⟩ := h
  refine ⟨h1, h2, fun e => ?_, ?_⟩
  · rcases h3 with h3 | h3
    · omega
    · exact h3.2 e.symm
  · rcases h3 with h3 | h3
    · exact Or.inl h3
    · exact Or.inr h3.1
theorem N11 (hh2 : hh < 12) (h0 : qo g = 2 ^ hh) (hs : sq g = 12) : Nq g = 11 := by
  unfold Nq
  rw [hs]
  have e : cnt 12 (fre g) = cnt 12 (fun i => (fun _ => true) i && !(i == hh)) := sm_congr fun p hp => by rw [fre11 h0 hs, decide_eq_true hp]
  have h1 : cnt 12 (fun i => (fun _ => true) i && !(i == hh)) + 1 = cnt 12 (fun _ => true) := cnt_ne (n := 12) (p := fun _ => true) hh2 rfl
  have h2 : cnt 12 (fun _ => true) = 12 := rfl
  rw [h2] at h1
  rw [e]
  exact Nat.succ.inj h1
theorem sum11 (hs : sq g = 12) {F : Nat → Nat → Nat} (h0 : qo g = 2 ^ hh) {G : Nat → Nat → Nat} {G2 : Nat → Nat} (h1 : ∀ c f, c < 12 → lv g c f = true → F c f ≤ G c f) (h2 : ∀ f, lv g 12 f = true → F 12 f ≤ G2 f) : sm (sq g + 1) (fun c => sm (sq g + 1) (fun f => (lv g c f).toNat * F c f)) ≤ smK 12 (fun c => cond (Nat.beq c hh) 0 (smK 12 (fun f => cond (Nat.beq f hh || Nat.beq f c) 0 (G c f)))) + smK 12 (fun f => cond (Nat.beq f hh) 0 (G2 f)) := by
  rw [hs, sm]
  have last : ∀ c, (lv g c 12).toNat * F c 12 = 0 := fun c => by
    cases e : lv g c 12 with
    | false => exact Nat.zero_mul _
    | true => have := (lv11 h0 hs e).1; omega
  refine Nat.add_le_add ?_ ?_
  · rw [smK_sm]
    refine sm_le fun c hc => ?_
    rw [sm, last, Nat.add_zero]
    cases e : Nat.beq c hh with
    | true =>
      refine Nat.le_of_eq (sm_0 fun f _ => ?_)
      cases e2 : lv g c f with
      | false => exact Nat.zero_mul _
      | true =>
        have := (lv11 h0 hs e2).2.2.2
        have := Nat.eq_of_beq_eq_true e
        omega
    | false =>
      simp only [cond_false]
      rw [smK_sm]
      refine sm_le fun f hf => ?_
      cases e2 : lv g c f with
      | false => rw [Bool.toNat_false, Nat.zero_mul]; exact Nat.zero_le _
      | true =>
        obtain ⟨k1, k2, k3, k4⟩ := lv11 h0 hs e2
        have n1 : Nat.beq f hh = false := by cases q : Nat.beq f hh; rfl; exact absurd (Nat.eq_of_beq_eq_true q) k2
        have n2 : Nat.beq f c = false := by cases q : Nat.beq f c; rfl; exact absurd (Nat.eq_of_beq_eq_true q) k3
        rw [n1, n2, Bool.toNat_true, Nat.one_mul]
        exact h1 c f hc e2
  · rw [smK_sm, sm, last, Nat.add_zero]
    refine sm_le fun f hf => ?_
    cases e2 : lv g 12 f with
    | false => rw [Bool.toNat_false, Nat.zero_mul]; exact Nat.zero_le _
    | true =>
      obtain ⟨k1, k2, k3, k4⟩ := lv11 h0 hs e2
      have n1 : Nat.beq f hh = false := by cases q : Nat.beq f hh; rfl; exact absurd (Nat.eq_of_beq_eq_true q) k2
      rw [n1, Bool.toNat_true, Nat.one_mul]
      exact h2 f e2
theorem q_11 (w : qF g) (hβ : β < 4) (hw : qw g = wB β) (hh2 : hh < 12) (h0 : qo g = 2 ^ hh) (hs : sq g = 12) (m : Nat) : sm (sq g + 1) (fun c => sm (sq g + 1) (fun f => (lv g c f).toNat * lnq g m c f)) ≤ 2352 ∧ sm (sq g) (fun c => sm (sq g + 1) (fun f => (lv g c f).toNat * lnq g m c f)) ≤ 2082 ∧ sm (sq g + 1) (fun c => sm (sq g + 1) (fun f => (lv g c f).toNat * lnB g m c f)) ≤ 2646 := by
  have hN := N11 hh2 h0 hs
  by_cases hk : qk g m < 9
  · have G := got11 hβ hh2 hk
    have a1 : ∀ c f, c < 12 → lv g c f = true → lnq g m c f ≤ dm 9 (d11 (mkT β (qk g m)) hh c f) := fun c f hc e => by
      obtain ⟨k1, k2, k3, k4⟩ := lv11 h0 hs e
      have := Mq_c (by omega) e
      unfold lnq
      rw [if_pos hk, d_11 w hβ hw hh2 h0 hs hk (by omega) k1 k3 k2, show Mq g f c = 9 by omega]
      exact Nat.le_refl _
    have a2 : ∀ f, lv g 12 f = true → lnq g m 12 f ≤ dm 10 (d11 (mkT β (qk g m)) hh 12 f) := fun f e => by
      obtain ⟨k1, k2, k3, k4⟩ := lv11 h0 hs e
      have e' := e
      rw [← hs] at e'
      have := Mq_s e'
      rw [hs] at this
      unfold lnq
      rw [if_pos hk, d_11 w hβ hw hh2 h0 hs hk (by omega) k1 k3 k2, show Mq g f 12 = 10 by omega]
      exact Nat.le_refl _
    have a3 : ∀ c f, c < 12 → lv g c f = true → lnB g m c f ≤ Nat.mul (Nat.add (d11 (mkT β (qk g m)) hh c f) (cond (Nat.testBit (Nat.land (tm (mkT β (qk g m)) 12 f) (tm (mkT β (qk g m)) hh f)) c) 1 0)) (Nat.sub 9 (d11 (mkT β (qk g m)) hh c f)) := fun c f hc e => by
      obtain ⟨k1, k2, k3, k4⟩ := lv11 h0 hs e
      have := Mq_c (by omega) e
      have ee : eqB g m c f = cond (Nat.testBit (Nat.land (tm (mkT β (qk g m)) 12 f) (tm (mkT β (qk g m)) hh f)) c) 1 0 := by
        unfold eqB
        rw [QS hk, hs, decide_eq_true hc, Q11 w hβ hw hh2 h0 hs hk (by omega) k1 hc (by omega) k2]
        cases Nat.testBit (Nat.land (tm (mkT β (qk g m)) 12 f) (tm (mkT β (qk g m)) hh f)) c <;> rfl
      unfold lnB
      rw [if_pos hk, d_11 w hβ hw hh2 h0 hs hk (by omega) k1 k3 k2, show Mq g f c = 9 by omega, ee]
      exact Nat.le_refl _
    have a4 : ∀ f, lv g 12 f = true → lnB g m 12 f ≤ dm 10 (d11 (mkT β (qk g m)) hh 12 f) := fun f e => by
      refine Nat.le_trans (Nat.le_of_eq ?_) (a2 f e)
      have ee : eqB g m 12 f = 0 := by unfold eqB; rw [hs]; rfl
      unfold lnB lnq
      rw [if_pos hk, if_pos hk, ee, Nat.add_zero]
    have b1 := sum11 hs h0 a1 a2
    have b2 := sum11 (F := fun c f => if c < 12 then lnq g m c f else 0) (G2 := fun _ => 0) hs h0 (fun c f hc e => by show (if c < 12 then lnq g m c f else 0) ≤ _; rw [if_pos hc]; exact a1 c f hc e) (fun f _ => Nat.le_refl _)
    have b3 := sum11 hs h0 a3 a4
    have z : smK 12 (fun f => cond (Nat.beq f hh) 0 0) = 0 := by
      rw [smK_sm]
      exact sm_0 fun f _ => by cases Nat.beq f hh <;> rfl
    rw [z] at b2
    refine ⟨Nat.le_trans b1 (Nat.add_le_add G.1 G.2.1), ?_, Nat.le_trans b3 G.2.2⟩
    refine Nat.le_trans ?_ (Nat.le_trans b2 G.1)
    rw [hs]
    show _ ≤ sm 12 _ + _
    refine Nat.le_trans (sm_le fun c hc => ?_) (Nat.le_add_right _ _)
    exact sm_le fun f _ => by rw [if_pos hc]; exact Nat.le_refl _
  · have t1 := tri (g := g) (L := fun c f => (lv g c f).toNat * lnq g m c f) (F := lnq g m) (K1 := 8) (K2 := 9) (fun _ _ => Nat.le_refl _) (fun c f hc e => by
      have := Mq_c hc e
      unfold lnq; rw [if_neg hk]; omega) (fun f e => by
      have := Mq_s e
      unfold lnq; rw [if_neg hk]; omega)
    have t2 := tri (g := g) (L := fun c f => (lv g c f).toNat * lnB g m c f) (F := lnB g m) (K1 := 18) (K2 := 20) (fun _ _ => Nat.le_refl _) (fun c f hc e => by
      have := Mq_c hc e
      unfold lnB; rw [if_neg hk]; omega) (fun f e => by
      have := Mq_s e
      unfold lnB; rw [if_neg hk]; omega)
    rw [hN] at t1 t2
    refine ⟨by omega, ?_, by omega⟩
    have t3 : sm (sq g) (fun c => sm (sq g + 1) (fun f => (lv g c f).toNat * lnq g m c f)) ≤ sm (sq g + 1) (fun c => sm (sq g + 1) (fun f => (lv g c f).toNat * lnq g m c f)) := Nat.le_add_right _ _
    omega
theorem bnd_11 (w : qF g) (R : Ro g mA mC mB sA) (hp : (mA = 0 ∧ mC = 1 ∧ mB = 2) ∨ (mA = 1 ∧ mC = 2 ∧ mB = 0)) (hβ : β < 4) (hw : qw g = wB β) (hh2 : hh < 12) (h0 : qo g = 2 ^ hh) (hs : sq g = 12) : bnd g := by
  have h := tot_le w R hp
  have tA : sm (sq g + 1) (fun c => sm (sq g + 1) (fun a => LA g mA mC mB c a)) ≤ 2352 := Nat.le_trans (sm_le fun c _ => sm_le fun a _ => LA_le w c a) (q_11 w hβ hw hh2 h0 hs mA).1
  have tB : sm (sq g + 1) (fun c => sm (sq g + 1) (fun b => LB g mA mB c b)) ≤ 2646 := Nat.le_trans (sm_le fun c _ => sm_le fun b _ => LB_le w c b) (q_11 w hβ hw hh2 h0 hs mB).2.2
  have tC : sm (sq g + 1) (fun a => sm (sq g + 1) (fun c => LC g mC mB a c)) ≤ 2082 := by
    refine Nat.le_trans ?_ (q_11 w hβ hw hh2 h0 hs mC).2.1
    rw [sm]
    have z : sm (sq g + 1) (fun c => LC g mC mB (sq g) c) = 0 := sm_0 fun c _ => by
      have := LC_le (mC := mC) (mB := mB) w (sq g) c
      rw [fre_sq (g := g)] at this
      simpa using this
    rw [z, Nat.add_zero]
    refine sm_le fun a ha => sm_le fun c _ => ?_
    refine Nat.le_trans (LC_le w a c) (Nat.le_of_eq ?_)
    rw [lv_c ha, show (a == c) = (c == a) from Bool.beq_comm]
    cases fre g a <;> cases fre g c <;> rfl
  unfold bnd
  omega
end
theorem hole_all : ((List.range 4096).all fun o => Nat.ble (smK 12 (fun i => (!(o.testBit i)).toNat)) 10 || Nat.beq o 0 || (List.range 12).any (fun h => Nat.beq o (Nat.pow 2 h))) = true := by decide +kernel
theorem bnd_all : ∀ g, qF g → bnd g := by
  intro g w
  have hn2 := w.2.2.2.2.2.1
  have hn3 := w.2.2.2.2.2.2.1
  have hb1 := w.2.2.2.2.2.2.2.1
  have hb2 := w.2.2.2.2.2.2.2.2.1
  by_cases h2 : qn g = 2
  · exact bnd_two w h2
  · have h3 : qn g = 3 := by omega
    have key : ∀ mA mC mB sA, Ro g mA mC mB sA → ((mA = 0 ∧ mC = 1 ∧ mB = 2) ∨ (mA = 1 ∧ mC = 2 ∧ mB = 0)) → bnd g := by
      intro mA mC mB sA R hp
      by_cases hN : Nq g ≤ 10
      · exact bnd_10 w R hp hN
      · have hle : Nq g ≤ sq g := cnt_n _ _
        have hs : sq g = 12 ∧ ∃ β, β < 4 ∧ qw g = wB β := by
          obtain ⟨w1, w2, w3, w4, w5, -⟩ := w
          unfold sq at hle ⊢
          rcases (show qw g = 2 ∨ qw g = 3 ∨ qw g = 4 ∨ qw g = 5 ∨ qw g = 6 by omega) with e | e | e | e | e
          · rw [e] at hle w5 ⊢; exact ⟨by omega, 0, by decide, rfl⟩
          · rw [e] at hle w5 ⊢; exact ⟨by omega, 2, by decide, rfl⟩
          · rw [e] at hle w5 ⊢; exact ⟨by omega, 3, by decide, rfl⟩
          · rw [e] at hle w5 ⊢; omega
          · rw [e] at hle w5 ⊢; exact ⟨by omega, 1, by decide, rfl⟩
        obtain ⟨hs, β, hβ, hw⟩ := hs
        have ho := w.ho
        have f := List.all_eq_true.mp hole_all (qo g) (List.mem_range.mpr ho)
        rw [Bool.or_eq_true, Bool.or_eq_true] at f
        rcases f with (f | f) | f
        · exfalso
          have f := Nat.le_of_ble_eq_true f
          rw [smK_sm] at f
          have : Nq g = sm 12 (fun i => (!((qo g).testBit i)).toNat) := by
            unfold Nq
            rw [hs]
            exact sm_congr fun i hi => by unfold fre; rw [hs, decide_eq_true hi, Bool.true_and]
          omega
        · exact bnd_12 w R hp hβ hw (Nat.eq_of_beq_eq_true f) hs
        · obtain ⟨h, h1, h2⟩ := List.any_eq_true.mp f
          exact bnd_11 w R hp hβ hw (List.mem_range.mp h1) (Nat.eq_of_beq_eq_true h2) hs
    rcases (show qb g = 1 ∨ qb g = 2 by omega) with hb | hb
    · refine key 1 2 0 1 ⟨h3, by omega, by omega, by omega, fun m hm => by omega, by omega, by omega, by omega, by omega, ?_, ?_, ?_, ?_, ?_, ?_, ?_, ?_⟩ (Or.inr ⟨rfl, rfl, rfl⟩) <;> first | (unfold iof; rw [hb]; rfl) | (unfold roy; rw [hb]; rfl) | (unfold roy; rfl)
    · refine key 0 1 2 0 ⟨h3, by omega, by omega, by omega, fun m hm => by omega, by omega, by omega, by omega, by omega, ?_, ?_, ?_, ?_, ?_, ?_, ?_, ?_⟩ (Or.inl ⟨rfl, rfl, rfl⟩) <;> first | (unfold iof; rw [hb]; rfl) | (unfold roy; rw [hb]; rfl) | (unfold roy; rfl)
