theorem zl_sub7 : ∀ n, n < 3585 → (nI n - 7).toInt = (n : Int) - 7 := by
  have h : ((List.range 3585).all fun n => decide ((nI n - 7).toInt = (n : Int) - 7)) = true := by decide +kernel
  intro n hn
  exact of_decide_eq_true (List.all_eq_true.mp h n (List.mem_range.mpr hn))
section
variable {E : Wd} {X : Mx} {b L O M j kc nc : Nat} {xs : Nat → Int32} {h : Hp} {s : Sg}
abbrev zlQ : Option Value → Hp → Prop := fun r _ => r = some (.int 1)
theorem zl_end {Lc : List (Option Value)} (C : CL E X zlQ) (hk : kc ≤ 600000 ∧ nc ≤ 7302250) : GG E X 4 kc nc 676 Lc [] h :=
  zg_iconst C dL_law_676 (v := 1) (by decide) rfl (zg_zret C rfl dL_law_677 hk (Or.inr rfl) rfl)
theorem zl_body (C : CL E X zlQ) (SX : va_X b L xs (xS X) (eH E)) (hb : b < eZ E) (hL : L ≤ 3584) (hB : ∀ g, qF g → bnd g) (hj : 7 * j + 7 ≤ L) (I : IV E O M j kc nc h s) (next : ∀ kc' nc' h' s', IV E O M (j + 1) kc' nc' h' s' → GG E X 4 kc' nc' 670 (lcL b O M (7 * j)) [] h') : GG E X 4 kc nc 27 (lcL b O M (7 * j)) [] h := by
  refine zg_aload_n C dL_law_27 rfl rfl (zg_iload_n C dL_law_28 rfl rfl ?_)
  refine zg_sld C SX hb (nI_in (by omega) (by omega)) dL_law_29 rfl (zg_bipush C dL_law_30 (v := 31) (by decide) rfl (zg_iand C dL_law_32 rfl ?_))
  rw [nI_clamp (by omega)]
  generalize xs (7 * j) &&& 31 = v
  by_cases hh : ∃ i : Nat, i < 20 ∧ v = Int32.ofInt ((0 : Int) + (i : Int))
  · obtain ⟨i, hi, e⟩ := hh
    rcases (show i = 0 ∨ i = 1 ∨ i = 2 ∨ i = 3 ∨ i = 4 ∨ i = 5 ∨ i = 6 ∨ i = 7 ∨ i = 8 ∨ i = 9 ∨ i = 10 ∨ i = 11 ∨ i = 12 ∨ i = 13 ∨ i = 14 ∨ i = 15 ∨ i = 16 ∨ i = 17 ∨ i = 18 ∨ i = 19 by omega) with rfl | rfl | rfl | rfl | rfl | rfl | rfl | rfl | rfl | rfl | rfl | rfl | rfl | rfl | rfl | rfl | rfl | rfl | rfl | rfl
    · exact zg_tabC (y := 0) C dL_law_33 e (by decide) (by decide) rfl rfl (zl_op0 C SX hb hL hB hj I next)
    · exact zg_tabC (y := 1) C dL_law_33 e (by decide) (by decide) rfl rfl (zl_op1 C SX hb hL hB hj I next)
    · exact zg_tabC (y := 2) C dL_law_33 e (by decide) (by decide) rfl rfl (zl_op2 C SX hb hL hB hj I next)
    · exact zg_tabC (y := 3) C dL_law_33 e (by decide) (by decide) rfl rfl (zl_op3 C SX hb hL hB hj I next)
    · exact zg_tabC (y := 4) C dL_law_33 e (by decide) (by decide) rfl rfl (zl_op4 C SX hb hL hB hj I next)
    · exact zg_tabC (y := 5) C dL_law_33 e (by decide) (by decide) rfl rfl (zl_op5 C SX hb hL hB hj I next)
    · exact zg_tabC (y := 6) C dL_law_33 e (by decide) (by decide) rfl rfl (zl_op6 C SX hb hL hB hj I next)
    · exact zg_tabC (y := 7) C dL_law_33 e (by decide) (by decide) rfl rfl (zl_op7 C SX hb hL hB hj I next)
    · exact zg_tabC (y := 8) C dL_law_33 e (by decide) (by decide) rfl rfl (zl_op8 C SX hb hL hB hj I next)
    · exact zg_tabC (y := 9) C dL_law_33 e (by decide) (by decide) rfl rfl (zl_op9 C SX hb hL hB hj I next)
    · exact zg_tabC (y := 10) C dL_law_33 e (by decide) (by decide) rfl rfl (zl_op10 C SX hb hL hB hj I next)
    · exact zg_tabC (y := 11) C dL_law_33 e (by decide) (by decide) rfl rfl (zl_op11 C SX hb hL hB hj I next)
    · exact zg_tabC (y := 12) C dL_law_33 e (by decide) (by decide) rfl rfl (zl_op12 C SX hb hL hB hj I next)
    · exact zg_tabC (y := 13) C dL_law_33 e (by decide) (by decide) rfl rfl (zl_op13 C SX hb hL hB hj I next)
    · exact zg_tabC (y := 14) C dL_law_33 e (by decide) (by decide) rfl rfl (zl_op14 C SX hb hL hB hj I next)
    · exact zg_tabC (y := 15) C dL_law_33 e (by decide) (by decide) rfl rfl (zl_op15 C SX hb hL hB hj I next)
    · exact zg_tabC (y := 16) C dL_law_33 e (by decide) (by decide) rfl rfl (zl_op16 C SX hb hL hB hj I next)
    · exact zg_tabC (y := 17) C dL_law_33 e (by decide) (by decide) rfl rfl (zl_op17 C SX hb hL hB hj I next)
    · exact zg_tabC (y := 18) C dL_law_33 e (by decide) (by decide) rfl rfl (zl_op18 C SX hb hL hB hj I next)
    · exact zg_tabC (y := 19) C dL_law_33 e (by decide) (by decide) rfl rfl (zl_op19 C SX hb hL hB hj I next)
  · refine zg_tabD 20 C dL_law_33 (fun i hi e => hh ⟨i, hi, e⟩) rfl rfl (next kc nc h s ?_)
    obtain ⟨c1, c2, bt, bk, A, f, CC, R, S, hk, hn⟩ := I
    exact ⟨c1, c2, bt, bk, A, f, CC, R, S, by omega, by omega⟩
theorem zl_loop (C : CL E X zlQ) (SX : va_X b L xs (xS X) (eH E)) (hb : b < eZ E) (hL : L ≤ 3584) (hB : ∀ g, qF g → bnd g) : ∀ (r j kc nc : Nat) (h : Hp) (s : Sg), L < 7 * j + 7 * (r + 1) → 7 * j ≤ L → IV E O M j kc nc h s → GG E X 4 kc nc 18 (lcL b O M (7 * j)) [] h := by
  intro r
  induction r with
  | zero =>
    intro j kc nc h s h1 h2 I
    refine zg_iload_n C dL_law_18 rfl rfl (zg_aload_n C dL_law_19 rfl rfl (zg_slen C SX hb dL_law_20 rfl (zg_bipush C dL_law_21 (v := 7) (by decide) rfl (zg_isub C dL_law_23 rfl (zg_icmp_gt C dL_law_24 rfl rfl (fun _ => ?_) (fun q => ?_))))))
    · obtain ⟨c1, c2, bt, bk, A, f, CC, R, S, hk, hn⟩ := I
      have ht1 := tn_le c1
      have ht2 := tn_le c2
      exact zl_end C ⟨by omega, by omega⟩
    · exfalso
      rw [Int32.lt_iff_toInt_lt, zl_sub7 L (by omega), nI_toInt (by omega)] at q
      omega
  | succ r ih =>
    intro j kc nc h s h1 h2 I
    refine zg_iload_n C dL_law_18 rfl rfl (zg_aload_n C dL_law_19 rfl rfl (zg_slen C SX hb dL_law_20 rfl (zg_bipush C dL_law_21 (v := 7) (by decide) rfl (zg_isub C dL_law_23 rfl (zg_icmp_gt C dL_law_24 rfl rfl (fun _ => ?_) (fun q => ?_))))))
    · obtain ⟨c1, c2, bt, bk, A, f, CC, R, S, hk, hn⟩ := I
      have ht1 := tn_le c1
      have ht2 := tn_le c2
      exact zl_end C ⟨by omega, by omega⟩
    · rw [Int32.lt_iff_toInt_lt, zl_sub7 L (by omega), nI_toInt (by omega)] at q
      refine zl_body C SX hb hL hB (by omega) I (fun kc' nc' h' s' I' => ?_)
      refine zg_iinc C dL_law_670 rfl (v := 7) (by decide) (by decide) rfl (zg_goto C dL_law_673 rfl ?_)
      have := ih (j + 1) kc' nc' h' s' (by omega) (by omega) I'
      have e : nI (7 * j) + 7 = nI (7 * (j + 1)) := nI_add (7 * j) 7
      show GG E X 4 kc' nc' 18 [some (.ref b), some (.ref O), some (.ref M), some (.int (nI (7 * j) + 7))] [] h'
      rw [e]
      exact this
theorem Kyof {p q : Nat} {pl : Pl} {h' : Hp} (K : Ky E h p pl) (e0 : h'.2 p = h.2 p) (e1 : h'.2 (p + 1) = h.2 (p + 1)) : Ky E h' p pl := K.of e0 e1
theorem CI.of {h' : Hp} (K : CI E h O) (e : ∀ j, j < 6 → h'.2 (O + j) = h.2 (O + j)) : CI E h' O := by
  obtain ⟨k1, k2, k3, k4⟩ := K
  exact ⟨by rw [← k1]; exact e 0 (by omega), k2.of (e 1 (by omega)), k3.of (e 2 (by omega)) (e 3 (by omega)), k4.of (e 4 (by omega)) (e 5 (by omega))⟩
theorem zl_go (C : CL E X zlQ) (SX : va_X b L xs (xS X) (eH E)) (hb : b < eZ E) (hL : L ≤ 3584) (hB : ∀ g, qF g → bnd g) : GG E X 4 0 0 0 [some (.ref b), none, none, none] [] h := by
  refine zg_new (q := 3) (fs := [.null, .int 0, .null, .null, .null, .null, .null, .null, .int 0]) C bX7 nwL_7 (by intro j hj; match j, hj with | 0, _ => rfl | 1, _ => rfl | 2, _ => rfl | 3, _ => rfl | 4, _ => rfl | 5, _ => rfl | 6, _ => rfl | 7, _ => rfl | 8, _ => rfl) dL_law_0 rfl ⟨by omega, by omega⟩ ?_
  refine zg_dup C dL_law_3 rfl rfl ?_
  refine zz_callI (av := []) (mc' := 5) (ms' := 126) (rest := [.ref h.1]) C mX7_init iX7_init rfl lmL_9 rfl rfl rfl (Nat.le_of_ble_eq_true rfl) (Nat.le_refl _) dL_law_4 (q := 7) rfl ⟨by omega, by omega⟩ (c_objInit (Q := fun h' => GG E X 4 6 135 7 [some (.ref b), none, none, none] [.ref h.1] h') ⟨Nat.le_refl _, Nat.le_refl _⟩ (fun h1 K1 s1 o1 => ?_)) (fun r h' q => by obtain ⟨e, q⟩ := q; subst e; exact q)
  refine zg_astore_n C dL_law_7 (by decide) rfl ?_
  refine zg_new (q := 11) (fs := fs8) C bX8 nwL_10 (by intro j hj; rcases (show j = 0 ∨ j = 1 ∨ j = 2 ∨ j = 3 ∨ j = 4 ∨ j = 5 ∨ j = 6 ∨ j = 7 ∨ j = 8 ∨ j = 9 ∨ j = 10 ∨ j = 11 ∨ j = 12 ∨ j = 13 ∨ j = 14 ∨ j = 15 ∨ j = 16 ∨ j = 17 ∨ j = 18 ∨ j = 19 ∨ j = 20 ∨ j = 21 ∨ j = 22 ∨ j = 23 ∨ j = 24 ∨ j = 25 ∨ j = 26 ∨ j = 27 ∨ j = 28 ∨ j = 29 ∨ j = 30 ∨ j = 31 by omega) with rfl | rfl | rfl | rfl | rfl | rfl | rfl | rfl | rfl | rfl | rfl | rfl | rfl | rfl | rfl | rfl | rfl | rfl | rfl | rfl | rfl | rfl | rfl | rfl | rfl | rfl | rfl | rfl | rfl | rfl | rfl | rfl <;> rfl) dL_law_8 rfl ⟨by omega, by omega⟩ ?_
  refine zg_dup C dL_law_11 rfl rfl ?_
  refine zz_callI (av := []) (mc' := 53) (ms' := 27583) (rest := [.ref h1.1]) C mX8_init iX8_init rfl lmL_12 rfl rfl rfl (Nat.le_of_ble_eq_true rfl) (Nat.le_refl _) dL_law_12 (q := 15) rfl ⟨by omega, by omega⟩ (k_init (Q := fun h' => GG E X 4 60 27750 15 [some (.ref b), some (.ref h.1), none, none] [.ref h1.1] h') ⟨Nat.le_refl _, Nat.le_refl _⟩ (fun h2 R2 s2 => ?_)) (fun r h' q => by obtain ⟨e, q⟩ := q; subst e; exact q)
  refine zg_astore_n C dL_law_15 (by decide) rfl (zg_iconst C dL_law_16 (v := 0) (by decide) rfl (zg_istore_n C dL_law_17 (by decide) rfl ?_))
  have K2 : CI E h2 h.1 := K1.of (fun j hj => R2.2.2 _ (by omega) (by omega))
  refine zl_loop (O := h.1) (M := h1.1) C SX hb hL hB 512 0 60 27750 h2 sg0 (by omega) (by omega) ⟨none, none, none, none, _, _, K2.ct (by omega) (by omega), ⟨R2.1, Nat.le_refl _, fun _ _ _ => rfl⟩, RS.zero, by simp [tn], by simp [tn]⟩
end
theorem zl_start {p : Program} {e : Env} {s : State} {m : MethodId} {below : List Frame} {meth : Method} {c : Code} (l : Launch) {b L : Nat} {xs : Nat → Int32} (hB : ∀ g, qF g → bnd g) (hL : L ≤ 3584) (hx : p.tables.exec = Jvm.exec) (hc : c.code = code) (hr : meth.sig.returnType = ret) (hml : c.maxLocals = 4) (hown : s.vm.findClass "EndgameTableLaw" = some m.cls) (hts : ∀ w ∈ lw_tbl, w.before #[Value.ref b] s = true) (hX : va_X b L xs s s.heap) (hbl : b < s.heap.size) (hlocks : meth.locks = false) (hg : (Jvm.Cond.and given_1 narrow_1).before #[Value.ref b] s = true) :
    W p l e room_1 s m #[Value.ref b] below meth c s.heap [] 0 0 (fun t => ∃ o, t.status = .running ∧ Ended t below o ∧ o = .returned (some (.int 1)) ∧ Framed s o t [] 600000 7302250) (entryFrame m ([Value.ref b] : List Value).toArray 4) := by
  obtain ⟨E, rfl, eZ', eH', K⟩ := zl_K (l := l) hts hg
  have Cl : CL E (p, e, zz_rm 2048 600000 7302250, s, m, #[.ref b], below, meth, c, MQ below (zz_Q E zlQ) #[.ref b] s 600000 7302250 (fun q => eZ E ≤ q)) zlQ :=
    ⟨hx, hc, hml, hown, fun w hw => hts w (List.mem_filter.mp hw).1, K, rfl, hr, hlocks, rfl, rfl⟩
  have hR : zz_R E (s.heap.size, fun _ => none) s.heap := ⟨rfl, by rw [eZ']; exact Nat.le_refl _, by rw [eZ', eH']; exact Nat.le_refl _, fun a o q => (by cases q), fun q _ => by rw [eH']⟩
  refine zl_W (Q := MQ below (zz_Q E zlQ) #[.ref b] s 600000 7302250 (fun q => eZ E ≤ q)) ?_ (fun t q => ?_)
  · obtain ⟨e1, e2, e3⟩ := zz_entry (nL := 4) (vs := [.ref b]) (by simp [Value.category]) (Nat.le_of_ble_eq_true rfl)
    rw [lg_entry_eq]
    refine zl_go (h := (s.heap.size, fun _ => none)) Cl (by rw [eH']; exact hX) (by rw [eZ']; exact hbl) hL hB s.heap [] _ hR (fun _ q => (by cases q)) ⟨e1, e2, fun i v hi => e3 i v ?_⟩
    match i, hi with
    | 0, hi => exact hi
    | 1, hi => cases hi
    | 2, hi => cases hi
    | 3, hi => cases hi
    | i + 4, hi => simp at hi
  · obtain ⟨o, h1, h2, ⟨r, h', h3, -, h4⟩, L', h5, h6⟩ := q
    have h4 : r = some (.int 1) := h4
    subst h4
    exact ⟨o, h1, h2, h3, zl_frame h5 (fun q hq => by have := h6 q hq; rw [eZ'] at this; exact this)⟩
