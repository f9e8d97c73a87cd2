theorem zl_over {args : Array Value} {s : State} {t : FieldType} (h : (Cond.arrayOver (.array t)).before args s = true) :
    ∃ comp c k, s.vm.classes[c]? = some k ∧ k.kind = .array comp (.array t) ∧ s.vm.findClass ("[" ++ (FieldType.array t).toString) = some c := by
  have h := h
  simp only [Cond.before, Cond.holds, Cond.value, beq_iff_eq] at h
  cases hc : s.vm.findClass (FieldType.array t).toString with
  | none => simp [hc] at h
  | some comp =>
    simp only [hc, Option.bind_some, Option.bind_eq_some_iff, Option.map_eq_some_iff] at h
    obtain ⟨c, hi, k, hk, hb⟩ := h
    obtain ⟨hlt, hp, -⟩ := Array.findIdx?_eq_some_iff_getElem.mp hi
    have hkk : s.vm.classes[c] = k := (Array.getElem?_eq_some_iff.mp hk).2
    rw [hkk] at hp
    cases hkind : k.kind with
    | array component ty =>
      rw [hkind] at hb hp
      simp at hb hp
      exact ⟨comp, c, k, hk, by rw [hkind, hp, hb.1], hb.2⟩
    | _ => rw [hkind] at hb; simp at hb
theorem zl_room {p : Platform} {s : State} {a b : Room} (h : s.hasRoom p a = true) (h1 : b.frames ≤ a.frames) (h2 : b.cells ≤ a.cells) (h3 : b.slots ≤ a.slots) (h4 : b.locals ≤ a.locals) : s.hasRoom p b = true := by
  unfold State.hasRoom at h ⊢
  simp only [Bool.and_eq_true, decide_eq_true_eq] at h ⊢
  obtain ⟨⟨⟨⟨q1, q2⟩, q3⟩, q4⟩, q5⟩ := h
  exact ⟨⟨⟨⟨by omega, by omega, by omega, by omega, by omega, q2.2.2.2.2⟩, by omega⟩, by omega⟩, q5⟩
theorem zl_W {p : Program} {l : Launch} {e : Env} {s : State} {m : MethodId} {args : Array Value} {below : List Frame} {meth : Method} {c : Code} {H : Heap} {Q Q' : State → Prop} {g : JFrame}
    (k : W p l e (zz_rm 2048 600000 7302250) s m args below meth c H [] 0 0 Q g) (hQ : ∀ t, Q t → Q' t) : W p l e room_1 s m args below meth c H [] 0 0 Q' g := by
  intro T hT X
  obtain ⟨t, a1, b1⟩ := k T hT { X with room := zl_room X.room (Nat.le_of_ble_eq_true rfl) (Nat.le_of_ble_eq_true rfl) (Nat.le_of_ble_eq_true rfl) (Nat.le_of_ble_eq_true rfl) }
  exact ⟨t, a1, hQ t b1⟩
theorem zl_frame {s t : State} {o : Outcome} {L : List Loc} {k n : Nat} (h : FrameEnd s o t L k n) (hL : ∀ q ∈ L, s.heap.size ≤ q.base) : Framed s o t [] k n := by
  obtain ⟨h1, h2, h3, h4, h5, h6, h7, h8⟩ := h
  refine ⟨h1, h2, h3, h4, h5, h6, h7, fun a c hc => ?_⟩
  obtain ⟨c', e1, e2, e3, e4⟩ := h8 a c hc
  refine ⟨c', e1, e2, e3, fun i _ => e4 i fun hm => ?_⟩
  have := hL _ hm
  have ha : a < s.heap.size := (Array.getElem?_eq_some_iff.mp hc).1
  exact absurd this (Nat.not_le.mpr ha)

def zl_tm (i : Nat) : Term := if i = 0 then .string "EndgameTable$Reader" 73 else .string "EndgameTableModel" 108
theorem zl_arr {args : Array Value} {s : State} {ty : FieldType} (h : (Cond.arrayClass ty).before args s = true) (hty : ∀ C, ty ≠ .object C) : ∃ c : ClassId, ArrOfT s c ty ∧ va_RA s c ty := by
  obtain ⟨c, k, comp, h1, h2, h3⟩ := Cond.arrayClass_spec h
  refine ⟨c, fun n z => ⟨(fun k h => by cases h), k, h2, comp, h3⟩, ?_⟩
  cases ty with
  | object C => exact absurd rfl (hty C)
  | _ => exact h1
theorem zl_arr2 {args : Array Value} {s : State} {t : FieldType} (h : (Cond.arrayOver (.array t)).before args s = true) : ∃ c : ClassId, ArrOfT s c (.array t) ∧ va_RA s c (.array t) := by
  obtain ⟨comp, c, k, h2, h3, h1⟩ := zl_over h
  exact ⟨c, fun n z => ⟨(fun k h => by cases h), k, h2, comp, h3⟩, h1⟩
theorem zl_str {args : Array Value} {s : State} (hg : (Jvm.Cond.and given_1 narrow_1).before args s = true) : ∃ a v : Nat, vk_S 1 [10] [zz_txt] (fun _ => a) (fun _ => v) (fun q => s.heap.size ≤ q) s s.heap ∧
    (Term.string "EndgameTable$Reader" 73).eval args s none [] s = some (.ref a) ∧ (Term.string "EndgameTableModel" 108).eval args s none [] s = some (.ref a) := by
  have hs := flat_of_before _ hg
  have one : ∀ i, i < 1 → i = 0 := fun i hi => by omega
  obtain ⟨adK, adV, h1, h2⟩ := vk_Sof (args := args) (s := s) (N := 1) (tm := fun _ => .string "EndgameTable$Reader" 73) (len := [10]) (byt := [zz_txt]) (A := fun q => s.heap.size ≤ q)
    (fun i hi => by rw [one i hi]; decide)
    (fun i hi => hs _ (by decide +kernel))
    (fun i hi => hs _ (by decide +kernel))
    (fun i hi => hs _ (by decide +kernel))
    (fun i hi => by rw [one i hi]; exact hs _ (by decide +kernel))
    (fun i hi j hj => by
      rw [one i hi] at hj ⊢
      have hj : j < 10 := hj
      rcases (show j = 0 ∨ j = 1 ∨ j = 2 ∨ j = 3 ∨ j = 4 ∨ j = 5 ∨ j = 6 ∨ j = 7 ∨ j = 8 ∨ j = 9 by omega) with rfl | rfl | rfl | rfl | rfl | rfl | rfl | rfl | rfl | rfl <;> exact hs _ (by decide +kernel))
    (fun i j hi hj ne => absurd ((one i hi).trans (one j hj).symm) ne)
    (fun a ha => Nat.not_le.mpr ha)
  have h3 := h2 0 (by omega)
  refine ⟨adK 0, adV 0, ⟨fun i hi => ?_, fun i j hi hj _ => (one i hi).trans (one j hj).symm⟩, h3, ?_⟩
  · have := h1.1 i hi
    rw [one i hi] at this ⊢
    exact this
  · have he : (Cond.eq (.string "EndgameTable$Reader" 73) (.string "EndgameTableModel" 108)).before args s = true := hs _ (by decide +kernel)
    exact va_eqR he h3
theorem zl_K {l : Launch} {s : State} {b : Nat} (hts : ∀ w ∈ lw_tbl, w.before #[Value.ref b] s = true) (hg : (Jvm.Cond.and given_1 narrow_1).before #[Value.ref b] s = true) :
    ∃ E : Wd, eL E = l ∧ eZ E = s.heap.size ∧ eH E = s.heap ∧ zz_K E s := by
  have hW : ∀ w ∈ zz_W, w.before #[Value.ref b] s = true := fun w hw => hts w (List.mem_filter.mp hw).1
  have kn : ∀ (ci : Nat) (Cn : String) (T : u_T) (N : Nat) (ty : Nat → FieldType), zz_B ci Cn T N ty → Cond.instantiable Cn N ∈ lw_tbl → ∃ (cC : ClassId) (iS : Nat → Nat), u_Kn s Cn T N cC iS := fun ci Cn T N ty B hi => u_known hW B.2.1 (hts _ hi)
  obtain ⟨c0, i0, k0⟩ := kn _ _ _ _ _ bX0 (by decide +kernel)
  obtain ⟨c1, i1, k1⟩ := kn _ _ _ _ _ bX1 (by decide +kernel)
  obtain ⟨c2, i2, k2⟩ := kn _ _ _ _ _ bX2 (by decide +kernel)
  obtain ⟨c3, i3, k3⟩ := kn _ _ _ _ _ bX3 (by decide +kernel)
  obtain ⟨c4, i4, k4⟩ := kn _ _ _ _ _ bX4 (by decide +kernel)
  obtain ⟨c5, i5, k5⟩ := kn _ _ _ _ _ bX5 (by decide +kernel)
  obtain ⟨c6, i6, k6⟩ := kn _ _ _ _ _ bX6 (by decide +kernel)
  obtain ⟨c7, i7, k7⟩ := kn _ _ _ _ _ bX7 (by decide +kernel)
  obtain ⟨c8, i8, k8⟩ := kn _ _ _ _ _ bX8 (by decide +kernel)
  obtain ⟨a0, r0, r0'⟩ := zl_arr (hts (.arrayClass .int) (by decide +kernel)) (fun _ h => by cases h)
  obtain ⟨a1, r1, r1'⟩ := zl_arr (hts (.arrayClass .boolean) (by decide +kernel)) (fun _ h => by cases h)
  have hov := hts (.arrayOver (.array .int)) (by decide +kernel)
  obtain ⟨a2, r2, r2'⟩ := zl_arr2 hov
  obtain ⟨sa, sv, h1, h2, h3⟩ := zl_str hg
  refine ⟨(l, (fun k => match k with | 0 => c0 | 1 => c1 | 2 => c2 | 3 => c3 | 4 => c4 | 5 => c5 | 6 => c6 | 7 => c7 | _ => c8, fun k => match k with | 0 => i0 | 1 => i1 | 2 => i2 | 3 => i3 | 4 => i4 | 5 => i5 | 6 => i6 | 7 => i7 | _ => i8), fun k => match k with | 0 => a0 | 1 => a1 | _ => a2, s.heap.size, s.heap, sa, sv), rfl, rfl, rfl, ⟨?_, ?_⟩, ⟨?_, ?_, h1, ?_⟩, ?_, ?_, ?_⟩
  · intro c q hq
    match c, hq with
    | 0, hq => cases hq; exact k0
    | 1, hq => cases hq; exact k1
    | 2, hq => cases hq; exact k2
    | 3, hq => cases hq; exact k3
    | 4, hq => cases hq; exact k4
    | 5, hq => cases hq; exact k5
    | 6, hq => cases hq; exact k6
    | 7, hq => cases hq; exact k7
    | 8, hq => cases hq; exact k8
    | c + 9, hq => simp [vwCl] at hq
  · intro c q hq
    match c, hq with
    | 0, hq => cases hq; exact ⟨r0, r0'⟩
    | 1, hq => cases hq; exact ⟨r1, r1'⟩
    | 2, hq => cases hq; exact ⟨r2, r2'⟩
    | c + 3, hq => simp [zz_tys] at hq
  · exact vk_R.of (hts _ (by decide +kernel)) h2
  · exact vk_R.of (hts _ (by decide +kernel)) h3
  · exact va_Zof (args := #[Value.ref b]) (hts _ (by decide +kernel)) (hts _ (by decide +kernel)) (va_eqi (flat_of_before _ hg _ (by decide +kernel))) (fun a ha => Nat.not_le.mpr ha)
  · exact fun own idx ref nm ds host hw => va_Nw.of rfl (hts _ hw)
  · exact fun own idx y host hw => va_Nw.of rfl (hts _ hw)
  · exact hov
