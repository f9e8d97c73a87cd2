def zz_W : List Cond := lw_tbl.filter (fun w => goodWord w)
theorem zz_mem {w : Cond} {i : Nat} (h : lw_tbl[i]? = some w) (g : goodWord w = true) : w ∈ zz_W := List.mem_filter.mpr ⟨List.mem_of_getElem? h, g⟩
theorem zz_goodIn {w : Cond} (h : w ∈ zz_W) : GoodIn zz_W (w :: zz_W) := by
  have g : ∀ v ∈ zz_W, v ∈ zz_W ∧ ((v.onTables && v.keeps) = true ∨ ∃ ty, v = .arrayClass ty) := fun v hv => ⟨hv, good_of_word (List.mem_filter.mp hv).2⟩
  intro v hv
  rcases List.mem_cons.mp hv with e | hv
  · rw [e]; exact g w h
  · exact g v hv
abbrev My : Type := MethodName × ByteArray × Nat × Option FieldType
def zz_M (Y : My) (np : Nat) : Prop := plainName Y.1.cls = true ∧ Cond.code Y.1 Y.2.1 Y.2.2.1 Y.2.2.2 ∈ zz_W ∧ Cond.initialized Y.1.cls ∈ zz_W ∧ (Y.1.cls ≠ "java/lang/invoke/MethodHandle" ∧ Y.1.cls ≠ "java/lang/invoke/VarHandle" ∧ (parseMethodDescriptor Y.1.desc).map (fun d => d.parameters.length) = some np) ∧ Y.2.2.1 ≤ 21
def zz_V (Y : My) : Prop := Cond.instanceMethod Y.1 ∈ zz_W ∧ Cond.selects Y.1.cls Y.1 Y.1 ∈ zz_W
def zz_I (Y : My) : Prop := Y.1.name = "<init>" ∧ Cond.instanceMethod Y.1 ∈ zz_W
def zz_B (ci : Nat) (Cn : String) (T : u_T) (N : Nat) (ty : Nat → FieldType) : Prop := vwCl[ci]? = some (Cn, T, N) ∧ (∀ w ∈ u_ws Cn T N, w ∈ zz_W) ∧ (∀ j, j < N → parseFieldDescriptor (T j).2.2.1 = some (ty j)) ∧ ∀ a, a < N → ∀ b, b < N → a ≠ b → (T a).2.1 ≠ (T b).2.1
