/-! every word that the tables above speak of is a word of the tables -/
abbrev mq_tb : List Cond := lw_tbl.filter goodWord
theorem mq_wd_in {h : Nat} {w : Cond} (e : mq_wd h = some w) : w ∈ lw_tbl := by
  have e1 := List.mem_of_getElem? e
  unfold mq_pt at e1
  unfold lw_tbl tables_1
  simp only [cond_eq_ite] at e1
  (repeat' split at e1) <;> simp only [List.mem_append, e1, true_or, or_true]
theorem mq_wd_tb {h : Nat} {w : Cond} (e : mq_wd h = some w) (g : goodWord w = true) : w ∈ mq_tb := List.mem_filter.mpr ⟨mq_wd_in e, g⟩
theorem mq_tb_good : GoodIn mq_tb mq_tb := fun w hw => ⟨hw, good_of_word (List.mem_filter.mp hw).2⟩
set_option maxRecDepth 100000 in
theorem mq_FL_h : ∀ r ∈ mq_FL, mq_wd r.2.2.2.2 = some (Cond.fieldLink (mq_cn r.1) r.2.1 (mq_T r.2.2.1 r.2.2.2.1).1 (mq_T r.2.2.1 r.2.2.2.1).2.1 (mq_T r.2.2.1 r.2.2.2.1).2.2.1) := by decide +kernel
set_option maxRecDepth 100000 in
theorem mq_ML_h : ∀ r ∈ mq_ML, mq_wd r.2.2.2 = some (Cond.methodLink (mq_cn r.1) r.2.1 (mq_y r.2.2.1)) := by decide +kernel
set_option maxRecDepth 100000 in
theorem mq_NL_h : ∀ r ∈ mq_NL, mq_wd r.2.2.2 = some (Cond.methodLinkNest (mq_cn r.1) r.2.1 (mq_y r.2.2.1) "TalkingPlots") := by decide +kernel
set_option maxRecDepth 100000 in
theorem mq_OL_h : ∀ r ∈ mq_OL, mq_wd r.2.2 = some (Cond.methodLink (mq_cn r.1) r.2.1 objectInit) := by decide +kernel
set_option maxRecDepth 100000 in
theorem mq_AL_h : ∀ r ∈ mq_AL, mq_wd r.2.2 = some (Cond.methodLink (mq_cn r.1) r.2.1 arraycopyName) := by decide +kernel
set_option maxRecDepth 100000 in
theorem mq_XL_h : ∀ r ∈ mq_XL, mq_wd r.2.2 = some (Cond.methodLink (mq_cn r.1) r.2.1 Lib.Math.max.name) := by decide +kernel
set_option maxRecDepth 100000 in
theorem mq_IL_h : ∀ r ∈ mq_IL, mq_wd r.2.2 = some (Cond.methodLink (mq_cn r.1) r.2.1 Lib.Math.min.name) := by decide +kernel
set_option maxRecDepth 100000 in
theorem mq_CL_h : ∀ r ∈ mq_CL, mq_wd r.2.2.2 = some (Cond.classLink (mq_cn r.1) r.2.1 (mq_cn r.2.2.1)) := by decide +kernel
set_option maxRecDepth 100000 in
theorem mq_KI_h : ∀ r ∈ mq_KI, mq_wd r.2.2.2 = some (Cond.constant (mq_cn r.1) r.2.1 r.2.2.1) := by decide +kernel
set_option maxRecDepth 100000 in
theorem mq_KL_h : ∀ r ∈ mq_KL, mq_wd r.2.2.2 = some (Cond.constantLong (mq_cn r.1) r.2.1 r.2.2.1) := by decide +kernel
set_option maxRecDepth 100000 in
theorem mq_oth_ok : Cond.instanceMethod objectInit ∈ mq_tb ∧ Cond.native arraycopyName ∈ mq_tb ∧ Cond.static arraycopyName ∈ mq_tb ∧ Cond.initialized "java/lang/System" ∈ mq_tb ∧ Cond.arrayClass .int ∈ mq_tb ∧ Cond.arrayClass .byte ∈ mq_tb ∧ Cond.static Lib.Math.max.name ∈ mq_tb ∧ Cond.static Lib.Math.min.name ∈ mq_tb ∧ Cond.initialized "java/lang/Math" ∈ mq_tb := by decide +kernel
set_option maxRecDepth 100000 in
theorem mq_oc_h : mq_wd 1026 = some (Cond.code objectInit ⟨#[0xb1]⟩ 1 none) := rfl
set_option maxRecDepth 100000 in
theorem mq_xc_h : mq_wd 3130 = some (Cond.code Lib.Math.max.name Lib.Math.max.code 2 (some .int)) := rfl
set_option maxRecDepth 100000 in
theorem mq_ic_h : mq_wd 3127 = some (Cond.code Lib.Math.min.name Lib.Math.min.code 2 (some .int)) := rfl
set_option maxRecDepth 100000 in
theorem mq_cl_ok : ∀ ci, ci < 13 → ci ≠ 2 → Cond.instantiable (mq_cn ci) (mq_N ci) ∈ mq_tb ∧ Cond.initialized (mq_cn ci) ∈ mq_tb ∧ ∀ w ∈ u_ws (mq_cn ci) (mq_T ci) (mq_N ci), w ∈ mq_tb := by decide +kernel
set_option maxRecDepth 100000 in
theorem mq_nm_ok : ∀ ci, ci < 13 → ∀ a, a < mq_N ci → ∀ b, b < mq_N ci → a ≠ b → (mq_T ci a).2.1 ≠ (mq_T ci b).2.1 := by decide +kernel
set_option maxRecDepth 100000 in
theorem mq_ty_ok : ∀ ci, ci < 13 → ∀ k, k < mq_N ci → parseFieldDescriptor (mq_T ci k).2.2.1 = some (mq_ty ci k) := by decide +kernel
set_option maxRecDepth 100000 in
theorem mq_df_ok : ∀ ci, ci < 13 → (mq_df ci).length = mq_N ci ∧ ∀ k, k < mq_N ci → defaultValue (mq_ty ci k) = vp_V (mq_df ci) k := by decide +kernel
set_option maxRecDepth 100000 in
theorem mq_m_ok : ∀ m, m < 263 → mq_wd (mq_hi m) = some (Cond.initialized (mq_y m).cls) ∧ Jvm.plainName (mq_y m).cls = true ∧ ((mq_y m).cls ≠ "java/lang/invoke/MethodHandle" ∧ (mq_y m).cls ≠ "java/lang/invoke/VarHandle" ∧ (parseMethodDescriptor (mq_y m).desc).map (fun d => d.parameters.length) = some (mq_np m)) := by decide +kernel
set_option maxRecDepth 100000 in
theorem mq_ms_ok : ∀ m, m < 263 → (mq_kd m = 0 → mq_wd (mq_hs m) = some (Cond.static (mq_y m))) ∧ (mq_kd m = 1 → (mq_y m).name = "<init>" ∧ mq_wd (mq_hs m) = some (Cond.instanceMethod (mq_y m)) ∧ mq_rt m = none) ∧ (mq_kd m = 2 → mq_wd (mq_hs m) = some (Cond.instanceMethod (mq_y m)) ∧ mq_wd (mq_hv m) = some (Cond.selects (mq_y m).cls (mq_y m) (mq_y m))) := by decide +kernel
