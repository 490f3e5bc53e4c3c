theorem am_okH_all : (List.range 300).all am_okH = true := by decide +kernel
theorem am_FL_ok : am_FLp.all (fun q => decide (lw_tbl[q.2.2.2.2]? = some (.fieldLink (am_cn q.1) q.2.1 (am_cn q.2.2.1) (am_T q.2.2.1 q.2.2.2.1).2.1 (am_T q.2.2.1 q.2.2.2.1).2.2.1)) && decide (q.2.2.2.1 < am_Nf q.2.2.1) && decide (q.2.2.1 < 11)) = true := by decide +kernel
theorem am_ML_ok : am_MLp.all (fun q => decide (lw_tbl[q.2.2.2]? = some (.methodLink (am_cn q.1) q.2.1 (am_y q.2.2.1)))) = true := by decide +kernel
theorem am_OL_ok : am_OLp.all (fun q => decide (lw_tbl[q.2.2]? = some (.methodLink (am_cn q.1) q.2.1 objectInit))) = true := by decide +kernel
theorem am_KL_ok : am_KLp.all (fun q => decide (lw_tbl[q.2.2.2]? = some (.classLink (am_cn q.1) q.2.1 (am_cn q.2.2.1))) && decide (q.2.2.1 < 11)) = true := by decide +kernel
theorem am_NL_ok : am_NLp.all (fun q => decide (lw_tbl[q.2.2.2.2]? = some (.methodLinkNest (am_cn q.1) q.2.1 (am_y q.2.2.1) q.2.2.2.1))) = true := by decide +kernel
theorem am_SL_ok : am_SLp.all (fun q => decide (lw_tbl[q.2.2.2]? = some (.fieldLink (am_cn q.1) q.2.1 "FoldPress$Folds" (if q.2.2.1 = 1 then "THICK" else "TRIMS") "[I")) && decide (q.2.2.1 = 1 ∨ q.2.2.1 = 2)) = true := by decide +kernel
theorem am_IN_ok : am_INp.all (fun q => decide (lw_tbl[q.2]? = some (.initialized (am_cn q.1)))) = true := by decide +kernel
theorem am_IS_ok : am_ISp.all (fun q => decide (lw_tbl[q.2.2]? = some (.instantiable (am_cn q.1) q.2.1)) && decide (q.2.1 = am_Nf q.1)) = true := by decide +kernel
theorem am_LY_ok : am_LYp.all (fun q => decide (lw_tbl[q.2.2]? = some (u_lay (am_cn q.1) (am_T q.1) q.2.1))) = true := by decide +kernel
def am_mp (M : Nat) : Nat × Nat × Nat × Nat := am_MPp.getD M (0, 0, 0, 0)
def am_okS (M : Nat) : Bool := decide (lw_tbl[(am_mp M).2.2.1]? = some (if am_ct M = 1 then .static (am_y M) else .instanceMethod (am_y M))) && (if am_ct M = 0 then decide (lw_tbl[(am_mp M).2.2.2]? = some (.selects (am_cn (am_o M)) (am_y M) (am_y M))) else true)
theorem am_okS_all : (List.range 299).all am_okS = true := by decide +kernel
-- names and descriptors
def am_okN (M : Nat) : Bool := plainFor (am_y M) && decide ((am_y M).cls ≠ "java/lang/invoke/MethodHandle") && decide ((am_y M).cls ≠ "java/lang/invoke/VarHandle") && decide ((parseMethodDescriptor (am_y M).desc).map (fun d => d.parameters.length) = some (am_na M - (if am_ct M = 1 then 0 else 1))) && (if am_ct M = 2 then decide ((am_y M).name = "<init>") && decide (am_kd M = 0) else true) && decide (am_ct M < 3) && decide (am_ct M = 1 ∨ 1 ≤ am_na M) && decide (am_o M < 13) && (decide (am_ct M = 1) || decide (am_o M < 11))
theorem am_okN_all : (List.range 299).all am_okN = true := by decide +kernel
theorem am_w73 : lw_tbl[73]? = some (.instanceMethod objectInit) := by decide +kernel
theorem am_w74 : lw_tbl[74]? = some (.code objectInit ⟨#[0xb1]⟩ 1 none) := by decide +kernel
theorem am_w82 : lw_tbl[82]? = some (.arrayOver (.object "FoldPress$Kept")) := by decide +kernel
theorem am_w99 : lw_tbl[99]? = some (.arrayClass .int) := by decide +kernel
theorem am_w1334 : lw_tbl[1334]? = some (.arrayClass .boolean) := by decide +kernel
theorem am_w590 : lw_tbl[590]? = some (.laysStatic "FoldPress$Folds" "THICK" "[I") := by decide +kernel
theorem am_w592 : lw_tbl[592]? = some (.laysStatic "FoldPress$Folds" "TRIMS" "[I") := by decide +kernel
-- the words that every method may ask for
def am_tbl : List Cond := lw_tbl.filter goodWord
theorem am_in {w : Cond} {k : Nat} (h : lw_tbl[k]? = some w) (hg : goodWord w = true) : w ∈ am_tbl := List.mem_filter.mpr ⟨List.mem_of_getElem? h, hg⟩
