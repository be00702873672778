def cs_type (Rel : cb_Mem → cb_Mem → Prop) : Prop := ∀ (MX MY : cb_Mem) (a1 a2 : Int32), Rel MX MY → ∃ (r : Int32) (MX' MY' : cb_Mem), f_X6_type a1 a2 MX = some (r, MX') ∧ f_X7_type a1 a2 MY = some (r, MY') ∧ Rel MX' MY'
def cs_wipe (Rel : cb_Mem → cb_Mem → Prop) : Prop := ∀ (MX MY : cb_Mem) (a1 : Int32), Rel MX MY → ∃ (r : Int32) (MX' MY' : cb_Mem), f_X6_wipe a1 MX = some (r, MX') ∧ f_X7_wipe a1 MY = some (r, MY') ∧ Rel MX' MY'
def cs_undo (Rel : cb_Mem → cb_Mem → Prop) : Prop := ∀ (MX MY : cb_Mem) (a1 : Int32), Rel MX MY → ∃ (r : Int32) (MX' MY' : cb_Mem), f_X6_undo a1 MX = some (r, MX') ∧ f_X7_undo a1 MY = some (r, MY') ∧ Rel MX' MY'
def cs_fault (Rel : cb_Mem → cb_Mem → Prop) : Prop := ∀ (MX MY : cb_Mem) (a1 : Int32), Rel MX MY → ∃ (r : Int32) (MY' : cb_Mem), f_X6_fault a1 MX = some r ∧ f_X7_fault a1 MY = some (r, MY') ∧ Rel MX MY'
def cs_head (Rel : cb_Mem → cb_Mem → Prop) : Prop := ∀ (MX MY : cb_Mem) (a1 a2 : Int32), Rel MX MY → ∃ (r : Int32) (MY' : cb_Mem), f_X6_head a1 a2 MX = some r ∧ f_X7_head a1 a2 MY = some (r, MY') ∧ Rel MX MY'
def cs_couple (Rel : cb_Mem → cb_Mem → Prop) : Prop := ∀ (MX MY : cb_Mem) (a1 a2 : Int32), Rel MX MY → ∃ (r : Int32) (MY' : cb_Mem), f_X6_couple a1 a2 MX = some r ∧ f_X7_couple a1 a2 MY = some (r, MY') ∧ Rel MX MY'
def cs_weather (Rel : cb_Mem → cb_Mem → Prop) : Prop := ∀ (MX MY : cb_Mem) (a1 a2 : Int32), Rel MX MY → ∃ (r : Int32) (MX' MY' : cb_Mem), f_X6_weather a1 a2 MX = some (r, MX') ∧ f_X7_weather a1 a2 MY = some (r, MY') ∧ Rel MX' MY'
def cs_rabbit (Rel : cb_Mem → cb_Mem → Prop) : Prop := ∀ (MX MY : cb_Mem) (a1 a2 : Int32), Rel MX MY → ∃ (r : Int32) (MX' MY' : cb_Mem), f_X6_rabbit a1 a2 MX = some (r, MX') ∧ f_X7_rabbit a1 a2 MY = some (r, MY') ∧ Rel MX' MY'
def cs_back (Rel : cb_Mem → cb_Mem → Prop) : Prop := ∀ (MX MY : cb_Mem) (a1 : Int32), Rel MX MY → ∃ (r : Int32) (MX' MY' : cb_Mem), f_X6_back a1 MX = (r, MX') ∧ f_X7_back a1 MY = some (r, MY') ∧ Rel MX' MY'
def cs_read (Rel : cb_Mem → cb_Mem → Prop) : Prop := ∀ (MX MY : cb_Mem) (a1 : Int32), Rel MX MY → ∃ (r : Int32) (MX' MY' : cb_Mem), f_X6_read a1 MX = some (r, MX') ∧ f_X7_read a1 MY = some (r, MY') ∧ Rel MX' MY'
def cs_state (Rel : cb_Mem → cb_Mem → Prop) : Prop := ∀ (MX MY : cb_Mem) (a1 a2 : Int32), Rel MX MY → ∃ (r : Int32) (MX' MY' : cb_Mem), f_X6_state a1 a2 MX = some (r, MX') ∧ f_X7_state a1 a2 MY = some (r, MY') ∧ Rel MX' MY'
def cs_lifted (Rel : cb_Mem → cb_Mem → Prop) : Prop := ∀ (MX MY : cb_Mem) (a1 a2 : Int32), Rel MX MY → ∃ (r : Int32) (MX' MY' : cb_Mem), f_X6_lifted a1 a2 MX = some (r, MX') ∧ f_X7_lifted a1 a2 MY = some (r, MY') ∧ Rel MX' MY'
def cs_gets (Rel : cb_Mem → cb_Mem → Prop) : Prop := ∀ (MX MY : cb_Mem) (a1 a2 : Int32), Rel MX MY → ∃ (r : Int32) (MX' MY' : cb_Mem), f_X6_gets a1 a2 MX = some (r, MX') ∧ f_X7_gets a1 a2 MY = some (r, MY') ∧ Rel MX' MY'
def cs_children (Rel : cb_Mem → cb_Mem → Prop) : Prop := ∀ (MX MY : cb_Mem) (a1 : Int32), Rel MX MY → ∃ (r : Int32) (MX' MY' : cb_Mem), f_X6_children a1 MX = some (r, MX') ∧ f_X7_children a1 MY = some (r, MY') ∧ Rel MX' MY'
def cs_without (Rel : cb_Mem → cb_Mem → Prop) : Prop := ∀ (MX MY : cb_Mem), Rel MX MY → ∃ (r : Int32) (MX' MY' : cb_Mem), f_X6_without MX = some (r, MX') ∧ f_X7_without MY = some (r, MY') ∧ Rel MX' MY'
def cs_turn (Rel : cb_Mem → cb_Mem → Prop) : Prop := ∀ (MX MY : cb_Mem) (a1 : Int32), Rel MX MY → ∃ (r : Int32) (MX' MY' : cb_Mem), f_X6_turn a1 MX = some (r, MX') ∧ f_X7_turn a1 MY = some (r, MY') ∧ Rel MX' MY'
def cs_met (Rel : cb_Mem → cb_Mem → Prop) : Prop := ∀ (MX MY : cb_Mem), Rel MX MY → ∃ (r : Int32) (MX' MY' : cb_Mem), f_X6_met MX = some (r, MX') ∧ f_X7_met MY = some (r, MY') ∧ Rel MX' MY'
def cs_keep (Rel : cb_Mem → cb_Mem → Prop) : Prop := ∀ (MX MY : cb_Mem) (a1 a2 : Int32), Rel MX MY → ∃ (r : Int32) (MX' MY' : cb_Mem), f_X6_keep a1 a2 MX = some (r, MX') ∧ f_X7_keep a1 a2 MY = some (r, MY') ∧ Rel MX' MY'
def cs_sow (Rel : cb_Mem → cb_Mem → Prop) : Prop := ∀ (MX MY : cb_Mem) (a1 a2 : Int32), Rel MX MY → ∃ (r : Int32) (MX' MY' : cb_Mem), f_X6_sow a1 a2 MX = some (r, MX') ∧ f_X7_sow a1 a2 MY = some (r, MY') ∧ Rel MX' MY'
def cs_come (Rel : cb_Mem → cb_Mem → Prop) : Prop := ∀ (MX MY : cb_Mem) (a1 a2 : Int32), Rel MX MY → ∃ (r : Int32) (MX' MY' : cb_Mem), f_X6_come a1 a2 MX = some (r, MX') ∧ f_X7_come a1 a2 MY = some (r, MY') ∧ Rel MX' MY'
def cs_seen (Rel : cb_Mem → cb_Mem → Prop) : Prop := ∀ (MX MY : cb_Mem) (a1 a2 : Int32), Rel MX MY → ∃ (r : Int32) (MX' MY' : cb_Mem), f_X6_seen a1 a2 MX = some (r, MX') ∧ f_X7_seen a1 a2 MY = some (r, MY') ∧ Rel MX' MY'
def cs_forget (Rel : cb_Mem → cb_Mem → Prop) : Prop := ∀ (MX MY : cb_Mem), Rel MX MY → ∃ (r : Int32) (MX' MY' : cb_Mem), f_X6_forget MX = (r, MX') ∧ f_X7_forget MY = (r, MY') ∧ Rel MX' MY'
def cs_never (Rel : cb_Mem → cb_Mem → Prop) : Prop := ∀ (MX MY : cb_Mem), Rel MX MY → ∃ (r : Int32) (MX' MY' : cb_Mem), f_X6_never MX = some (r, MX') ∧ f_X7_never MY = some (r, MY') ∧ Rel MX' MY'
def cs_was (Rel : cb_Mem → cb_Mem → Prop) : Prop := ∀ (MX MY : cb_Mem) (a1 a2 : Int32), Rel MX MY → ∃ (r : Int32) (MX' MY' : cb_Mem), f_X6_was a1 a2 MX = some (r, MX') ∧ f_X7_was a1 a2 MY = some (r, MY') ∧ Rel MX' MY'
def cs_ask (Rel : cb_Mem → cb_Mem → Prop) : Prop := ∀ (MX MY : cb_Mem) (a1 : Int32), Rel MX MY → ∃ (r : Int32) (MX' MY' : cb_Mem), f_X6_ask a1 MX = some (r, MX') ∧ f_X7_ask a1 MY = some (r, MY') ∧ Rel MX' MY'
def cs_chill (Rel : cb_Mem → cb_Mem → Prop) : Prop := ∀ (MX MY : cb_Mem) (a1 a2 a3 a4 : Int32), Rel MX MY → ∃ (r : Int64) (MX' MY' : cb_Mem), f_X6_chill a1 a2 a3 a4 MX = some (r, MX') ∧ f_X7_chill a1 a2 a3 a4 MY = some (r, MY') ∧ Rel MX' MY'
def cs_year (Rel : cb_Mem → cb_Mem → Prop) : Prop := ∀ (MX MY : cb_Mem) (a1 a2 : Int32), Rel MX MY → ∃ (r : Int32) (MX' MY' : cb_Mem), f_X6_year a1 a2 MX = some (r, MX') ∧ f_X7_year a1 a2 MY = some (r, MY') ∧ Rel MX' MY'
def cs_sheet (Rel : cb_Mem → cb_Mem → Prop) : Prop := ∀ (MX MY : cb_Mem) (a1 a2 a3 : Int32), Rel MX MY → ∃ (r : Int32) (MX' MY' : cb_Mem), f_X6_sheet a1 a2 a3 MX = some (r, MX') ∧ f_X7_sheet a1 a2 a3 MY = some (r, MY') ∧ Rel MX' MY'
def cs_lose (Rel : cb_Mem → cb_Mem → Prop) : Prop := ∀ (MX MY : cb_Mem) (a1 : Int32), Rel MX MY → ∃ (r : Int32) (MX' MY' : cb_Mem), f_X6_lose a1 MX = some (r, MX') ∧ f_X7_lose a1 MY = some (r, MY') ∧ Rel MX' MY'
def cs_lay (Rel : cb_Mem → cb_Mem → Prop) : Prop := ∀ (MX MY : cb_Mem) (a1 a2 a3 a4 : Int32), Rel MX MY → ∃ (r : Int32) (MX' MY' : cb_Mem), f_X6_lay a1 a2 a3 a4 MX = some (r, MX') ∧ f_X7_lay a1 a2 a3 a4 MY = some (r, MY') ∧ Rel MX' MY'
def cs_get (Rel : cb_Mem → cb_Mem → Prop) : Prop := ∀ (MX MY : cb_Mem) (a1 a2 a3 : Int32), Rel MX MY → ∃ (r : Int32) (MX' MY' : cb_Mem), f_X6_get a1 a2 a3 MX = some (r, MX') ∧ f_X7_get a1 a2 a3 MY = some (r, MY') ∧ Rel MX' MY'
def cs_copy (Rel : cb_Mem → cb_Mem → Prop) : Prop := ∀ (MX MY : cb_Mem) (a1 a2 a3 a4 a5 : Int32), Rel MX MY → ∃ (r : Int32) (MX' MY' : cb_Mem), f_X6_copy a1 a2 a3 a4 a5 MX = some (r, MX') ∧ f_X7_copy a1 a2 a3 a4 a5 MY = some (r, MY') ∧ Rel MX' MY'
def cs_write (Rel : cb_Mem → cb_Mem → Prop) : Prop := ∀ (MX MY : cb_Mem) (a1 a2 : Int32), Rel MX MY → ∃ (r : Int32) (MX' MY' : cb_Mem), f_X6_write a1 a2 MX = some (r, MX') ∧ f_X7_write a1 a2 MY = some (r, MY') ∧ Rel MX' MY'
def cs_count (Rel : cb_Mem → cb_Mem → Prop) : Prop := ∀ (MX MY : cb_Mem) (a1 : Int32), Rel MX MY → ∃ (r : Int32) (MX' MY' : cb_Mem), f_X6_count a1 MX = some (r, MX') ∧ f_X7_count a1 MY = some (r, MY') ∧ Rel MX' MY'
def cs_digest (Rel : cb_Mem → cb_Mem → Prop) : Prop := ∀ (MX MY : cb_Mem), Rel MX MY → ∃ (r : Int64) (MX' MY' : cb_Mem), f_X6_digest MX = some (r, MX') ∧ f_X7_digest MY = some (r, MY') ∧ Rel MX' MY'
def cs_all (Rel : cb_Mem → cb_Mem → Prop) : Prop := cs_type Rel ∧ cs_wipe Rel ∧ cs_undo Rel ∧ cs_fault Rel ∧ cs_head Rel ∧ cs_couple Rel ∧ cs_weather Rel ∧ cs_rabbit Rel ∧ cs_back Rel ∧ cs_read Rel ∧ cs_state Rel ∧ cs_lifted Rel ∧ cs_gets Rel ∧ cs_children Rel ∧ cs_without Rel ∧ cs_turn Rel ∧ cs_met Rel ∧ cs_keep Rel ∧ cs_sow Rel ∧ cs_come Rel ∧ cs_seen Rel ∧ cs_forget Rel ∧ cs_never Rel ∧ cs_was Rel ∧ cs_ask Rel ∧ cs_chill Rel ∧ cs_year Rel ∧ cs_sheet Rel ∧ cs_lose Rel ∧ cs_lay Rel ∧ cs_get Rel ∧ cs_copy Rel ∧ cs_write Rel ∧ cs_count Rel ∧ cs_digest Rel
set_option maxRecDepth 100000 in
set_option maxHeartbeats 4000000 in
theorem cl_case_type {γ : cb_Gam} {gx gy : cb_Geo} {l : Launch} {b L : Nat} {xs : Nat → Int32} {Rel : cb_Mem → cb_Mem → Prop} (S_type : cs_type Rel) (hC : cl_C γ gx gy l b L xs) {MX MY : cb_Mem} (hR : Rel MX MY) {x3 : Int32} (h1 : vp_in (x3 + 1) L) (h2 : vp_in (x3 + 2) L) (h3 : vp_in (x3 + 3) L) (h4 : vp_in (x3 + 4) L) (h5 : vp_in (x3 + 5) L) (back : ∀ MX MY, Rel MX MY → cl_J γ gx gy MX MY 1235 [(0, .ref b), (1, .ref (gx.2.1 0)), (2, .ref (gy.2.1 0)), (3, .int x3)] []) : cl_J γ gx gy MX MY 188 [(0, .ref b), (1, .ref (gx.2.1 0)), (2, .ref (gy.2.1 0)), (3, .int x3)] [] := by
  obtain ⟨r, MX', MY', e1, e2, hR'⟩ := S_type MX MY (xs (x3 + 1).toNatClampNeg) (xs (x3 + 2).toNatClampNeg) hR
  refine cl_aload_n hC dL_law_188 rfl 1 rfl ?_
  refine cl_aload_n hC dL_law_189 rfl 0 rfl ?_
  refine cl_iload_n hC dL_law_190 rfl 3 rfl ?_
  refine cl_iconst (v := 1) hC dL_law_191 rfl ?_
  refine cl_iadd hC dL_law_192 ?_
  refine cl_sld hC h1 dL_law_193 ?_
  refine cl_aload_n hC dL_law_194 rfl 0 rfl ?_
  refine cl_iload_n hC dL_law_195 rfl 3 rfl ?_
  refine cl_iconst (v := 2) hC dL_law_196 rfl ?_
  refine cl_iadd hC dL_law_197 ?_
  refine cl_sld hC h2 dL_law_198 ?_
  refine cl_callxi (As := [.int (xs (x3 + 1).toNatClampNeg), .int (xs (x3 + 2).toNatClampNeg)]) hC cv_L_13 rfl (c_X6_type l gx (xs (x3 + 1).toNatClampNeg) (xs (x3 + 2).toNatClampNeg) MX e1) (by decide) rfl rfl (Nat.le_of_ble_eq_true rfl) dL_law_199 ?_
  refine cl_aload_n hC dL_law_202 rfl 2 rfl ?_
  refine cl_aload_n hC dL_law_203 rfl 0 rfl ?_
  refine cl_iload_n hC dL_law_204 rfl 3 rfl ?_
  refine cl_iconst (v := 1) hC dL_law_205 rfl ?_
  refine cl_iadd hC dL_law_206 ?_
  refine cl_sld hC h1 dL_law_207 ?_
  refine cl_aload_n hC dL_law_208 rfl 0 rfl ?_
  refine cl_iload_n hC dL_law_209 rfl 3 rfl ?_
  refine cl_iconst (v := 2) hC dL_law_210 rfl ?_
  refine cl_iadd hC dL_law_211 ?_
  refine cl_sld hC h2 dL_law_212 ?_
  refine cl_callyi (As := [.int (xs (x3 + 1).toNatClampNeg), .int (xs (x3 + 2).toNatClampNeg)]) hC cv_L_17 rfl (c_X7_type l gy (xs (x3 + 1).toNatClampNeg) (xs (x3 + 2).toNatClampNeg) MY e2) (by decide) rfl rfl (Nat.le_of_ble_eq_true rfl) dL_law_213 ?_
  exact cl_same (tgt := 1235) hC dL_law_216 (by decide) (back _ _ hR')
set_option maxRecDepth 100000 in
set_option maxHeartbeats 4000000 in
theorem cl_case_wipe {γ : cb_Gam} {gx gy : cb_Geo} {l : Launch} {b L : Nat} {xs : Nat → Int32} {Rel : cb_Mem → cb_Mem → Prop} (S_wipe : cs_wipe Rel) (hC : cl_C γ gx gy l b L xs) {MX MY : cb_Mem} (hR : Rel MX MY) {x3 : Int32} (h1 : vp_in (x3 + 1) L) (h2 : vp_in (x3 + 2) L) (h3 : vp_in (x3 + 3) L) (h4 : vp_in (x3 + 4) L) (h5 : vp_in (x3 + 5) L) (back : ∀ MX MY, Rel MX MY → cl_J γ gx gy MX MY 1235 [(0, .ref b), (1, .ref (gx.2.1 0)), (2, .ref (gy.2.1 0)), (3, .int x3)] []) : cl_J γ gx gy MX MY 221 [(0, .ref b), (1, .ref (gx.2.1 0)), (2, .ref (gy.2.1 0)), (3, .int x3)] [] := by
  obtain ⟨r, MX', MY', e1, e2, hR'⟩ := S_wipe MX MY (xs (x3 + 1).toNatClampNeg) hR
  refine cl_aload_n hC dL_law_221 rfl 1 rfl ?_
  refine cl_aload_n hC dL_law_222 rfl 0 rfl ?_
  refine cl_iload_n hC dL_law_223 rfl 3 rfl ?_
  refine cl_iconst (v := 1) hC dL_law_224 rfl ?_
  refine cl_iadd hC dL_law_225 ?_
  refine cl_sld hC h1 dL_law_226 ?_
  refine cl_callxi (As := [.int (xs (x3 + 1).toNatClampNeg)]) hC cv_L_18 rfl (c_X6_wipe l gx (xs (x3 + 1).toNatClampNeg) MX e1) (by decide) rfl rfl (Nat.le_of_ble_eq_true rfl) dL_law_227 ?_
  refine cl_aload_n hC dL_law_230 rfl 2 rfl ?_
  refine cl_aload_n hC dL_law_231 rfl 0 rfl ?_
  refine cl_iload_n hC dL_law_232 rfl 3 rfl ?_
  refine cl_iconst (v := 1) hC dL_law_233 rfl ?_
  refine cl_iadd hC dL_law_234 ?_
  refine cl_sld hC h1 dL_law_235 ?_
  refine cl_callyi (As := [.int (xs (x3 + 1).toNatClampNeg)]) hC cv_L_22 rfl (c_X7_wipe l gy (xs (x3 + 1).toNatClampNeg) MY e2) (by decide) rfl rfl (Nat.le_of_ble_eq_true rfl) dL_law_236 ?_
  exact cl_same (tgt := 1235) hC dL_law_239 (by decide) (back _ _ hR')
set_option maxRecDepth 100000 in
set_option maxHeartbeats 4000000 in
theorem cl_case_undo {γ : cb_Gam} {gx gy : cb_Geo} {l : Launch} {b L : Nat} {xs : Nat → Int32} {Rel : cb_Mem → cb_Mem → Prop} (S_undo : cs_undo Rel) (hC : cl_C γ gx gy l b L xs) {MX MY : cb_Mem} (hR : Rel MX MY) {x3 : Int32} (h1 : vp_in (x3 + 1) L) (h2 : vp_in (x3 + 2) L) (h3 : vp_in (x3 + 3) L) (h4 : vp_in (x3 + 4) L) (h5 : vp_in (x3 + 5) L) (back : ∀ MX MY, Rel MX MY → cl_J γ gx gy MX MY 1235 [(0, .ref b), (1, .ref (gx.2.1 0)), (2, .ref (gy.2.1 0)), (3, .int x3)] []) : cl_J γ gx gy MX MY 244 [(0, .ref b), (1, .ref (gx.2.1 0)), (2, .ref (gy.2.1 0)), (3, .int x3)] [] := by
  obtain ⟨r, MX', MY', e1, e2, hR'⟩ := S_undo MX MY (xs (x3 + 1).toNatClampNeg) hR
  refine cl_aload_n hC dL_law_244 rfl 1 rfl ?_
  refine cl_aload_n hC dL_law_245 rfl 0 rfl ?_
  refine cl_iload_n hC dL_law_246 rfl 3 rfl ?_
  refine cl_iconst (v := 1) hC dL_law_247 rfl ?_
  refine cl_iadd hC dL_law_248 ?_
  refine cl_sld hC h1 dL_law_249 ?_
  refine cl_callxi (As := [.int (xs (x3 + 1).toNatClampNeg)]) hC cv_L_23 rfl (c_X6_undo l gx (xs (x3 + 1).toNatClampNeg) MX e1) (by decide) rfl rfl (Nat.le_of_ble_eq_true rfl) dL_law_250 ?_
  refine cl_aload_n hC dL_law_253 rfl 2 rfl ?_
  refine cl_aload_n hC dL_law_254 rfl 0 rfl ?_
  refine cl_iload_n hC dL_law_255 rfl 3 rfl ?_
  refine cl_iconst (v := 1) hC dL_law_256 rfl ?_
  refine cl_iadd hC dL_law_257 ?_
  refine cl_sld hC h1 dL_law_258 ?_
  refine cl_callyi (As := [.int (xs (x3 + 1).toNatClampNeg)]) hC cv_L_26 rfl (c_X7_undo l gy (xs (x3 + 1).toNatClampNeg) MY e2) (by decide) rfl rfl (Nat.le_of_ble_eq_true rfl) dL_law_259 ?_
  exact cl_same (tgt := 1235) hC dL_law_262 (by decide) (back _ _ hR')
set_option maxRecDepth 100000 in
set_option maxHeartbeats 4000000 in
theorem cl_case_fault {γ : cb_Gam} {gx gy : cb_Geo} {l : Launch} {b L : Nat} {xs : Nat → Int32} {Rel : cb_Mem → cb_Mem → Prop} (S_fault : cs_fault Rel) (hC : cl_C γ gx gy l b L xs) {MX MY : cb_Mem} (hR : Rel MX MY) {x3 : Int32} (h1 : vp_in (x3 + 1) L) (h2 : vp_in (x3 + 2) L) (h3 : vp_in (x3 + 3) L) (h4 : vp_in (x3 + 4) L) (h5 : vp_in (x3 + 5) L) (back : ∀ MX MY, Rel MX MY → cl_J γ gx gy MX MY 1235 [(0, .ref b), (1, .ref (gx.2.1 0)), (2, .ref (gy.2.1 0)), (3, .int x3)] []) : cl_J γ gx gy MX MY 267 [(0, .ref b), (1, .ref (gx.2.1 0)), (2, .ref (gy.2.1 0)), (3, .int x3)] [] := by
  obtain ⟨r, MY', e1, e2, hR'⟩ := S_fault MX MY (xs (x3 + 1).toNatClampNeg) hR
  refine cl_aload_n hC dL_law_267 rfl 1 rfl ?_
  refine cl_aload_n hC dL_law_268 rfl 0 rfl ?_
  refine cl_iload_n hC dL_law_269 rfl 3 rfl ?_
  refine cl_iconst (v := 1) hC dL_law_270 rfl ?_
  refine cl_iadd hC dL_law_271 ?_
  refine cl_sld hC h1 dL_law_272 ?_
  refine cl_callxi (As := [.int (xs (x3 + 1).toNatClampNeg)]) hC cv_L_27 rfl (c_X6_fault l gx (xs (x3 + 1).toNatClampNeg) MX e1) (by decide) rfl rfl (Nat.le_of_ble_eq_true rfl) dL_law_273 ?_
  refine cl_aload_n hC dL_law_276 rfl 2 rfl ?_
  refine cl_aload_n hC dL_law_277 rfl 0 rfl ?_
  refine cl_iload_n hC dL_law_278 rfl 3 rfl ?_
  refine cl_iconst (v := 1) hC dL_law_279 rfl ?_
  refine cl_iadd hC dL_law_280 ?_
  refine cl_sld hC h1 dL_law_281 ?_
  refine cl_callyi (As := [.int (xs (x3 + 1).toNatClampNeg)]) hC cv_L_30 rfl (c_X7_fault l gy (xs (x3 + 1).toNatClampNeg) MY e2) (by decide) rfl rfl (Nat.le_of_ble_eq_true rfl) dL_law_282 ?_
  exact cl_same (tgt := 1235) hC dL_law_285 (by decide) (back _ _ hR')
set_option maxRecDepth 100000 in
set_option maxHeartbeats 4000000 in
theorem cl_case_head {γ : cb_Gam} {gx gy : cb_Geo} {l : Launch} {b L : Nat} {xs : Nat → Int32} {Rel : cb_Mem → cb_Mem → Prop} (S_head : cs_head Rel) (hC : cl_C γ gx gy l b L xs) {MX MY : cb_Mem} (hR : Rel MX MY) {x3 : Int32} (h1 : vp_in (x3 + 1) L) (h2 : vp_in (x3 + 2) L) (h3 : vp_in (x3 + 3) L) (h4 : vp_in (x3 + 4) L) (h5 : vp_in (x3 + 5) L) (back : ∀ MX MY, Rel MX MY → cl_J γ gx gy MX MY 1235 [(0, .ref b), (1, .ref (gx.2.1 0)), (2, .ref (gy.2.1 0)), (3, .int x3)] []) : cl_J γ gx gy MX MY 290 [(0, .ref b), (1, .ref (gx.2.1 0)), (2, .ref (gy.2.1 0)), (3, .int x3)] [] := by
  obtain ⟨r, MY', e1, e2, hR'⟩ := S_head MX MY (xs (x3 + 1).toNatClampNeg) (xs (x3 + 2).toNatClampNeg) hR
  refine cl_aload_n hC dL_law_290 rfl 1 rfl ?_
  refine cl_aload_n hC dL_law_291 rfl 0 rfl ?_
  refine cl_iload_n hC dL_law_292 rfl 3 rfl ?_
  refine cl_iconst (v := 1) hC dL_law_293 rfl ?_
  refine cl_iadd hC dL_law_294 ?_
  refine cl_sld hC h1 dL_law_295 ?_
  refine cl_aload_n hC dL_law_296 rfl 0 rfl ?_
  refine cl_iload_n hC dL_law_297 rfl 3 rfl ?_
  refine cl_iconst (v := 2) hC dL_law_298 rfl ?_
  refine cl_iadd hC dL_law_299 ?_
  refine cl_sld hC h2 dL_law_300 ?_
  refine cl_callxi (As := [.int (xs (x3 + 1).toNatClampNeg), .int (xs (x3 + 2).toNatClampNeg)]) hC cv_L_31 rfl (c_X6_head l gx (xs (x3 + 1).toNatClampNeg) (xs (x3 + 2).toNatClampNeg) MX e1) (by decide) rfl rfl (Nat.le_of_ble_eq_true rfl) dL_law_301 ?_
  refine cl_aload_n hC dL_law_304 rfl 2 rfl ?_
  refine cl_aload_n hC dL_law_305 rfl 0 rfl ?_
  refine cl_iload_n hC dL_law_306 rfl 3 rfl ?_
  refine cl_iconst (v := 1) hC dL_law_307 rfl ?_
  refine cl_iadd hC dL_law_308 ?_
  refine cl_sld hC h1 dL_law_309 ?_
  refine cl_aload_n hC dL_law_310 rfl 0 rfl ?_
  refine cl_iload_n hC dL_law_311 rfl 3 rfl ?_
  refine cl_iconst (v := 2) hC dL_law_312 rfl ?_
  refine cl_iadd hC dL_law_313 ?_
  refine cl_sld hC h2 dL_law_314 ?_
  refine cl_callyi (As := [.int (xs (x3 + 1).toNatClampNeg), .int (xs (x3 + 2).toNatClampNeg)]) hC cv_L_34 rfl (c_X7_head l gy (xs (x3 + 1).toNatClampNeg) (xs (x3 + 2).toNatClampNeg) MY e2) (by decide) rfl rfl (Nat.le_of_ble_eq_true rfl) dL_law_315 ?_
  exact cl_same (tgt := 1235) hC dL_law_318 (by decide) (back _ _ hR')
set_option maxRecDepth 100000 in
set_option maxHeartbeats 4000000 in
theorem cl_case_couple {γ : cb_Gam} {gx gy : cb_Geo} {l : Launch} {b L : Nat} {xs : Nat → Int32} {Rel : cb_Mem → cb_Mem → Prop} (S_couple : cs_couple Rel) (hC : cl_C γ gx gy l b L xs) {MX MY : cb_Mem} (hR : Rel MX MY) {x3 : Int32} (h1 : vp_in (x3 + 1) L) (h2 : vp_in (x3 + 2) L) (h3 : vp_in (x3 + 3) L) (h4 : vp_in (x3 + 4) L) (h5 : vp_in (x3 + 5) L) (back : ∀ MX MY, Rel MX MY → cl_J γ gx gy MX MY 1235 [(0, .ref b), (1, .ref (gx.2.1 0)), (2, .ref (gy.2.1 0)), (3, .int x3)] []) : cl_J γ gx gy MX MY 323 [(0, .ref b), (1, .ref (gx.2.1 0)), (2, .ref (gy.2.1 0)), (3, .int x3)] [] := by
  obtain ⟨r, MY', e1, e2, hR'⟩ := S_couple MX MY (xs (x3 + 1).toNatClampNeg) (xs (x3 + 2).toNatClampNeg) hR
  refine cl_aload_n hC dL_law_323 rfl 1 rfl ?_
  refine cl_aload_n hC dL_law_324 rfl 0 rfl ?_
  refine cl_iload_n hC dL_law_325 rfl 3 rfl ?_
  refine cl_iconst (v := 1) hC dL_law_326 rfl ?_
  refine cl_iadd hC dL_law_327 ?_
  refine cl_sld hC h1 dL_law_328 ?_
  refine cl_aload_n hC dL_law_329 rfl 0 rfl ?_
  refine cl_iload_n hC dL_law_330 rfl 3 rfl ?_
  refine cl_iconst (v := 2) hC dL_law_331 rfl ?_
  refine cl_iadd hC dL_law_332 ?_
  refine cl_sld hC h2 dL_law_333 ?_
  refine cl_callxi (As := [.int (xs (x3 + 1).toNatClampNeg), .int (xs (x3 + 2).toNatClampNeg)]) hC cv_L_35 rfl (c_X6_couple l gx (xs (x3 + 1).toNatClampNeg) (xs (x3 + 2).toNatClampNeg) MX e1) (by decide) rfl rfl (Nat.le_of_ble_eq_true rfl) dL_law_334 ?_
  refine cl_aload_n hC dL_law_337 rfl 2 rfl ?_
  refine cl_aload_n hC dL_law_338 rfl 0 rfl ?_
  refine cl_iload_n hC dL_law_339 rfl 3 rfl ?_
  refine cl_iconst (v := 1) hC dL_law_340 rfl ?_
  refine cl_iadd hC dL_law_341 ?_
  refine cl_sld hC h1 dL_law_342 ?_
  refine cl_aload_n hC dL_law_343 rfl 0 rfl ?_
  refine cl_iload_n hC dL_law_344 rfl 3 rfl ?_
  refine cl_iconst (v := 2) hC dL_law_345 rfl ?_
  refine cl_iadd hC dL_law_346 ?_
  refine cl_sld hC h2 dL_law_347 ?_
  refine cl_callyi (As := [.int (xs (x3 + 1).toNatClampNeg), .int (xs (x3 + 2).toNatClampNeg)]) hC cv_L_38 rfl (c_X7_couple l gy (xs (x3 + 1).toNatClampNeg) (xs (x3 + 2).toNatClampNeg) MY e2) (by decide) rfl rfl (Nat.le_of_ble_eq_true rfl) dL_law_348 ?_
  exact cl_same (tgt := 1235) hC dL_law_351 (by decide) (back _ _ hR')
set_option maxRecDepth 100000 in
set_option maxHeartbeats 4000000 in
theorem cl_case_weather {γ : cb_Gam} {gx gy : cb_Geo} {l : Launch} {b L : Nat} {xs : Nat → Int32} {Rel : cb_Mem → cb_Mem → Prop} (S_weather : cs_weather Rel) (hC : cl_C γ gx gy l b L xs) {MX MY : cb_Mem} (hR : Rel MX MY) {x3 : Int32} (h1 : vp_in (x3 + 1) L) (h2 : vp_in (x3 + 2) L) (h3 : vp_in (x3 + 3) L) (h4 : vp_in (x3 + 4) L) (h5 : vp_in (x3 + 5) L) (back : ∀ MX MY, Rel MX MY → cl_J γ gx gy MX MY 1235 [(0, .ref b), (1, .ref (gx.2.1 0)), (2, .ref (gy.2.1 0)), (3, .int x3)] []) : cl_J γ gx gy MX MY 356 [(0, .ref b), (1, .ref (gx.2.1 0)), (2, .ref (gy.2.1 0)), (3, .int x3)] [] := by
  obtain ⟨r, MX', MY', e1, e2, hR'⟩ := S_weather MX MY (xs (x3 + 1).toNatClampNeg) (xs (x3 + 2).toNatClampNeg) hR
  refine cl_aload_n hC dL_law_356 rfl 1 rfl ?_
  refine cl_aload_n hC dL_law_357 rfl 0 rfl ?_
  refine cl_iload_n hC dL_law_358 rfl 3 rfl ?_
  refine cl_iconst (v := 1) hC dL_law_359 rfl ?_
  refine cl_iadd hC dL_law_360 ?_
  refine cl_sld hC h1 dL_law_361 ?_
  refine cl_aload_n hC dL_law_362 rfl 0 rfl ?_
  refine cl_iload_n hC dL_law_363 rfl 3 rfl ?_
  refine cl_iconst (v := 2) hC dL_law_364 rfl ?_
  refine cl_iadd hC dL_law_365 ?_
  refine cl_sld hC h2 dL_law_366 ?_
  refine cl_callxi (As := [.int (xs (x3 + 1).toNatClampNeg), .int (xs (x3 + 2).toNatClampNeg)]) hC cv_L_39 rfl (c_X6_weather l gx (xs (x3 + 1).toNatClampNeg) (xs (x3 + 2).toNatClampNeg) MX e1) (by decide) rfl rfl (Nat.le_of_ble_eq_true rfl) dL_law_367 ?_
  refine cl_aload_n hC dL_law_370 rfl 2 rfl ?_
  refine cl_aload_n hC dL_law_371 rfl 0 rfl ?_
  refine cl_iload_n hC dL_law_372 rfl 3 rfl ?_
  refine cl_iconst (v := 1) hC dL_law_373 rfl ?_
  refine cl_iadd hC dL_law_374 ?_
  refine cl_sld hC h1 dL_law_375 ?_
  refine cl_aload_n hC dL_law_376 rfl 0 rfl ?_
  refine cl_iload_n hC dL_law_377 rfl 3 rfl ?_
  refine cl_iconst (v := 2) hC dL_law_378 rfl ?_
  refine cl_iadd hC dL_law_379 ?_
  refine cl_sld hC h2 dL_law_380 ?_
  refine cl_callyi (As := [.int (xs (x3 + 1).toNatClampNeg), .int (xs (x3 + 2).toNatClampNeg)]) hC cv_L_42 rfl (c_X7_weather l gy (xs (x3 + 1).toNatClampNeg) (xs (x3 + 2).toNatClampNeg) MY e2) (by decide) rfl rfl (Nat.le_of_ble_eq_true rfl) dL_law_381 ?_
  exact cl_same (tgt := 1235) hC dL_law_384 (by decide) (back _ _ hR')
set_option maxRecDepth 100000 in
set_option maxHeartbeats 4000000 in
theorem cl_case_rabbit {γ : cb_Gam} {gx gy : cb_Geo} {l : Launch} {b L : Nat} {xs : Nat → Int32} {Rel : cb_Mem → cb_Mem → Prop} (S_rabbit : cs_rabbit Rel) (hC : cl_C γ gx gy l b L xs) {MX MY : cb_Mem} (hR : Rel MX MY) {x3 : Int32} (h1 : vp_in (x3 + 1) L) (h2 : vp_in (x3 + 2) L) (h3 : vp_in (x3 + 3) L) (h4 : vp_in (x3 + 4) L) (h5 : vp_in (x3 + 5) L) (back : ∀ MX MY, Rel MX MY → cl_J γ gx gy MX MY 1235 [(0, .ref b), (1, .ref (gx.2.1 0)), (2, .ref (gy.2.1 0)), (3, .int x3)] []) : cl_J γ gx gy MX MY 389 [(0, .ref b), (1, .ref (gx.2.1 0)), (2, .ref (gy.2.1 0)), (3, .int x3)] [] := by
  obtain ⟨r, MX', MY', e1, e2, hR'⟩ := S_rabbit MX MY (xs (x3 + 1).toNatClampNeg) (xs (x3 + 2).toNatClampNeg) hR
  refine cl_aload_n hC dL_law_389 rfl 1 rfl ?_
  refine cl_aload_n hC dL_law_390 rfl 0 rfl ?_
  refine cl_iload_n hC dL_law_391 rfl 3 rfl ?_
  refine cl_iconst (v := 1) hC dL_law_392 rfl ?_
  refine cl_iadd hC dL_law_393 ?_
  refine cl_sld hC h1 dL_law_394 ?_
  refine cl_aload_n hC dL_law_395 rfl 0 rfl ?_
  refine cl_iload_n hC dL_law_396 rfl 3 rfl ?_
  refine cl_iconst (v := 2) hC dL_law_397 rfl ?_
  refine cl_iadd hC dL_law_398 ?_
  refine cl_sld hC h2 dL_law_399 ?_
  refine cl_callxi (As := [.int (xs (x3 + 1).toNatClampNeg), .int (xs (x3 + 2).toNatClampNeg)]) hC cv_L_43 rfl (c_X6_rabbit l gx (xs (x3 + 1).toNatClampNeg) (xs (x3 + 2).toNatClampNeg) MX e1) (by decide) rfl rfl (Nat.le_of_ble_eq_true rfl) dL_law_400 ?_
  refine cl_aload_n hC dL_law_403 rfl 2 rfl ?_
  refine cl_aload_n hC dL_law_404 rfl 0 rfl ?_
  refine cl_iload_n hC dL_law_405 rfl 3 rfl ?_
  refine cl_iconst (v := 1) hC dL_law_406 rfl ?_
  refine cl_iadd hC dL_law_407 ?_
  refine cl_sld hC h1 dL_law_408 ?_
  refine cl_aload_n hC dL_law_409 rfl 0 rfl ?_
  refine cl_iload_n hC dL_law_410 rfl 3 rfl ?_
  refine cl_iconst (v := 2) hC dL_law_411 rfl ?_
  refine cl_iadd hC dL_law_412 ?_
  refine cl_sld hC h2 dL_law_413 ?_
  refine cl_callyi (As := [.int (xs (x3 + 1).toNatClampNeg), .int (xs (x3 + 2).toNatClampNeg)]) hC cv_L_46 rfl (c_X7_rabbit l gy (xs (x3 + 1).toNatClampNeg) (xs (x3 + 2).toNatClampNeg) MY e2) (by decide) rfl rfl (Nat.le_of_ble_eq_true rfl) dL_law_414 ?_
  exact cl_same (tgt := 1235) hC dL_law_417 (by decide) (back _ _ hR')
set_option maxRecDepth 100000 in
set_option maxHeartbeats 4000000 in
theorem cl_case_back {γ : cb_Gam} {gx gy : cb_Geo} {l : Launch} {b L : Nat} {xs : Nat → Int32} {Rel : cb_Mem → cb_Mem → Prop} (S_back : cs_back Rel) (hC : cl_C γ gx gy l b L xs) {MX MY : cb_Mem} (hR : Rel MX MY) {x3 : Int32} (h1 : vp_in (x3 + 1) L) (h2 : vp_in (x3 + 2) L) (h3 : vp_in (x3 + 3) L) (h4 : vp_in (x3 + 4) L) (h5 : vp_in (x3 + 5) L) (back : ∀ MX MY, Rel MX MY → cl_J γ gx gy MX MY 1235 [(0, .ref b), (1, .ref (gx.2.1 0)), (2, .ref (gy.2.1 0)), (3, .int x3)] []) : cl_J γ gx gy MX MY 422 [(0, .ref b), (1, .ref (gx.2.1 0)), (2, .ref (gy.2.1 0)), (3, .int x3)] [] := by
  obtain ⟨r, MX', MY', e1, e2, hR'⟩ := S_back MX MY (xs (x3 + 1).toNatClampNeg) hR
  refine cl_aload_n hC dL_law_422 rfl 1 rfl ?_
  refine cl_aload_n hC dL_law_423 rfl 0 rfl ?_
  refine cl_iload_n hC dL_law_424 rfl 3 rfl ?_
  refine cl_iconst (v := 1) hC dL_law_425 rfl ?_
  refine cl_iadd hC dL_law_426 ?_
  refine cl_sld hC h1 dL_law_427 ?_
  refine cl_callxi (As := [.int (xs (x3 + 1).toNatClampNeg)]) hC cv_L_47 rfl (c_X6_back l gx (xs (x3 + 1).toNatClampNeg) MX e1) (by decide) rfl rfl (Nat.le_of_ble_eq_true rfl) dL_law_428 ?_
  refine cl_aload_n hC dL_law_431 rfl 2 rfl ?_
  refine cl_aload_n hC dL_law_432 rfl 0 rfl ?_
  refine cl_iload_n hC dL_law_433 rfl 3 rfl ?_
  refine cl_iconst (v := 1) hC dL_law_434 rfl ?_
  refine cl_iadd hC dL_law_435 ?_
  refine cl_sld hC h1 dL_law_436 ?_
  refine cl_callyi (As := [.int (xs (x3 + 1).toNatClampNeg)]) hC cv_L_50 rfl (c_X7_back l gy (xs (x3 + 1).toNatClampNeg) MY e2) (by decide) rfl rfl (Nat.le_of_ble_eq_true rfl) dL_law_437 ?_
  exact cl_same (tgt := 1235) hC dL_law_440 (by decide) (back _ _ hR')
set_option maxRecDepth 100000 in
set_option maxHeartbeats 4000000 in
theorem cl_case_read {γ : cb_Gam} {gx gy : cb_Geo} {l : Launch} {b L : Nat} {xs : Nat → Int32} {Rel : cb_Mem → cb_Mem → Prop} (S_read : cs_read Rel) (hC : cl_C γ gx gy l b L xs) {MX MY : cb_Mem} (hR : Rel MX MY) {x3 : Int32} (h1 : vp_in (x3 + 1) L) (h2 : vp_in (x3 + 2) L) (h3 : vp_in (x3 + 3) L) (h4 : vp_in (x3 + 4) L) (h5 : vp_in (x3 + 5) L) (back : ∀ MX MY, Rel MX MY → cl_J γ gx gy MX MY 1235 [(0, .ref b), (1, .ref (gx.2.1 0)), (2, .ref (gy.2.1 0)), (3, .int x3)] []) : cl_J γ gx gy MX MY 445 [(0, .ref b), (1, .ref (gx.2.1 0)), (2, .ref (gy.2.1 0)), (3, .int x3)] [] := by
  obtain ⟨r, MX', MY', e1, e2, hR'⟩ := S_read MX MY (xs (x3 + 1).toNatClampNeg) hR
  refine cl_aload_n hC dL_law_445 rfl 1 rfl ?_
  refine cl_aload_n hC dL_law_446 rfl 0 rfl ?_
  refine cl_iload_n hC dL_law_447 rfl 3 rfl ?_
  refine cl_iconst (v := 1) hC dL_law_448 rfl ?_
  refine cl_iadd hC dL_law_449 ?_
  refine cl_sld hC h1 dL_law_450 ?_
  refine cl_callxi (As := [.int (xs (x3 + 1).toNatClampNeg)]) hC cv_L_51 rfl (c_X6_read l gx (xs (x3 + 1).toNatClampNeg) MX e1) (by decide) rfl rfl (Nat.le_of_ble_eq_true rfl) dL_law_451 ?_
  refine cl_aload_n hC dL_law_454 rfl 2 rfl ?_
  refine cl_aload_n hC dL_law_455 rfl 0 rfl ?_
  refine cl_iload_n hC dL_law_456 rfl 3 rfl ?_
  refine cl_iconst (v := 1) hC dL_law_457 rfl ?_
  refine cl_iadd hC dL_law_458 ?_
  refine cl_sld hC h1 dL_law_459 ?_
  refine cl_callyi (As := [.int (xs (x3 + 1).toNatClampNeg)]) hC cv_L_54 rfl (c_X7_read l gy (xs (x3 + 1).toNatClampNeg) MY e2) (by decide) rfl rfl (Nat.le_of_ble_eq_true rfl) dL_law_460 ?_
  exact cl_same (tgt := 1235) hC dL_law_463 (by decide) (back _ _ hR')
set_option maxRecDepth 100000 in
set_option maxHeartbeats 4000000 in
theorem cl_case_state {γ : cb_Gam} {gx gy : cb_Geo} {l : Launch} {b L : Nat} {xs : Nat → Int32} {Rel : cb_Mem → cb_Mem → Prop} (S_state : cs_state Rel) (hC : cl_C γ gx gy l b L xs) {MX MY : cb_Mem} (hR : Rel MX MY) {x3 : Int32} (h1 : vp_in (x3 + 1) L) (h2 : vp_in (x3 + 2) L) (h3 : vp_in (x3 + 3) L) (h4 : vp_in (x3 + 4) L) (h5 : vp_in (x3 + 5) L) (back : ∀ MX MY, Rel MX MY → cl_J γ gx gy MX MY 1235 [(0, .ref b), (1, .ref (gx.2.1 0)), (2, .ref (gy.2.1 0)), (3, .int x3)] []) : cl_J γ gx gy MX MY 468 [(0, .ref b), (1, .ref (gx.2.1 0)), (2, .ref (gy.2.1 0)), (3, .int x3)] [] := by
  obtain ⟨r, MX', MY', e1, e2, hR'⟩ := S_state MX MY (xs (x3 + 1).toNatClampNeg) (xs (x3 + 2).toNatClampNeg) hR
  refine cl_aload_n hC dL_law_468 rfl 1 rfl ?_
  refine cl_aload_n hC dL_law_469 rfl 0 rfl ?_
  refine cl_iload_n hC dL_law_470 rfl 3 rfl ?_
  refine cl_iconst (v := 1) hC dL_law_471 rfl ?_
  refine cl_iadd hC dL_law_472 ?_
  refine cl_sld hC h1 dL_law_473 ?_
  refine cl_aload_n hC dL_law_474 rfl 0 rfl ?_
  refine cl_iload_n hC dL_law_475 rfl 3 rfl ?_
  refine cl_iconst (v := 2) hC dL_law_476 rfl ?_
  refine cl_iadd hC dL_law_477 ?_
  refine cl_sld hC h2 dL_law_478 ?_
  refine cl_callxi (As := [.int (xs (x3 + 1).toNatClampNeg), .int (xs (x3 + 2).toNatClampNeg)]) hC cv_L_55 rfl (c_X6_state l gx (xs (x3 + 1).toNatClampNeg) (xs (x3 + 2).toNatClampNeg) MX e1) (by decide) rfl rfl (Nat.le_of_ble_eq_true rfl) dL_law_479 ?_
  refine cl_aload_n hC dL_law_482 rfl 2 rfl ?_
  refine cl_aload_n hC dL_law_483 rfl 0 rfl ?_
  refine cl_iload_n hC dL_law_484 rfl 3 rfl ?_
  refine cl_iconst (v := 1) hC dL_law_485 rfl ?_
  refine cl_iadd hC dL_law_486 ?_
  refine cl_sld hC h1 dL_law_487 ?_
  refine cl_aload_n hC dL_law_488 rfl 0 rfl ?_
  refine cl_iload_n hC dL_law_489 rfl 3 rfl ?_
  refine cl_iconst (v := 2) hC dL_law_490 rfl ?_
  refine cl_iadd hC dL_law_491 ?_
  refine cl_sld hC h2 dL_law_492 ?_
  refine cl_callyi (As := [.int (xs (x3 + 1).toNatClampNeg), .int (xs (x3 + 2).toNatClampNeg)]) hC cv_L_58 rfl (c_X7_state l gy (xs (x3 + 1).toNatClampNeg) (xs (x3 + 2).toNatClampNeg) MY e2) (by decide) rfl rfl (Nat.le_of_ble_eq_true rfl) dL_law_493 ?_
  exact cl_same (tgt := 1235) hC dL_law_496 (by decide) (back _ _ hR')
set_option maxRecDepth 100000 in
set_option maxHeartbeats 4000000 in
theorem cl_case_lifted {γ : cb_Gam} {gx gy : cb_Geo} {l : Launch} {b L : Nat} {xs : Nat → Int32} {Rel : cb_Mem → cb_Mem → Prop} (S_lifted : cs_lifted Rel) (hC : cl_C γ gx gy l b L xs) {MX MY : cb_Mem} (hR : Rel MX MY) {x3 : Int32} (h1 : vp_in (x3 + 1) L) (h2 : vp_in (x3 + 2) L) (h3 : vp_in (x3 + 3) L) (h4 : vp_in (x3 + 4) L) (h5 : vp_in (x3 + 5) L) (back : ∀ MX MY, Rel MX MY → cl_J γ gx gy MX MY 1235 [(0, .ref b), (1, .ref (gx.2.1 0)), (2, .ref (gy.2.1 0)), (3, .int x3)] []) : cl_J γ gx gy MX MY 501 [(0, .ref b), (1, .ref (gx.2.1 0)), (2, .ref (gy.2.1 0)), (3, .int x3)] [] := by
  obtain ⟨r, MX', MY', e1, e2, hR'⟩ := S_lifted MX MY (xs (x3 + 1).toNatClampNeg) (xs (x3 + 2).toNatClampNeg) hR
  refine cl_aload_n hC dL_law_501 rfl 1 rfl ?_
  refine cl_aload_n hC dL_law_502 rfl 0 rfl ?_
  refine cl_iload_n hC dL_law_503 rfl 3 rfl ?_
  refine cl_iconst (v := 1) hC dL_law_504 rfl ?_
  refine cl_iadd hC dL_law_505 ?_
  refine cl_sld hC h1 dL_law_506 ?_
  refine cl_aload_n hC dL_law_507 rfl 0 rfl ?_
  refine cl_iload_n hC dL_law_508 rfl 3 rfl ?_
  refine cl_iconst (v := 2) hC dL_law_509 rfl ?_
  refine cl_iadd hC dL_law_510 ?_
  refine cl_sld hC h2 dL_law_511 ?_
  refine cl_callxi (As := [.int (xs (x3 + 1).toNatClampNeg), .int (xs (x3 + 2).toNatClampNeg)]) hC cv_L_59 rfl (c_X6_lifted l gx (xs (x3 + 1).toNatClampNeg) (xs (x3 + 2).toNatClampNeg) MX e1) (by decide) rfl rfl (Nat.le_of_ble_eq_true rfl) dL_law_512 ?_
  refine cl_aload_n hC dL_law_515 rfl 2 rfl ?_
  refine cl_aload_n hC dL_law_516 rfl 0 rfl ?_
  refine cl_iload_n hC dL_law_517 rfl 3 rfl ?_
  refine cl_iconst (v := 1) hC dL_law_518 rfl ?_
  refine cl_iadd hC dL_law_519 ?_
  refine cl_sld hC h1 dL_law_520 ?_
  refine cl_aload_n hC dL_law_521 rfl 0 rfl ?_
  refine cl_iload_n hC dL_law_522 rfl 3 rfl ?_
  refine cl_iconst (v := 2) hC dL_law_523 rfl ?_
  refine cl_iadd hC dL_law_524 ?_
  refine cl_sld hC h2 dL_law_525 ?_
  refine cl_callyi (As := [.int (xs (x3 + 1).toNatClampNeg), .int (xs (x3 + 2).toNatClampNeg)]) hC cv_L_62 rfl (c_X7_lifted l gy (xs (x3 + 1).toNatClampNeg) (xs (x3 + 2).toNatClampNeg) MY e2) (by decide) rfl rfl (Nat.le_of_ble_eq_true rfl) dL_law_526 ?_
  exact cl_same (tgt := 1235) hC dL_law_529 (by decide) (back _ _ hR')
set_option maxRecDepth 100000 in
set_option maxHeartbeats 4000000 in
theorem cl_case_gets {γ : cb_Gam} {gx gy : cb_Geo} {l : Launch} {b L : Nat} {xs : Nat → Int32} {Rel : cb_Mem → cb_Mem → Prop} (S_gets : cs_gets Rel) (hC : cl_C γ gx gy l b L xs) {MX MY : cb_Mem} (hR : Rel MX MY) {x3 : Int32} (h1 : vp_in (x3 + 1) L) (h2 : vp_in (x3 + 2) L) (h3 : vp_in (x3 + 3) L) (h4 : vp_in (x3 + 4) L) (h5 : vp_in (x3 + 5) L) (back : ∀ MX MY, Rel MX MY → cl_J γ gx gy MX MY 1235 [(0, .ref b), (1, .ref (gx.2.1 0)), (2, .ref (gy.2.1 0)), (3, .int x3)] []) : cl_J γ gx gy MX MY 534 [(0, .ref b), (1, .ref (gx.2.1 0)), (2, .ref (gy.2.1 0)), (3, .int x3)] [] := by
  obtain ⟨r, MX', MY', e1, e2, hR'⟩ := S_gets MX MY (xs (x3 + 1).toNatClampNeg) (xs (x3 + 2).toNatClampNeg) hR
  refine cl_aload_n hC dL_law_534 rfl 1 rfl ?_
  refine cl_aload_n hC dL_law_535 rfl 0 rfl ?_
  refine cl_iload_n hC dL_law_536 rfl 3 rfl ?_
  refine cl_iconst (v := 1) hC dL_law_537 rfl ?_
  refine cl_iadd hC dL_law_538 ?_
  refine cl_sld hC h1 dL_law_539 ?_
  refine cl_aload_n hC dL_law_540 rfl 0 rfl ?_
  refine cl_iload_n hC dL_law_541 rfl 3 rfl ?_
  refine cl_iconst (v := 2) hC dL_law_542 rfl ?_
  refine cl_iadd hC dL_law_543 ?_
  refine cl_sld hC h2 dL_law_544 ?_
  refine cl_callxi (As := [.int (xs (x3 + 1).toNatClampNeg), .int (xs (x3 + 2).toNatClampNeg)]) hC cv_L_63 rfl (c_X6_gets l gx (xs (x3 + 1).toNatClampNeg) (xs (x3 + 2).toNatClampNeg) MX e1) (by decide) rfl rfl (Nat.le_of_ble_eq_true rfl) dL_law_545 ?_
  refine cl_aload_n hC dL_law_548 rfl 2 rfl ?_
  refine cl_aload_n hC dL_law_549 rfl 0 rfl ?_
  refine cl_iload_n hC dL_law_550 rfl 3 rfl ?_
  refine cl_iconst (v := 1) hC dL_law_551 rfl ?_
  refine cl_iadd hC dL_law_552 ?_
  refine cl_sld hC h1 dL_law_553 ?_
  refine cl_aload_n hC dL_law_554 rfl 0 rfl ?_
  refine cl_iload_n hC dL_law_555 rfl 3 rfl ?_
  refine cl_iconst (v := 2) hC dL_law_556 rfl ?_
  refine cl_iadd hC dL_law_557 ?_
  refine cl_sld hC h2 dL_law_558 ?_
  refine cl_callyi (As := [.int (xs (x3 + 1).toNatClampNeg), .int (xs (x3 + 2).toNatClampNeg)]) hC cv_L_66 rfl (c_X7_gets l gy (xs (x3 + 1).toNatClampNeg) (xs (x3 + 2).toNatClampNeg) MY e2) (by decide) rfl rfl (Nat.le_of_ble_eq_true rfl) dL_law_559 ?_
  exact cl_same (tgt := 1235) hC dL_law_562 (by decide) (back _ _ hR')
set_option maxRecDepth 100000 in
set_option maxHeartbeats 4000000 in
theorem cl_case_children {γ : cb_Gam} {gx gy : cb_Geo} {l : Launch} {b L : Nat} {xs : Nat → Int32} {Rel : cb_Mem → cb_Mem → Prop} (S_children : cs_children Rel) (hC : cl_C γ gx gy l b L xs) {MX MY : cb_Mem} (hR : Rel MX MY) {x3 : Int32} (h1 : vp_in (x3 + 1) L) (h2 : vp_in (x3 + 2) L) (h3 : vp_in (x3 + 3) L) (h4 : vp_in (x3 + 4) L) (h5 : vp_in (x3 + 5) L) (back : ∀ MX MY, Rel MX MY → cl_J γ gx gy MX MY 1235 [(0, .ref b), (1, .ref (gx.2.1 0)), (2, .ref (gy.2.1 0)), (3, .int x3)] []) : cl_J γ gx gy MX MY 567 [(0, .ref b), (1, .ref (gx.2.1 0)), (2, .ref (gy.2.1 0)), (3, .int x3)] [] := by
  obtain ⟨r, MX', MY', e1, e2, hR'⟩ := S_children MX MY (xs (x3 + 1).toNatClampNeg) hR
  refine cl_aload_n hC dL_law_567 rfl 1 rfl ?_
  refine cl_aload_n hC dL_law_568 rfl 0 rfl ?_
  refine cl_iload_n hC dL_law_569 rfl 3 rfl ?_
  refine cl_iconst (v := 1) hC dL_law_570 rfl ?_
  refine cl_iadd hC dL_law_571 ?_
  refine cl_sld hC h1 dL_law_572 ?_
  refine cl_callxi (As := [.int (xs (x3 + 1).toNatClampNeg)]) hC cv_L_67 rfl (c_X6_children l gx (xs (x3 + 1).toNatClampNeg) MX e1) (by decide) rfl rfl (Nat.le_of_ble_eq_true rfl) dL_law_573 ?_
  refine cl_aload_n hC dL_law_576 rfl 2 rfl ?_
  refine cl_aload_n hC dL_law_577 rfl 0 rfl ?_
  refine cl_iload_n hC dL_law_578 rfl 3 rfl ?_
  refine cl_iconst (v := 1) hC dL_law_579 rfl ?_
  refine cl_iadd hC dL_law_580 ?_
  refine cl_sld hC h1 dL_law_581 ?_
  refine cl_callyi (As := [.int (xs (x3 + 1).toNatClampNeg)]) hC cv_L_70 rfl (c_X7_children l gy (xs (x3 + 1).toNatClampNeg) MY e2) (by decide) rfl rfl (Nat.le_of_ble_eq_true rfl) dL_law_582 ?_
  exact cl_same (tgt := 1235) hC dL_law_585 (by decide) (back _ _ hR')
set_option maxRecDepth 100000 in
set_option maxHeartbeats 4000000 in
theorem cl_case_without {γ : cb_Gam} {gx gy : cb_Geo} {l : Launch} {b L : Nat} {xs : Nat → Int32} {Rel : cb_Mem → cb_Mem → Prop} (S_without : cs_without Rel) (hC : cl_C γ gx gy l b L xs) {MX MY : cb_Mem} (hR : Rel MX MY) {x3 : Int32} (h1 : vp_in (x3 + 1) L) (h2 : vp_in (x3 + 2) L) (h3 : vp_in (x3 + 3) L) (h4 : vp_in (x3 + 4) L) (h5 : vp_in (x3 + 5) L) (back : ∀ MX MY, Rel MX MY → cl_J γ gx gy MX MY 1235 [(0, .ref b), (1, .ref (gx.2.1 0)), (2, .ref (gy.2.1 0)), (3, .int x3)] []) : cl_J γ gx gy MX MY 590 [(0, .ref b), (1, .ref (gx.2.1 0)), (2, .ref (gy.2.1 0)), (3, .int x3)] [] := by
  obtain ⟨r, MX', MY', e1, e2, hR'⟩ := S_without MX MY hR
  refine cl_aload_n hC dL_law_590 rfl 1 rfl ?_
  refine cl_callxi (As := []) hC cv_L_71 rfl (c_X6_without l gx MX e1) (by decide) rfl rfl (Nat.le_of_ble_eq_true rfl) dL_law_591 ?_
  refine cl_aload_n hC dL_law_594 rfl 2 rfl ?_
  refine cl_callyi (As := []) hC cv_L_75 rfl (c_X7_without l gy MY e2) (by decide) rfl rfl (Nat.le_of_ble_eq_true rfl) dL_law_595 ?_
  exact cl_same (tgt := 1235) hC dL_law_598 (by decide) (back _ _ hR')
set_option maxRecDepth 100000 in
set_option maxHeartbeats 4000000 in
theorem cl_case_turn {γ : cb_Gam} {gx gy : cb_Geo} {l : Launch} {b L : Nat} {xs : Nat → Int32} {Rel : cb_Mem → cb_Mem → Prop} (S_turn : cs_turn Rel) (hC : cl_C γ gx gy l b L xs) {MX MY : cb_Mem} (hR : Rel MX MY) {x3 : Int32} (h1 : vp_in (x3 + 1) L) (h2 : vp_in (x3 + 2) L) (h3 : vp_in (x3 + 3) L) (h4 : vp_in (x3 + 4) L) (h5 : vp_in (x3 + 5) L) (back : ∀ MX MY, Rel MX MY → cl_J γ gx gy MX MY 1235 [(0, .ref b), (1, .ref (gx.2.1 0)), (2, .ref (gy.2.1 0)), (3, .int x3)] []) : cl_J γ gx gy MX MY 603 [(0, .ref b), (1, .ref (gx.2.1 0)), (2, .ref (gy.2.1 0)), (3, .int x3)] [] := by
  obtain ⟨r, MX', MY', e1, e2, hR'⟩ := S_turn MX MY (xs (x3 + 1).toNatClampNeg) hR
  refine cl_aload_n hC dL_law_603 rfl 1 rfl ?_
  refine cl_aload_n hC dL_law_604 rfl 0 rfl ?_
  refine cl_iload_n hC dL_law_605 rfl 3 rfl ?_
  refine cl_iconst (v := 1) hC dL_law_606 rfl ?_
  refine cl_iadd hC dL_law_607 ?_
  refine cl_sld hC h1 dL_law_608 ?_
  refine cl_callxi (As := [.int (xs (x3 + 1).toNatClampNeg)]) hC cv_L_76 rfl (c_X6_turn l gx (xs (x3 + 1).toNatClampNeg) MX e1) (by decide) rfl rfl (Nat.le_of_ble_eq_true rfl) dL_law_609 ?_
  refine cl_aload_n hC dL_law_612 rfl 2 rfl ?_
  refine cl_aload_n hC dL_law_613 rfl 0 rfl ?_
  refine cl_iload_n hC dL_law_614 rfl 3 rfl ?_
  refine cl_iconst (v := 1) hC dL_law_615 rfl ?_
  refine cl_iadd hC dL_law_616 ?_
  refine cl_sld hC h1 dL_law_617 ?_
  refine cl_callyi (As := [.int (xs (x3 + 1).toNatClampNeg)]) hC cv_L_79 rfl (c_X7_turn l gy (xs (x3 + 1).toNatClampNeg) MY e2) (by decide) rfl rfl (Nat.le_of_ble_eq_true rfl) dL_law_618 ?_
  exact cl_same (tgt := 1235) hC dL_law_621 (by decide) (back _ _ hR')
set_option maxRecDepth 100000 in
set_option maxHeartbeats 4000000 in
theorem cl_case_met {γ : cb_Gam} {gx gy : cb_Geo} {l : Launch} {b L : Nat} {xs : Nat → Int32} {Rel : cb_Mem → cb_Mem → Prop} (S_met : cs_met Rel) (hC : cl_C γ gx gy l b L xs) {MX MY : cb_Mem} (hR : Rel MX MY) {x3 : Int32} (h1 : vp_in (x3 + 1) L) (h2 : vp_in (x3 + 2) L) (h3 : vp_in (x3 + 3) L) (h4 : vp_in (x3 + 4) L) (h5 : vp_in (x3 + 5) L) (back : ∀ MX MY, Rel MX MY → cl_J γ gx gy MX MY 1235 [(0, .ref b), (1, .ref (gx.2.1 0)), (2, .ref (gy.2.1 0)), (3, .int x3)] []) : cl_J γ gx gy MX MY 626 [(0, .ref b), (1, .ref (gx.2.1 0)), (2, .ref (gy.2.1 0)), (3, .int x3)] [] := by
  obtain ⟨r, MX', MY', e1, e2, hR'⟩ := S_met MX MY hR
  refine cl_aload_n hC dL_law_626 rfl 1 rfl ?_
  refine cl_callxi (As := []) hC cv_L_80 rfl (c_X6_met l gx MX e1) (by decide) rfl rfl (Nat.le_of_ble_eq_true rfl) dL_law_627 ?_
  refine cl_aload_n hC dL_law_630 rfl 2 rfl ?_
  refine cl_callyi (As := []) hC cv_L_83 rfl (c_X7_met l gy MY e2) (by decide) rfl rfl (Nat.le_of_ble_eq_true rfl) dL_law_631 ?_
  exact cl_same (tgt := 1235) hC dL_law_634 (by decide) (back _ _ hR')
set_option maxRecDepth 100000 in
set_option maxHeartbeats 4000000 in
theorem cl_case_keep {γ : cb_Gam} {gx gy : cb_Geo} {l : Launch} {b L : Nat} {xs : Nat → Int32} {Rel : cb_Mem → cb_Mem → Prop} (S_keep : cs_keep Rel) (hC : cl_C γ gx gy l b L xs) {MX MY : cb_Mem} (hR : Rel MX MY) {x3 : Int32} (h1 : vp_in (x3 + 1) L) (h2 : vp_in (x3 + 2) L) (h3 : vp_in (x3 + 3) L) (h4 : vp_in (x3 + 4) L) (h5 : vp_in (x3 + 5) L) (back : ∀ MX MY, Rel MX MY → cl_J γ gx gy MX MY 1235 [(0, .ref b), (1, .ref (gx.2.1 0)), (2, .ref (gy.2.1 0)), (3, .int x3)] []) : cl_J γ gx gy MX MY 639 [(0, .ref b), (1, .ref (gx.2.1 0)), (2, .ref (gy.2.1 0)), (3, .int x3)] [] := by
  obtain ⟨r, MX', MY', e1, e2, hR'⟩ := S_keep MX MY (xs (x3 + 1).toNatClampNeg) (xs (x3 + 2).toNatClampNeg) hR
  refine cl_aload_n hC dL_law_639 rfl 1 rfl ?_
  refine cl_aload_n hC dL_law_640 rfl 0 rfl ?_
  refine cl_iload_n hC dL_law_641 rfl 3 rfl ?_
  refine cl_iconst (v := 1) hC dL_law_642 rfl ?_
  refine cl_iadd hC dL_law_643 ?_
  refine cl_sld hC h1 dL_law_644 ?_
  refine cl_aload_n hC dL_law_645 rfl 0 rfl ?_
  refine cl_iload_n hC dL_law_646 rfl 3 rfl ?_
  refine cl_iconst (v := 2) hC dL_law_647 rfl ?_
  refine cl_iadd hC dL_law_648 ?_
  refine cl_sld hC h2 dL_law_649 ?_
  refine cl_callxi (As := [.int (xs (x3 + 1).toNatClampNeg), .int (xs (x3 + 2).toNatClampNeg)]) hC cv_L_84 rfl (c_X6_keep l gx (xs (x3 + 1).toNatClampNeg) (xs (x3 + 2).toNatClampNeg) MX e1) (by decide) rfl rfl (Nat.le_of_ble_eq_true rfl) dL_law_650 ?_
  refine cl_aload_n hC dL_law_653 rfl 2 rfl ?_
  refine cl_aload_n hC dL_law_654 rfl 0 rfl ?_
  refine cl_iload_n hC dL_law_655 rfl 3 rfl ?_
  refine cl_iconst (v := 1) hC dL_law_656 rfl ?_
  refine cl_iadd hC dL_law_657 ?_
  refine cl_sld hC h1 dL_law_658 ?_
  refine cl_aload_n hC dL_law_659 rfl 0 rfl ?_
  refine cl_iload_n hC dL_law_660 rfl 3 rfl ?_
  refine cl_iconst (v := 2) hC dL_law_661 rfl ?_
  refine cl_iadd hC dL_law_662 ?_
  refine cl_sld hC h2 dL_law_663 ?_
  refine cl_callyi (As := [.int (xs (x3 + 1).toNatClampNeg), .int (xs (x3 + 2).toNatClampNeg)]) hC cv_L_87 rfl (c_X7_keep l gy (xs (x3 + 1).toNatClampNeg) (xs (x3 + 2).toNatClampNeg) MY e2) (by decide) rfl rfl (Nat.le_of_ble_eq_true rfl) dL_law_664 ?_
  exact cl_same (tgt := 1235) hC dL_law_667 (by decide) (back _ _ hR')
set_option maxRecDepth 100000 in
set_option maxHeartbeats 4000000 in
theorem cl_case_sow {γ : cb_Gam} {gx gy : cb_Geo} {l : Launch} {b L : Nat} {xs : Nat → Int32} {Rel : cb_Mem → cb_Mem → Prop} (S_sow : cs_sow Rel) (hC : cl_C γ gx gy l b L xs) {MX MY : cb_Mem} (hR : Rel MX MY) {x3 : Int32} (h1 : vp_in (x3 + 1) L) (h2 : vp_in (x3 + 2) L) (h3 : vp_in (x3 + 3) L) (h4 : vp_in (x3 + 4) L) (h5 : vp_in (x3 + 5) L) (back : ∀ MX MY, Rel MX MY → cl_J γ gx gy MX MY 1235 [(0, .ref b), (1, .ref (gx.2.1 0)), (2, .ref (gy.2.1 0)), (3, .int x3)] []) : cl_J γ gx gy MX MY 672 [(0, .ref b), (1, .ref (gx.2.1 0)), (2, .ref (gy.2.1 0)), (3, .int x3)] [] := by
  obtain ⟨r, MX', MY', e1, e2, hR'⟩ := S_sow MX MY (xs (x3 + 1).toNatClampNeg) (xs (x3 + 2).toNatClampNeg) hR
  refine cl_aload_n hC dL_law_672 rfl 1 rfl ?_
  refine cl_aload_n hC dL_law_673 rfl 0 rfl ?_
  refine cl_iload_n hC dL_law_674 rfl 3 rfl ?_
  refine cl_iconst (v := 1) hC dL_law_675 rfl ?_
  refine cl_iadd hC dL_law_676 ?_
  refine cl_sld hC h1 dL_law_677 ?_
  refine cl_aload_n hC dL_law_678 rfl 0 rfl ?_
  refine cl_iload_n hC dL_law_679 rfl 3 rfl ?_
  refine cl_iconst (v := 2) hC dL_law_680 rfl ?_
  refine cl_iadd hC dL_law_681 ?_
  refine cl_sld hC h2 dL_law_682 ?_
  refine cl_callxi (As := [.int (xs (x3 + 1).toNatClampNeg), .int (xs (x3 + 2).toNatClampNeg)]) hC cv_L_88 rfl (c_X6_sow l gx (xs (x3 + 1).toNatClampNeg) (xs (x3 + 2).toNatClampNeg) MX e1) (by decide) rfl rfl (Nat.le_of_ble_eq_true rfl) dL_law_683 ?_
  refine cl_aload_n hC dL_law_686 rfl 2 rfl ?_
  refine cl_aload_n hC dL_law_687 rfl 0 rfl ?_
  refine cl_iload_n hC dL_law_688 rfl 3 rfl ?_
  refine cl_iconst (v := 1) hC dL_law_689 rfl ?_
  refine cl_iadd hC dL_law_690 ?_
  refine cl_sld hC h1 dL_law_691 ?_
  refine cl_aload_n hC dL_law_692 rfl 0 rfl ?_
  refine cl_iload_n hC dL_law_693 rfl 3 rfl ?_
  refine cl_iconst (v := 2) hC dL_law_694 rfl ?_
  refine cl_iadd hC dL_law_695 ?_
  refine cl_sld hC h2 dL_law_696 ?_
  refine cl_callyi (As := [.int (xs (x3 + 1).toNatClampNeg), .int (xs (x3 + 2).toNatClampNeg)]) hC cv_L_91 rfl (c_X7_sow l gy (xs (x3 + 1).toNatClampNeg) (xs (x3 + 2).toNatClampNeg) MY e2) (by decide) rfl rfl (Nat.le_of_ble_eq_true rfl) dL_law_697 ?_
  exact cl_same (tgt := 1235) hC dL_law_700 (by decide) (back _ _ hR')
set_option maxRecDepth 100000 in
set_option maxHeartbeats 4000000 in
theorem cl_case_come {γ : cb_Gam} {gx gy : cb_Geo} {l : Launch} {b L : Nat} {xs : Nat → Int32} {Rel : cb_Mem → cb_Mem → Prop} (S_come : cs_come Rel) (hC : cl_C γ gx gy l b L xs) {MX MY : cb_Mem} (hR : Rel MX MY) {x3 : Int32} (h1 : vp_in (x3 + 1) L) (h2 : vp_in (x3 + 2) L) (h3 : vp_in (x3 + 3) L) (h4 : vp_in (x3 + 4) L) (h5 : vp_in (x3 + 5) L) (back : ∀ MX MY, Rel MX MY → cl_J γ gx gy MX MY 1235 [(0, .ref b), (1, .ref (gx.2.1 0)), (2, .ref (gy.2.1 0)), (3, .int x3)] []) : cl_J γ gx gy MX MY 705 [(0, .ref b), (1, .ref (gx.2.1 0)), (2, .ref (gy.2.1 0)), (3, .int x3)] [] := by
  obtain ⟨r, MX', MY', e1, e2, hR'⟩ := S_come MX MY (xs (x3 + 1).toNatClampNeg) (xs (x3 + 2).toNatClampNeg) hR
  refine cl_aload_n hC dL_law_705 rfl 1 rfl ?_
  refine cl_aload_n hC dL_law_706 rfl 0 rfl ?_
  refine cl_iload_n hC dL_law_707 rfl 3 rfl ?_
  refine cl_iconst (v := 1) hC dL_law_708 rfl ?_
  refine cl_iadd hC dL_law_709 ?_
  refine cl_sld hC h1 dL_law_710 ?_
  refine cl_aload_n hC dL_law_711 rfl 0 rfl ?_
  refine cl_iload_n hC dL_law_712 rfl 3 rfl ?_
  refine cl_iconst (v := 2) hC dL_law_713 rfl ?_
  refine cl_iadd hC dL_law_714 ?_
  refine cl_sld hC h2 dL_law_715 ?_
  refine cl_callxi (As := [.int (xs (x3 + 1).toNatClampNeg), .int (xs (x3 + 2).toNatClampNeg)]) hC cv_L_92 rfl (c_X6_come l gx (xs (x3 + 1).toNatClampNeg) (xs (x3 + 2).toNatClampNeg) MX e1) (by decide) rfl rfl (Nat.le_of_ble_eq_true rfl) dL_law_716 ?_
  refine cl_aload_n hC dL_law_719 rfl 2 rfl ?_
  refine cl_aload_n hC dL_law_720 rfl 0 rfl ?_
  refine cl_iload_n hC dL_law_721 rfl 3 rfl ?_
  refine cl_iconst (v := 1) hC dL_law_722 rfl ?_
  refine cl_iadd hC dL_law_723 ?_
  refine cl_sld hC h1 dL_law_724 ?_
  refine cl_aload_n hC dL_law_725 rfl 0 rfl ?_
  refine cl_iload_n hC dL_law_726 rfl 3 rfl ?_
  refine cl_iconst (v := 2) hC dL_law_727 rfl ?_
  refine cl_iadd hC dL_law_728 ?_
  refine cl_sld hC h2 dL_law_729 ?_
  refine cl_callyi (As := [.int (xs (x3 + 1).toNatClampNeg), .int (xs (x3 + 2).toNatClampNeg)]) hC cv_L_95 rfl (c_X7_come l gy (xs (x3 + 1).toNatClampNeg) (xs (x3 + 2).toNatClampNeg) MY e2) (by decide) rfl rfl (Nat.le_of_ble_eq_true rfl) dL_law_730 ?_
  exact cl_same (tgt := 1235) hC dL_law_733 (by decide) (back _ _ hR')
set_option maxRecDepth 100000 in
set_option maxHeartbeats 4000000 in
theorem cl_case_seen {γ : cb_Gam} {gx gy : cb_Geo} {l : Launch} {b L : Nat} {xs : Nat → Int32} {Rel : cb_Mem → cb_Mem → Prop} (S_seen : cs_seen Rel) (hC : cl_C γ gx gy l b L xs) {MX MY : cb_Mem} (hR : Rel MX MY) {x3 : Int32} (h1 : vp_in (x3 + 1) L) (h2 : vp_in (x3 + 2) L) (h3 : vp_in (x3 + 3) L) (h4 : vp_in (x3 + 4) L) (h5 : vp_in (x3 + 5) L) (back : ∀ MX MY, Rel MX MY → cl_J γ gx gy MX MY 1235 [(0, .ref b), (1, .ref (gx.2.1 0)), (2, .ref (gy.2.1 0)), (3, .int x3)] []) : cl_J γ gx gy MX MY 738 [(0, .ref b), (1, .ref (gx.2.1 0)), (2, .ref (gy.2.1 0)), (3, .int x3)] [] := by
  obtain ⟨r, MX', MY', e1, e2, hR'⟩ := S_seen MX MY (xs (x3 + 1).toNatClampNeg) (xs (x3 + 2).toNatClampNeg) hR
  refine cl_aload_n hC dL_law_738 rfl 1 rfl ?_
  refine cl_aload_n hC dL_law_739 rfl 0 rfl ?_
  refine cl_iload_n hC dL_law_740 rfl 3 rfl ?_
  refine cl_iconst (v := 1) hC dL_law_741 rfl ?_
  refine cl_iadd hC dL_law_742 ?_
  refine cl_sld hC h1 dL_law_743 ?_
  refine cl_aload_n hC dL_law_744 rfl 0 rfl ?_
  refine cl_iload_n hC dL_law_745 rfl 3 rfl ?_
  refine cl_iconst (v := 2) hC dL_law_746 rfl ?_
  refine cl_iadd hC dL_law_747 ?_
  refine cl_sld hC h2 dL_law_748 ?_
  refine cl_callxi (As := [.int (xs (x3 + 1).toNatClampNeg), .int (xs (x3 + 2).toNatClampNeg)]) hC cv_L_96 rfl (c_X6_seen l gx (xs (x3 + 1).toNatClampNeg) (xs (x3 + 2).toNatClampNeg) MX e1) (by decide) rfl rfl (Nat.le_of_ble_eq_true rfl) dL_law_749 ?_
  refine cl_aload_n hC dL_law_752 rfl 2 rfl ?_
  refine cl_aload_n hC dL_law_753 rfl 0 rfl ?_
  refine cl_iload_n hC dL_law_754 rfl 3 rfl ?_
  refine cl_iconst (v := 1) hC dL_law_755 rfl ?_
  refine cl_iadd hC dL_law_756 ?_
  refine cl_sld hC h1 dL_law_757 ?_
  refine cl_aload_n hC dL_law_758 rfl 0 rfl ?_
  refine cl_iload_n hC dL_law_759 rfl 3 rfl ?_
  refine cl_iconst (v := 2) hC dL_law_760 rfl ?_
  refine cl_iadd hC dL_law_761 ?_
  refine cl_sld hC h2 dL_law_762 ?_
  refine cl_callyi (As := [.int (xs (x3 + 1).toNatClampNeg), .int (xs (x3 + 2).toNatClampNeg)]) hC cv_L_99 rfl (c_X7_seen l gy (xs (x3 + 1).toNatClampNeg) (xs (x3 + 2).toNatClampNeg) MY e2) (by decide) rfl rfl (Nat.le_of_ble_eq_true rfl) dL_law_763 ?_
  exact cl_same (tgt := 1235) hC dL_law_766 (by decide) (back _ _ hR')
set_option maxRecDepth 100000 in
set_option maxHeartbeats 4000000 in
theorem cl_case_forget {γ : cb_Gam} {gx gy : cb_Geo} {l : Launch} {b L : Nat} {xs : Nat → Int32} {Rel : cb_Mem → cb_Mem → Prop} (S_forget : cs_forget Rel) (hC : cl_C γ gx gy l b L xs) {MX MY : cb_Mem} (hR : Rel MX MY) {x3 : Int32} (h1 : vp_in (x3 + 1) L) (h2 : vp_in (x3 + 2) L) (h3 : vp_in (x3 + 3) L) (h4 : vp_in (x3 + 4) L) (h5 : vp_in (x3 + 5) L) (back : ∀ MX MY, Rel MX MY → cl_J γ gx gy MX MY 1235 [(0, .ref b), (1, .ref (gx.2.1 0)), (2, .ref (gy.2.1 0)), (3, .int x3)] []) : cl_J γ gx gy MX MY 771 [(0, .ref b), (1, .ref (gx.2.1 0)), (2, .ref (gy.2.1 0)), (3, .int x3)] [] := by
  obtain ⟨r, MX', MY', e1, e2, hR'⟩ := S_forget MX MY hR
  refine cl_aload_n hC dL_law_771 rfl 1 rfl ?_
  refine cl_callxi (As := []) hC cv_L_100 rfl (c_X6_forget l gx MX e1) (by decide) rfl rfl (Nat.le_of_ble_eq_true rfl) dL_law_772 ?_
  refine cl_aload_n hC dL_law_775 rfl 2 rfl ?_
  refine cl_callyi (As := []) hC cv_L_103 rfl (c_X7_forget l gy MY e2) (by decide) rfl rfl (Nat.le_of_ble_eq_true rfl) dL_law_776 ?_
  exact cl_same (tgt := 1235) hC dL_law_779 (by decide) (back _ _ hR')
set_option maxRecDepth 100000 in
set_option maxHeartbeats 4000000 in
theorem cl_case_never {γ : cb_Gam} {gx gy : cb_Geo} {l : Launch} {b L : Nat} {xs : Nat → Int32} {Rel : cb_Mem → cb_Mem → Prop} (S_never : cs_never Rel) (hC : cl_C γ gx gy l b L xs) {MX MY : cb_Mem} (hR : Rel MX MY) {x3 : Int32} (h1 : vp_in (x3 + 1) L) (h2 : vp_in (x3 + 2) L) (h3 : vp_in (x3 + 3) L) (h4 : vp_in (x3 + 4) L) (h5 : vp_in (x3 + 5) L) (back : ∀ MX MY, Rel MX MY → cl_J γ gx gy MX MY 1235 [(0, .ref b), (1, .ref (gx.2.1 0)), (2, .ref (gy.2.1 0)), (3, .int x3)] []) : cl_J γ gx gy MX MY 784 [(0, .ref b), (1, .ref (gx.2.1 0)), (2, .ref (gy.2.1 0)), (3, .int x3)] [] := by
  obtain ⟨r, MX', MY', e1, e2, hR'⟩ := S_never MX MY hR
  refine cl_aload_n hC dL_law_784 rfl 1 rfl ?_
  refine cl_callxi (As := []) hC cv_L_104 rfl (c_X6_never l gx MX e1) (by decide) rfl rfl (Nat.le_of_ble_eq_true rfl) dL_law_785 ?_
  refine cl_aload_n hC dL_law_788 rfl 2 rfl ?_
  refine cl_callyi (As := []) hC cv_L_107 rfl (c_X7_never l gy MY e2) (by decide) rfl rfl (Nat.le_of_ble_eq_true rfl) dL_law_789 ?_
  exact cl_same (tgt := 1235) hC dL_law_792 (by decide) (back _ _ hR')
set_option maxRecDepth 100000 in
set_option maxHeartbeats 4000000 in
theorem cl_case_was {γ : cb_Gam} {gx gy : cb_Geo} {l : Launch} {b L : Nat} {xs : Nat → Int32} {Rel : cb_Mem → cb_Mem → Prop} (S_was : cs_was Rel) (hC : cl_C γ gx gy l b L xs) {MX MY : cb_Mem} (hR : Rel MX MY) {x3 : Int32} (h1 : vp_in (x3 + 1) L) (h2 : vp_in (x3 + 2) L) (h3 : vp_in (x3 + 3) L) (h4 : vp_in (x3 + 4) L) (h5 : vp_in (x3 + 5) L) (back : ∀ MX MY, Rel MX MY → cl_J γ gx gy MX MY 1235 [(0, .ref b), (1, .ref (gx.2.1 0)), (2, .ref (gy.2.1 0)), (3, .int x3)] []) : cl_J γ gx gy MX MY 797 [(0, .ref b), (1, .ref (gx.2.1 0)), (2, .ref (gy.2.1 0)), (3, .int x3)] [] := by
  obtain ⟨r, MX', MY', e1, e2, hR'⟩ := S_was MX MY (xs (x3 + 1).toNatClampNeg) (xs (x3 + 2).toNatClampNeg) hR
  refine cl_aload_n hC dL_law_797 rfl 1 rfl ?_
  refine cl_aload_n hC dL_law_798 rfl 0 rfl ?_
  refine cl_iload_n hC dL_law_799 rfl 3 rfl ?_
  refine cl_iconst (v := 1) hC dL_law_800 rfl ?_
  refine cl_iadd hC dL_law_801 ?_
  refine cl_sld hC h1 dL_law_802 ?_
  refine cl_aload_n hC dL_law_803 rfl 0 rfl ?_
  refine cl_iload_n hC dL_law_804 rfl 3 rfl ?_
  refine cl_iconst (v := 2) hC dL_law_805 rfl ?_
  refine cl_iadd hC dL_law_806 ?_
  refine cl_sld hC h2 dL_law_807 ?_
  refine cl_callxi (As := [.int (xs (x3 + 1).toNatClampNeg), .int (xs (x3 + 2).toNatClampNeg)]) hC cv_L_108 rfl (c_X6_was l gx (xs (x3 + 1).toNatClampNeg) (xs (x3 + 2).toNatClampNeg) MX e1) (by decide) rfl rfl (Nat.le_of_ble_eq_true rfl) dL_law_808 ?_
  refine cl_aload_n hC dL_law_811 rfl 2 rfl ?_
  refine cl_aload_n hC dL_law_812 rfl 0 rfl ?_
  refine cl_iload_n hC dL_law_813 rfl 3 rfl ?_
  refine cl_iconst (v := 1) hC dL_law_814 rfl ?_
  refine cl_iadd hC dL_law_815 ?_
  refine cl_sld hC h1 dL_law_816 ?_
  refine cl_aload_n hC dL_law_817 rfl 0 rfl ?_
  refine cl_iload_n hC dL_law_818 rfl 3 rfl ?_
  refine cl_iconst (v := 2) hC dL_law_819 rfl ?_
  refine cl_iadd hC dL_law_820 ?_
  refine cl_sld hC h2 dL_law_821 ?_
  refine cl_callyi (As := [.int (xs (x3 + 1).toNatClampNeg), .int (xs (x3 + 2).toNatClampNeg)]) hC cv_L_111 rfl (c_X7_was l gy (xs (x3 + 1).toNatClampNeg) (xs (x3 + 2).toNatClampNeg) MY e2) (by decide) rfl rfl (Nat.le_of_ble_eq_true rfl) dL_law_822 ?_
  exact cl_same (tgt := 1235) hC dL_law_825 (by decide) (back _ _ hR')
set_option maxRecDepth 100000 in
set_option maxHeartbeats 4000000 in
theorem cl_case_ask {γ : cb_Gam} {gx gy : cb_Geo} {l : Launch} {b L : Nat} {xs : Nat → Int32} {Rel : cb_Mem → cb_Mem → Prop} (S_ask : cs_ask Rel) (hC : cl_C γ gx gy l b L xs) {MX MY : cb_Mem} (hR : Rel MX MY) {x3 : Int32} (h1 : vp_in (x3 + 1) L) (h2 : vp_in (x3 + 2) L) (h3 : vp_in (x3 + 3) L) (h4 : vp_in (x3 + 4) L) (h5 : vp_in (x3 + 5) L) (back : ∀ MX MY, Rel MX MY → cl_J γ gx gy MX MY 1235 [(0, .ref b), (1, .ref (gx.2.1 0)), (2, .ref (gy.2.1 0)), (3, .int x3)] []) : cl_J γ gx gy MX MY 830 [(0, .ref b), (1, .ref (gx.2.1 0)), (2, .ref (gy.2.1 0)), (3, .int x3)] [] := by
  obtain ⟨r, MX', MY', e1, e2, hR'⟩ := S_ask MX MY (xs (x3 + 1).toNatClampNeg) hR
  refine cl_aload_n hC dL_law_830 rfl 1 rfl ?_
  refine cl_aload_n hC dL_law_831 rfl 0 rfl ?_
  refine cl_iload_n hC dL_law_832 rfl 3 rfl ?_
  refine cl_iconst (v := 1) hC dL_law_833 rfl ?_
  refine cl_iadd hC dL_law_834 ?_
  refine cl_sld hC h1 dL_law_835 ?_
  refine cl_callxi (As := [.int (xs (x3 + 1).toNatClampNeg)]) hC cv_L_112 rfl (c_X6_ask l gx (xs (x3 + 1).toNatClampNeg) MX e1) (by decide) rfl rfl (Nat.le_of_ble_eq_true rfl) dL_law_836 ?_
  refine cl_aload_n hC dL_law_839 rfl 2 rfl ?_
  refine cl_aload_n hC dL_law_840 rfl 0 rfl ?_
  refine cl_iload_n hC dL_law_841 rfl 3 rfl ?_
  refine cl_iconst (v := 1) hC dL_law_842 rfl ?_
  refine cl_iadd hC dL_law_843 ?_
  refine cl_sld hC h1 dL_law_844 ?_
  refine cl_callyi (As := [.int (xs (x3 + 1).toNatClampNeg)]) hC cv_L_115 rfl (c_X7_ask l gy (xs (x3 + 1).toNatClampNeg) MY e2) (by decide) rfl rfl (Nat.le_of_ble_eq_true rfl) dL_law_845 ?_
  exact cl_same (tgt := 1235) hC dL_law_848 (by decide) (back _ _ hR')
set_option maxRecDepth 100000 in
set_option maxHeartbeats 4000000 in
theorem cl_case_chill {γ : cb_Gam} {gx gy : cb_Geo} {l : Launch} {b L : Nat} {xs : Nat → Int32} {Rel : cb_Mem → cb_Mem → Prop} (S_chill : cs_chill Rel) (hC : cl_C γ gx gy l b L xs) {MX MY : cb_Mem} (hR : Rel MX MY) {x3 : Int32} (h1 : vp_in (x3 + 1) L) (h2 : vp_in (x3 + 2) L) (h3 : vp_in (x3 + 3) L) (h4 : vp_in (x3 + 4) L) (h5 : vp_in (x3 + 5) L) (back : ∀ MX MY, Rel MX MY → cl_J γ gx gy MX MY 1235 [(0, .ref b), (1, .ref (gx.2.1 0)), (2, .ref (gy.2.1 0)), (3, .int x3)] []) : cl_J γ gx gy MX MY 853 [(0, .ref b), (1, .ref (gx.2.1 0)), (2, .ref (gy.2.1 0)), (3, .int x3)] [] := by
  obtain ⟨r, MX', MY', e1, e2, hR'⟩ := S_chill MX MY (xs (x3 + 1).toNatClampNeg) (xs (x3 + 2).toNatClampNeg) (xs (x3 + 3).toNatClampNeg) (xs (x3 + 4).toNatClampNeg) hR
  refine cl_aload_n hC dL_law_853 rfl 1 rfl ?_
  refine cl_aload_n hC dL_law_854 rfl 0 rfl ?_
  refine cl_iload_n hC dL_law_855 rfl 3 rfl ?_
  refine cl_iconst (v := 1) hC dL_law_856 rfl ?_
  refine cl_iadd hC dL_law_857 ?_
  refine cl_sld hC h1 dL_law_858 ?_
  refine cl_aload_n hC dL_law_859 rfl 0 rfl ?_
  refine cl_iload_n hC dL_law_860 rfl 3 rfl ?_
  refine cl_iconst (v := 2) hC dL_law_861 rfl ?_
  refine cl_iadd hC dL_law_862 ?_
  refine cl_sld hC h2 dL_law_863 ?_
  refine cl_aload_n hC dL_law_864 rfl 0 rfl ?_
  refine cl_iload_n hC dL_law_865 rfl 3 rfl ?_
  refine cl_iconst (v := 3) hC dL_law_866 rfl ?_
  refine cl_iadd hC dL_law_867 ?_
  refine cl_sld hC h3 dL_law_868 ?_
  refine cl_aload_n hC dL_law_869 rfl 0 rfl ?_
  refine cl_iload_n hC dL_law_870 rfl 3 rfl ?_
  refine cl_iconst (v := 4) hC dL_law_871 rfl ?_
  refine cl_iadd hC dL_law_872 ?_
  refine cl_sld hC h4 dL_law_873 ?_
  refine cl_callxl (As := [.int (xs (x3 + 1).toNatClampNeg), .int (xs (x3 + 2).toNatClampNeg), .int (xs (x3 + 3).toNatClampNeg), .int (xs (x3 + 4).toNatClampNeg)]) hC cv_L_116 rfl (c_X6_chill l gx (xs (x3 + 1).toNatClampNeg) (xs (x3 + 2).toNatClampNeg) (xs (x3 + 3).toNatClampNeg) (xs (x3 + 4).toNatClampNeg) MX e1) (by decide) rfl rfl (Nat.le_of_ble_eq_true rfl) dL_law_874 ?_
  refine cl_aload_n hC dL_law_877 rfl 2 rfl ?_
  refine cl_aload_n hC dL_law_878 rfl 0 rfl ?_
  refine cl_iload_n hC dL_law_879 rfl 3 rfl ?_
  refine cl_iconst (v := 1) hC dL_law_880 rfl ?_
  refine cl_iadd hC dL_law_881 ?_
  refine cl_sld hC h1 dL_law_882 ?_
  refine cl_aload_n hC dL_law_883 rfl 0 rfl ?_
  refine cl_iload_n hC dL_law_884 rfl 3 rfl ?_
  refine cl_iconst (v := 2) hC dL_law_885 rfl ?_
  refine cl_iadd hC dL_law_886 ?_
  refine cl_sld hC h2 dL_law_887 ?_
  refine cl_aload_n hC dL_law_888 rfl 0 rfl ?_
  refine cl_iload_n hC dL_law_889 rfl 3 rfl ?_
  refine cl_iconst (v := 3) hC dL_law_890 rfl ?_
  refine cl_iadd hC dL_law_891 ?_
  refine cl_sld hC h3 dL_law_892 ?_
  refine cl_aload_n hC dL_law_893 rfl 0 rfl ?_
  refine cl_iload_n hC dL_law_894 rfl 3 rfl ?_
  refine cl_iconst (v := 4) hC dL_law_895 rfl ?_
  refine cl_iadd hC dL_law_896 ?_
  refine cl_sld hC h4 dL_law_897 ?_
  refine cl_callyl (As := [.int (xs (x3 + 1).toNatClampNeg), .int (xs (x3 + 2).toNatClampNeg), .int (xs (x3 + 3).toNatClampNeg), .int (xs (x3 + 4).toNatClampNeg)]) hC cv_L_120 rfl (c_X7_chill l gy (xs (x3 + 1).toNatClampNeg) (xs (x3 + 2).toNatClampNeg) (xs (x3 + 3).toNatClampNeg) (xs (x3 + 4).toNatClampNeg) MY e2) (by decide) rfl rfl (Nat.le_of_ble_eq_true rfl) dL_law_898 ?_
  refine cl_lcmp hC dL_law_901 ?_
  exact cl_samel (tgt := 1235) hC dL_law_902 (by decide) (back _ _ hR')
set_option maxRecDepth 100000 in
set_option maxHeartbeats 4000000 in
theorem cl_case_year {γ : cb_Gam} {gx gy : cb_Geo} {l : Launch} {b L : Nat} {xs : Nat → Int32} {Rel : cb_Mem → cb_Mem → Prop} (S_year : cs_year Rel) (hC : cl_C γ gx gy l b L xs) {MX MY : cb_Mem} (hR : Rel MX MY) {x3 : Int32} (h1 : vp_in (x3 + 1) L) (h2 : vp_in (x3 + 2) L) (h3 : vp_in (x3 + 3) L) (h4 : vp_in (x3 + 4) L) (h5 : vp_in (x3 + 5) L) (back : ∀ MX MY, Rel MX MY → cl_J γ gx gy MX MY 1235 [(0, .ref b), (1, .ref (gx.2.1 0)), (2, .ref (gy.2.1 0)), (3, .int x3)] []) : cl_J γ gx gy MX MY 907 [(0, .ref b), (1, .ref (gx.2.1 0)), (2, .ref (gy.2.1 0)), (3, .int x3)] [] := by
  obtain ⟨r, MX', MY', e1, e2, hR'⟩ := S_year MX MY (xs (x3 + 1).toNatClampNeg) (xs (x3 + 2).toNatClampNeg) hR
  refine cl_aload_n hC dL_law_907 rfl 1 rfl ?_
  refine cl_aload_n hC dL_law_908 rfl 0 rfl ?_
  refine cl_iload_n hC dL_law_909 rfl 3 rfl ?_
  refine cl_iconst (v := 1) hC dL_law_910 rfl ?_
  refine cl_iadd hC dL_law_911 ?_
  refine cl_sld hC h1 dL_law_912 ?_
  refine cl_aload_n hC dL_law_913 rfl 0 rfl ?_
  refine cl_iload_n hC dL_law_914 rfl 3 rfl ?_
  refine cl_iconst (v := 2) hC dL_law_915 rfl ?_
  refine cl_iadd hC dL_law_916 ?_
  refine cl_sld hC h2 dL_law_917 ?_
  refine cl_callxi (As := [.int (xs (x3 + 1).toNatClampNeg), .int (xs (x3 + 2).toNatClampNeg)]) hC cv_L_121 rfl (c_X6_year l gx (xs (x3 + 1).toNatClampNeg) (xs (x3 + 2).toNatClampNeg) MX e1) (by decide) rfl rfl (Nat.le_of_ble_eq_true rfl) dL_law_918 ?_
  refine cl_aload_n hC dL_law_921 rfl 2 rfl ?_
  refine cl_aload_n hC dL_law_922 rfl 0 rfl ?_
  refine cl_iload_n hC dL_law_923 rfl 3 rfl ?_
  refine cl_iconst (v := 1) hC dL_law_924 rfl ?_
  refine cl_iadd hC dL_law_925 ?_
  refine cl_sld hC h1 dL_law_926 ?_
  refine cl_aload_n hC dL_law_927 rfl 0 rfl ?_
  refine cl_iload_n hC dL_law_928 rfl 3 rfl ?_
  refine cl_iconst (v := 2) hC dL_law_929 rfl ?_
  refine cl_iadd hC dL_law_930 ?_
  refine cl_sld hC h2 dL_law_931 ?_
  refine cl_callyi (As := [.int (xs (x3 + 1).toNatClampNeg), .int (xs (x3 + 2).toNatClampNeg)]) hC cv_L_124 rfl (c_X7_year l gy (xs (x3 + 1).toNatClampNeg) (xs (x3 + 2).toNatClampNeg) MY e2) (by decide) rfl rfl (Nat.le_of_ble_eq_true rfl) dL_law_932 ?_
  exact cl_same (tgt := 1235) hC dL_law_935 (by decide) (back _ _ hR')
set_option maxRecDepth 100000 in
set_option maxHeartbeats 4000000 in
theorem cl_case_sheet {γ : cb_Gam} {gx gy : cb_Geo} {l : Launch} {b L : Nat} {xs : Nat → Int32} {Rel : cb_Mem → cb_Mem → Prop} (S_sheet : cs_sheet Rel) (hC : cl_C γ gx gy l b L xs) {MX MY : cb_Mem} (hR : Rel MX MY) {x3 : Int32} (h1 : vp_in (x3 + 1) L) (h2 : vp_in (x3 + 2) L) (h3 : vp_in (x3 + 3) L) (h4 : vp_in (x3 + 4) L) (h5 : vp_in (x3 + 5) L) (back : ∀ MX MY, Rel MX MY → cl_J γ gx gy MX MY 1235 [(0, .ref b), (1, .ref (gx.2.1 0)), (2, .ref (gy.2.1 0)), (3, .int x3)] []) : cl_J γ gx gy MX MY 940 [(0, .ref b), (1, .ref (gx.2.1 0)), (2, .ref (gy.2.1 0)), (3, .int x3)] [] := by
  obtain ⟨r, MX', MY', e1, e2, hR'⟩ := S_sheet MX MY (xs (x3 + 1).toNatClampNeg) (xs (x3 + 2).toNatClampNeg) (xs (x3 + 3).toNatClampNeg) hR
  refine cl_aload_n hC dL_law_940 rfl 1 rfl ?_
  refine cl_aload_n hC dL_law_941 rfl 0 rfl ?_
  refine cl_iload_n hC dL_law_942 rfl 3 rfl ?_
  refine cl_iconst (v := 1) hC dL_law_943 rfl ?_
  refine cl_iadd hC dL_law_944 ?_
  refine cl_sld hC h1 dL_law_945 ?_
  refine cl_aload_n hC dL_law_946 rfl 0 rfl ?_
  refine cl_iload_n hC dL_law_947 rfl 3 rfl ?_
  refine cl_iconst (v := 2) hC dL_law_948 rfl ?_
  refine cl_iadd hC dL_law_949 ?_
  refine cl_sld hC h2 dL_law_950 ?_
  refine cl_aload_n hC dL_law_951 rfl 0 rfl ?_
  refine cl_iload_n hC dL_law_952 rfl 3 rfl ?_
  refine cl_iconst (v := 3) hC dL_law_953 rfl ?_
  refine cl_iadd hC dL_law_954 ?_
  refine cl_sld hC h3 dL_law_955 ?_
  refine cl_callxi (As := [.int (xs (x3 + 1).toNatClampNeg), .int (xs (x3 + 2).toNatClampNeg), .int (xs (x3 + 3).toNatClampNeg)]) hC cv_L_125 rfl (c_X6_sheet l gx (xs (x3 + 1).toNatClampNeg) (xs (x3 + 2).toNatClampNeg) (xs (x3 + 3).toNatClampNeg) MX e1) (by decide) rfl rfl (Nat.le_of_ble_eq_true rfl) dL_law_956 ?_
  refine cl_aload_n hC dL_law_959 rfl 2 rfl ?_
  refine cl_aload_n hC dL_law_960 rfl 0 rfl ?_
  refine cl_iload_n hC dL_law_961 rfl 3 rfl ?_
  refine cl_iconst (v := 1) hC dL_law_962 rfl ?_
  refine cl_iadd hC dL_law_963 ?_
  refine cl_sld hC h1 dL_law_964 ?_
  refine cl_aload_n hC dL_law_965 rfl 0 rfl ?_
  refine cl_iload_n hC dL_law_966 rfl 3 rfl ?_
  refine cl_iconst (v := 2) hC dL_law_967 rfl ?_
  refine cl_iadd hC dL_law_968 ?_
  refine cl_sld hC h2 dL_law_969 ?_
  refine cl_aload_n hC dL_law_970 rfl 0 rfl ?_
  refine cl_iload_n hC dL_law_971 rfl 3 rfl ?_
  refine cl_iconst (v := 3) hC dL_law_972 rfl ?_
  refine cl_iadd hC dL_law_973 ?_
  refine cl_sld hC h3 dL_law_974 ?_
  refine cl_callyi (As := [.int (xs (x3 + 1).toNatClampNeg), .int (xs (x3 + 2).toNatClampNeg), .int (xs (x3 + 3).toNatClampNeg)]) hC cv_L_129 rfl (c_X7_sheet l gy (xs (x3 + 1).toNatClampNeg) (xs (x3 + 2).toNatClampNeg) (xs (x3 + 3).toNatClampNeg) MY e2) (by decide) rfl rfl (Nat.le_of_ble_eq_true rfl) dL_law_975 ?_
  exact cl_same (tgt := 1235) hC dL_law_978 (by decide) (back _ _ hR')
set_option maxRecDepth 100000 in
set_option maxHeartbeats 4000000 in
theorem cl_case_lose {γ : cb_Gam} {gx gy : cb_Geo} {l : Launch} {b L : Nat} {xs : Nat → Int32} {Rel : cb_Mem → cb_Mem → Prop} (S_lose : cs_lose Rel) (hC : cl_C γ gx gy l b L xs) {MX MY : cb_Mem} (hR : Rel MX MY) {x3 : Int32} (h1 : vp_in (x3 + 1) L) (h2 : vp_in (x3 + 2) L) (h3 : vp_in (x3 + 3) L) (h4 : vp_in (x3 + 4) L) (h5 : vp_in (x3 + 5) L) (back : ∀ MX MY, Rel MX MY → cl_J γ gx gy MX MY 1235 [(0, .ref b), (1, .ref (gx.2.1 0)), (2, .ref (gy.2.1 0)), (3, .int x3)] []) : cl_J γ gx gy MX MY 983 [(0, .ref b), (1, .ref (gx.2.1 0)), (2, .ref (gy.2.1 0)), (3, .int x3)] [] := by
  obtain ⟨r, MX', MY', e1, e2, hR'⟩ := S_lose MX MY (xs (x3 + 1).toNatClampNeg) hR
  refine cl_aload_n hC dL_law_983 rfl 1 rfl ?_
  refine cl_aload_n hC dL_law_984 rfl 0 rfl ?_
  refine cl_iload_n hC dL_law_985 rfl 3 rfl ?_
  refine cl_iconst (v := 1) hC dL_law_986 rfl ?_
  refine cl_iadd hC dL_law_987 ?_
  refine cl_sld hC h1 dL_law_988 ?_
  refine cl_callxi (As := [.int (xs (x3 + 1).toNatClampNeg)]) hC cv_L_130 rfl (c_X6_lose l gx (xs (x3 + 1).toNatClampNeg) MX e1) (by decide) rfl rfl (Nat.le_of_ble_eq_true rfl) dL_law_989 ?_
  refine cl_aload_n hC dL_law_992 rfl 2 rfl ?_
  refine cl_aload_n hC dL_law_993 rfl 0 rfl ?_
  refine cl_iload_n hC dL_law_994 rfl 3 rfl ?_
  refine cl_iconst (v := 1) hC dL_law_995 rfl ?_
  refine cl_iadd hC dL_law_996 ?_
  refine cl_sld hC h1 dL_law_997 ?_
  refine cl_callyi (As := [.int (xs (x3 + 1).toNatClampNeg)]) hC cv_L_133 rfl (c_X7_lose l gy (xs (x3 + 1).toNatClampNeg) MY e2) (by decide) rfl rfl (Nat.le_of_ble_eq_true rfl) dL_law_998 ?_
  exact cl_same (tgt := 1235) hC dL_law_1001 (by decide) (back _ _ hR')
set_option maxRecDepth 100000 in
set_option maxHeartbeats 4000000 in
theorem cl_case_lay {γ : cb_Gam} {gx gy : cb_Geo} {l : Launch} {b L : Nat} {xs : Nat → Int32} {Rel : cb_Mem → cb_Mem → Prop} (S_lay : cs_lay Rel) (hC : cl_C γ gx gy l b L xs) {MX MY : cb_Mem} (hR : Rel MX MY) {x3 : Int32} (h1 : vp_in (x3 + 1) L) (h2 : vp_in (x3 + 2) L) (h3 : vp_in (x3 + 3) L) (h4 : vp_in (x3 + 4) L) (h5 : vp_in (x3 + 5) L) (back : ∀ MX MY, Rel MX MY → cl_J γ gx gy MX MY 1235 [(0, .ref b), (1, .ref (gx.2.1 0)), (2, .ref (gy.2.1 0)), (3, .int x3)] []) : cl_J γ gx gy MX MY 1006 [(0, .ref b), (1, .ref (gx.2.1 0)), (2, .ref (gy.2.1 0)), (3, .int x3)] [] := by
  obtain ⟨r, MX', MY', e1, e2, hR'⟩ := S_lay MX MY (xs (x3 + 1).toNatClampNeg) (xs (x3 + 2).toNatClampNeg) (xs (x3 + 3).toNatClampNeg) (xs (x3 + 4).toNatClampNeg) hR
  refine cl_aload_n hC dL_law_1006 rfl 1 rfl ?_
  refine cl_aload_n hC dL_law_1007 rfl 0 rfl ?_
  refine cl_iload_n hC dL_law_1008 rfl 3 rfl ?_
  refine cl_iconst (v := 1) hC dL_law_1009 rfl ?_
  refine cl_iadd hC dL_law_1010 ?_
  refine cl_sld hC h1 dL_law_1011 ?_
  refine cl_aload_n hC dL_law_1012 rfl 0 rfl ?_
  refine cl_iload_n hC dL_law_1013 rfl 3 rfl ?_
  refine cl_iconst (v := 2) hC dL_law_1014 rfl ?_
  refine cl_iadd hC dL_law_1015 ?_
  refine cl_sld hC h2 dL_law_1016 ?_
  refine cl_aload_n hC dL_law_1017 rfl 0 rfl ?_
  refine cl_iload_n hC dL_law_1018 rfl 3 rfl ?_
  refine cl_iconst (v := 3) hC dL_law_1019 rfl ?_
  refine cl_iadd hC dL_law_1020 ?_
  refine cl_sld hC h3 dL_law_1021 ?_
  refine cl_aload_n hC dL_law_1022 rfl 0 rfl ?_
  refine cl_iload_n hC dL_law_1023 rfl 3 rfl ?_
  refine cl_iconst (v := 4) hC dL_law_1024 rfl ?_
  refine cl_iadd hC dL_law_1025 ?_
  refine cl_sld hC h4 dL_law_1026 ?_
  refine cl_callxi (As := [.int (xs (x3 + 1).toNatClampNeg), .int (xs (x3 + 2).toNatClampNeg), .int (xs (x3 + 3).toNatClampNeg), .int (xs (x3 + 4).toNatClampNeg)]) hC cv_L_134 rfl (c_X6_lay l gx (xs (x3 + 1).toNatClampNeg) (xs (x3 + 2).toNatClampNeg) (xs (x3 + 3).toNatClampNeg) (xs (x3 + 4).toNatClampNeg) MX e1) (by decide) rfl rfl (Nat.le_of_ble_eq_true rfl) dL_law_1027 ?_
  refine cl_aload_n hC dL_law_1030 rfl 2 rfl ?_
  refine cl_aload_n hC dL_law_1031 rfl 0 rfl ?_
  refine cl_iload_n hC dL_law_1032 rfl 3 rfl ?_
  refine cl_iconst (v := 1) hC dL_law_1033 rfl ?_
  refine cl_iadd hC dL_law_1034 ?_
  refine cl_sld hC h1 dL_law_1035 ?_
  refine cl_aload_n hC dL_law_1036 rfl 0 rfl ?_
  refine cl_iload_n hC dL_law_1037 rfl 3 rfl ?_
  refine cl_iconst (v := 2) hC dL_law_1038 rfl ?_
  refine cl_iadd hC dL_law_1039 ?_
  refine cl_sld hC h2 dL_law_1040 ?_
  refine cl_aload_n hC dL_law_1041 rfl 0 rfl ?_
  refine cl_iload_n hC dL_law_1042 rfl 3 rfl ?_
  refine cl_iconst (v := 3) hC dL_law_1043 rfl ?_
  refine cl_iadd hC dL_law_1044 ?_
  refine cl_sld hC h3 dL_law_1045 ?_
  refine cl_aload_n hC dL_law_1046 rfl 0 rfl ?_
  refine cl_iload_n hC dL_law_1047 rfl 3 rfl ?_
  refine cl_iconst (v := 4) hC dL_law_1048 rfl ?_
  refine cl_iadd hC dL_law_1049 ?_
  refine cl_sld hC h4 dL_law_1050 ?_
  refine cl_callyi (As := [.int (xs (x3 + 1).toNatClampNeg), .int (xs (x3 + 2).toNatClampNeg), .int (xs (x3 + 3).toNatClampNeg), .int (xs (x3 + 4).toNatClampNeg)]) hC cv_L_138 rfl (c_X7_lay l gy (xs (x3 + 1).toNatClampNeg) (xs (x3 + 2).toNatClampNeg) (xs (x3 + 3).toNatClampNeg) (xs (x3 + 4).toNatClampNeg) MY e2) (by decide) rfl rfl (Nat.le_of_ble_eq_true rfl) dL_law_1051 ?_
  exact cl_same (tgt := 1235) hC dL_law_1054 (by decide) (back _ _ hR')
set_option maxRecDepth 100000 in
set_option maxHeartbeats 4000000 in
theorem cl_case_get {γ : cb_Gam} {gx gy : cb_Geo} {l : Launch} {b L : Nat} {xs : Nat → Int32} {Rel : cb_Mem → cb_Mem → Prop} (S_get : cs_get Rel) (hC : cl_C γ gx gy l b L xs) {MX MY : cb_Mem} (hR : Rel MX MY) {x3 : Int32} (h1 : vp_in (x3 + 1) L) (h2 : vp_in (x3 + 2) L) (h3 : vp_in (x3 + 3) L) (h4 : vp_in (x3 + 4) L) (h5 : vp_in (x3 + 5) L) (back : ∀ MX MY, Rel MX MY → cl_J γ gx gy MX MY 1235 [(0, .ref b), (1, .ref (gx.2.1 0)), (2, .ref (gy.2.1 0)), (3, .int x3)] []) : cl_J γ gx gy MX MY 1059 [(0, .ref b), (1, .ref (gx.2.1 0)), (2, .ref (gy.2.1 0)), (3, .int x3)] [] := by
  obtain ⟨r, MX', MY', e1, e2, hR'⟩ := S_get MX MY (xs (x3 + 1).toNatClampNeg) (xs (x3 + 2).toNatClampNeg) (xs (x3 + 3).toNatClampNeg) hR
  refine cl_aload_n hC dL_law_1059 rfl 1 rfl ?_
  refine cl_aload_n hC dL_law_1060 rfl 0 rfl ?_
  refine cl_iload_n hC dL_law_1061 rfl 3 rfl ?_
  refine cl_iconst (v := 1) hC dL_law_1062 rfl ?_
  refine cl_iadd hC dL_law_1063 ?_
  refine cl_sld hC h1 dL_law_1064 ?_
  refine cl_aload_n hC dL_law_1065 rfl 0 rfl ?_
  refine cl_iload_n hC dL_law_1066 rfl 3 rfl ?_
  refine cl_iconst (v := 2) hC dL_law_1067 rfl ?_
  refine cl_iadd hC dL_law_1068 ?_
  refine cl_sld hC h2 dL_law_1069 ?_
  refine cl_aload_n hC dL_law_1070 rfl 0 rfl ?_
  refine cl_iload_n hC dL_law_1071 rfl 3 rfl ?_
  refine cl_iconst (v := 3) hC dL_law_1072 rfl ?_
  refine cl_iadd hC dL_law_1073 ?_
  refine cl_sld hC h3 dL_law_1074 ?_
  refine cl_callxi (As := [.int (xs (x3 + 1).toNatClampNeg), .int (xs (x3 + 2).toNatClampNeg), .int (xs (x3 + 3).toNatClampNeg)]) hC cv_L_139 rfl (c_X6_get l gx (xs (x3 + 1).toNatClampNeg) (xs (x3 + 2).toNatClampNeg) (xs (x3 + 3).toNatClampNeg) MX e1) (by decide) rfl rfl (Nat.le_of_ble_eq_true rfl) dL_law_1075 ?_
  refine cl_aload_n hC dL_law_1078 rfl 2 rfl ?_
  refine cl_aload_n hC dL_law_1079 rfl 0 rfl ?_
  refine cl_iload_n hC dL_law_1080 rfl 3 rfl ?_
  refine cl_iconst (v := 1) hC dL_law_1081 rfl ?_
  refine cl_iadd hC dL_law_1082 ?_
  refine cl_sld hC h1 dL_law_1083 ?_
  refine cl_aload_n hC dL_law_1084 rfl 0 rfl ?_
  refine cl_iload_n hC dL_law_1085 rfl 3 rfl ?_
  refine cl_iconst (v := 2) hC dL_law_1086 rfl ?_
  refine cl_iadd hC dL_law_1087 ?_
  refine cl_sld hC h2 dL_law_1088 ?_
  refine cl_aload_n hC dL_law_1089 rfl 0 rfl ?_
  refine cl_iload_n hC dL_law_1090 rfl 3 rfl ?_
  refine cl_iconst (v := 3) hC dL_law_1091 rfl ?_
  refine cl_iadd hC dL_law_1092 ?_
  refine cl_sld hC h3 dL_law_1093 ?_
  refine cl_callyi (As := [.int (xs (x3 + 1).toNatClampNeg), .int (xs (x3 + 2).toNatClampNeg), .int (xs (x3 + 3).toNatClampNeg)]) hC cv_L_142 rfl (c_X7_get l gy (xs (x3 + 1).toNatClampNeg) (xs (x3 + 2).toNatClampNeg) (xs (x3 + 3).toNatClampNeg) MY e2) (by decide) rfl rfl (Nat.le_of_ble_eq_true rfl) dL_law_1094 ?_
  exact cl_same (tgt := 1235) hC dL_law_1097 (by decide) (back _ _ hR')
set_option maxRecDepth 100000 in
set_option maxHeartbeats 4000000 in
theorem cl_case_copy {γ : cb_Gam} {gx gy : cb_Geo} {l : Launch} {b L : Nat} {xs : Nat → Int32} {Rel : cb_Mem → cb_Mem → Prop} (S_copy : cs_copy Rel) (hC : cl_C γ gx gy l b L xs) {MX MY : cb_Mem} (hR : Rel MX MY) {x3 : Int32} (h1 : vp_in (x3 + 1) L) (h2 : vp_in (x3 + 2) L) (h3 : vp_in (x3 + 3) L) (h4 : vp_in (x3 + 4) L) (h5 : vp_in (x3 + 5) L) (back : ∀ MX MY, Rel MX MY → cl_J γ gx gy MX MY 1235 [(0, .ref b), (1, .ref (gx.2.1 0)), (2, .ref (gy.2.1 0)), (3, .int x3)] []) : cl_J γ gx gy MX MY 1102 [(0, .ref b), (1, .ref (gx.2.1 0)), (2, .ref (gy.2.1 0)), (3, .int x3)] [] := by
  obtain ⟨r, MX', MY', e1, e2, hR'⟩ := S_copy MX MY (xs (x3 + 1).toNatClampNeg) (xs (x3 + 2).toNatClampNeg) (xs (x3 + 3).toNatClampNeg) (xs (x3 + 4).toNatClampNeg) (xs (x3 + 5).toNatClampNeg) hR
  refine cl_aload_n hC dL_law_1102 rfl 1 rfl ?_
  refine cl_aload_n hC dL_law_1103 rfl 0 rfl ?_
  refine cl_iload_n hC dL_law_1104 rfl 3 rfl ?_
  refine cl_iconst (v := 1) hC dL_law_1105 rfl ?_
  refine cl_iadd hC dL_law_1106 ?_
  refine cl_sld hC h1 dL_law_1107 ?_
  refine cl_aload_n hC dL_law_1108 rfl 0 rfl ?_
  refine cl_iload_n hC dL_law_1109 rfl 3 rfl ?_
  refine cl_iconst (v := 2) hC dL_law_1110 rfl ?_
  refine cl_iadd hC dL_law_1111 ?_
  refine cl_sld hC h2 dL_law_1112 ?_
  refine cl_aload_n hC dL_law_1113 rfl 0 rfl ?_
  refine cl_iload_n hC dL_law_1114 rfl 3 rfl ?_
  refine cl_iconst (v := 3) hC dL_law_1115 rfl ?_
  refine cl_iadd hC dL_law_1116 ?_
  refine cl_sld hC h3 dL_law_1117 ?_
  refine cl_aload_n hC dL_law_1118 rfl 0 rfl ?_
  refine cl_iload_n hC dL_law_1119 rfl 3 rfl ?_
  refine cl_iconst (v := 4) hC dL_law_1120 rfl ?_
  refine cl_iadd hC dL_law_1121 ?_
  refine cl_sld hC h4 dL_law_1122 ?_
  refine cl_aload_n hC dL_law_1123 rfl 0 rfl ?_
  refine cl_iload_n hC dL_law_1124 rfl 3 rfl ?_
  refine cl_iconst (v := 5) hC dL_law_1125 rfl ?_
  refine cl_iadd hC dL_law_1126 ?_
  refine cl_sld hC h5 dL_law_1127 ?_
  refine cl_callxi (As := [.int (xs (x3 + 1).toNatClampNeg), .int (xs (x3 + 2).toNatClampNeg), .int (xs (x3 + 3).toNatClampNeg), .int (xs (x3 + 4).toNatClampNeg), .int (xs (x3 + 5).toNatClampNeg)]) hC cv_L_143 rfl (c_X6_copy l gx (xs (x3 + 1).toNatClampNeg) (xs (x3 + 2).toNatClampNeg) (xs (x3 + 3).toNatClampNeg) (xs (x3 + 4).toNatClampNeg) (xs (x3 + 5).toNatClampNeg) MX e1) (by decide) rfl rfl (Nat.le_of_ble_eq_true rfl) dL_law_1128 ?_
  refine cl_aload_n hC dL_law_1131 rfl 2 rfl ?_
  refine cl_aload_n hC dL_law_1132 rfl 0 rfl ?_
  refine cl_iload_n hC dL_law_1133 rfl 3 rfl ?_
  refine cl_iconst (v := 1) hC dL_law_1134 rfl ?_
  refine cl_iadd hC dL_law_1135 ?_
  refine cl_sld hC h1 dL_law_1136 ?_
  refine cl_aload_n hC dL_law_1137 rfl 0 rfl ?_
  refine cl_iload_n hC dL_law_1138 rfl 3 rfl ?_
  refine cl_iconst (v := 2) hC dL_law_1139 rfl ?_
  refine cl_iadd hC dL_law_1140 ?_
  refine cl_sld hC h2 dL_law_1141 ?_
  refine cl_aload_n hC dL_law_1142 rfl 0 rfl ?_
  refine cl_iload_n hC dL_law_1143 rfl 3 rfl ?_
  refine cl_iconst (v := 3) hC dL_law_1144 rfl ?_
  refine cl_iadd hC dL_law_1145 ?_
  refine cl_sld hC h3 dL_law_1146 ?_
  refine cl_aload_n hC dL_law_1147 rfl 0 rfl ?_
  refine cl_iload_n hC dL_law_1148 rfl 3 rfl ?_
  refine cl_iconst (v := 4) hC dL_law_1149 rfl ?_
  refine cl_iadd hC dL_law_1150 ?_
  refine cl_sld hC h4 dL_law_1151 ?_
  refine cl_aload_n hC dL_law_1152 rfl 0 rfl ?_
  refine cl_iload_n hC dL_law_1153 rfl 3 rfl ?_
  refine cl_iconst (v := 5) hC dL_law_1154 rfl ?_
  refine cl_iadd hC dL_law_1155 ?_
  refine cl_sld hC h5 dL_law_1156 ?_
  refine cl_callyi (As := [.int (xs (x3 + 1).toNatClampNeg), .int (xs (x3 + 2).toNatClampNeg), .int (xs (x3 + 3).toNatClampNeg), .int (xs (x3 + 4).toNatClampNeg), .int (xs (x3 + 5).toNatClampNeg)]) hC cv_L_147 rfl (c_X7_copy l gy (xs (x3 + 1).toNatClampNeg) (xs (x3 + 2).toNatClampNeg) (xs (x3 + 3).toNatClampNeg) (xs (x3 + 4).toNatClampNeg) (xs (x3 + 5).toNatClampNeg) MY e2) (by decide) rfl rfl (Nat.le_of_ble_eq_true rfl) dL_law_1157 ?_
  exact cl_same (tgt := 1235) hC dL_law_1160 (by decide) (back _ _ hR')
set_option maxRecDepth 100000 in
set_option maxHeartbeats 4000000 in
theorem cl_case_write {γ : cb_Gam} {gx gy : cb_Geo} {l : Launch} {b L : Nat} {xs : Nat → Int32} {Rel : cb_Mem → cb_Mem → Prop} (S_write : cs_write Rel) (hC : cl_C γ gx gy l b L xs) {MX MY : cb_Mem} (hR : Rel MX MY) {x3 : Int32} (h1 : vp_in (x3 + 1) L) (h2 : vp_in (x3 + 2) L) (h3 : vp_in (x3 + 3) L) (h4 : vp_in (x3 + 4) L) (h5 : vp_in (x3 + 5) L) (back : ∀ MX MY, Rel MX MY → cl_J γ gx gy MX MY 1235 [(0, .ref b), (1, .ref (gx.2.1 0)), (2, .ref (gy.2.1 0)), (3, .int x3)] []) : cl_J γ gx gy MX MY 1165 [(0, .ref b), (1, .ref (gx.2.1 0)), (2, .ref (gy.2.1 0)), (3, .int x3)] [] := by
  obtain ⟨r, MX', MY', e1, e2, hR'⟩ := S_write MX MY (xs (x3 + 1).toNatClampNeg) (xs (x3 + 2).toNatClampNeg) hR
  refine cl_aload_n hC dL_law_1165 rfl 1 rfl ?_
  refine cl_aload_n hC dL_law_1166 rfl 0 rfl ?_
  refine cl_iload_n hC dL_law_1167 rfl 3 rfl ?_
  refine cl_iconst (v := 1) hC dL_law_1168 rfl ?_
  refine cl_iadd hC dL_law_1169 ?_
  refine cl_sld hC h1 dL_law_1170 ?_
  refine cl_aload_n hC dL_law_1171 rfl 0 rfl ?_
  refine cl_iload_n hC dL_law_1172 rfl 3 rfl ?_
  refine cl_iconst (v := 2) hC dL_law_1173 rfl ?_
  refine cl_iadd hC dL_law_1174 ?_
  refine cl_sld hC h2 dL_law_1175 ?_
  refine cl_callxi (As := [.int (xs (x3 + 1).toNatClampNeg), .int (xs (x3 + 2).toNatClampNeg)]) hC cv_L_148 rfl (c_X6_write l gx (xs (x3 + 1).toNatClampNeg) (xs (x3 + 2).toNatClampNeg) MX e1) (by decide) rfl rfl (Nat.le_of_ble_eq_true rfl) dL_law_1176 ?_
  refine cl_aload_n hC dL_law_1179 rfl 2 rfl ?_
  refine cl_aload_n hC dL_law_1180 rfl 0 rfl ?_
  refine cl_iload_n hC dL_law_1181 rfl 3 rfl ?_
  refine cl_iconst (v := 1) hC dL_law_1182 rfl ?_
  refine cl_iadd hC dL_law_1183 ?_
  refine cl_sld hC h1 dL_law_1184 ?_
  refine cl_aload_n hC dL_law_1185 rfl 0 rfl ?_
  refine cl_iload_n hC dL_law_1186 rfl 3 rfl ?_
  refine cl_iconst (v := 2) hC dL_law_1187 rfl ?_
  refine cl_iadd hC dL_law_1188 ?_
  refine cl_sld hC h2 dL_law_1189 ?_
  refine cl_callyi (As := [.int (xs (x3 + 1).toNatClampNeg), .int (xs (x3 + 2).toNatClampNeg)]) hC cv_L_151 rfl (c_X7_write l gy (xs (x3 + 1).toNatClampNeg) (xs (x3 + 2).toNatClampNeg) MY e2) (by decide) rfl rfl (Nat.le_of_ble_eq_true rfl) dL_law_1190 ?_
  exact cl_same (tgt := 1235) hC dL_law_1193 (by decide) (back _ _ hR')
set_option maxRecDepth 100000 in
set_option maxHeartbeats 4000000 in
theorem cl_case_count {γ : cb_Gam} {gx gy : cb_Geo} {l : Launch} {b L : Nat} {xs : Nat → Int32} {Rel : cb_Mem → cb_Mem → Prop} (S_count : cs_count Rel) (hC : cl_C γ gx gy l b L xs) {MX MY : cb_Mem} (hR : Rel MX MY) {x3 : Int32} (h1 : vp_in (x3 + 1) L) (h2 : vp_in (x3 + 2) L) (h3 : vp_in (x3 + 3) L) (h4 : vp_in (x3 + 4) L) (h5 : vp_in (x3 + 5) L) (back : ∀ MX MY, Rel MX MY → cl_J γ gx gy MX MY 1235 [(0, .ref b), (1, .ref (gx.2.1 0)), (2, .ref (gy.2.1 0)), (3, .int x3)] []) : cl_J γ gx gy MX MY 1198 [(0, .ref b), (1, .ref (gx.2.1 0)), (2, .ref (gy.2.1 0)), (3, .int x3)] [] := by
  obtain ⟨r, MX', MY', e1, e2, hR'⟩ := S_count MX MY (xs (x3 + 1).toNatClampNeg) hR
  refine cl_aload_n hC dL_law_1198 rfl 1 rfl ?_
  refine cl_aload_n hC dL_law_1199 rfl 0 rfl ?_
  refine cl_iload_n hC dL_law_1200 rfl 3 rfl ?_
  refine cl_iconst (v := 1) hC dL_law_1201 rfl ?_
  refine cl_iadd hC dL_law_1202 ?_
  refine cl_sld hC h1 dL_law_1203 ?_
  refine cl_callxi (As := [.int (xs (x3 + 1).toNatClampNeg)]) hC cv_L_152 rfl (c_X6_count l gx (xs (x3 + 1).toNatClampNeg) MX e1) (by decide) rfl rfl (Nat.le_of_ble_eq_true rfl) dL_law_1204 ?_
  refine cl_aload_n hC dL_law_1207 rfl 2 rfl ?_
  refine cl_aload_n hC dL_law_1208 rfl 0 rfl ?_
  refine cl_iload_n hC dL_law_1209 rfl 3 rfl ?_
  refine cl_iconst (v := 1) hC dL_law_1210 rfl ?_
  refine cl_iadd hC dL_law_1211 ?_
  refine cl_sld hC h1 dL_law_1212 ?_
  refine cl_callyi (As := [.int (xs (x3 + 1).toNatClampNeg)]) hC cv_L_155 rfl (c_X7_count l gy (xs (x3 + 1).toNatClampNeg) MY e2) (by decide) rfl rfl (Nat.le_of_ble_eq_true rfl) dL_law_1213 ?_
  exact cl_same (tgt := 1235) hC dL_law_1216 (by decide) (back _ _ hR')
set_option maxRecDepth 100000 in
set_option maxHeartbeats 4000000 in
theorem cl_case_digest {γ : cb_Gam} {gx gy : cb_Geo} {l : Launch} {b L : Nat} {xs : Nat → Int32} {Rel : cb_Mem → cb_Mem → Prop} (S_digest : cs_digest Rel) (hC : cl_C γ gx gy l b L xs) {MX MY : cb_Mem} (hR : Rel MX MY) {x3 : Int32} (h1 : vp_in (x3 + 1) L) (h2 : vp_in (x3 + 2) L) (h3 : vp_in (x3 + 3) L) (h4 : vp_in (x3 + 4) L) (h5 : vp_in (x3 + 5) L) (back : ∀ MX MY, Rel MX MY → cl_J γ gx gy MX MY 1235 [(0, .ref b), (1, .ref (gx.2.1 0)), (2, .ref (gy.2.1 0)), (3, .int x3)] []) : cl_J γ gx gy MX MY 1221 [(0, .ref b), (1, .ref (gx.2.1 0)), (2, .ref (gy.2.1 0)), (3, .int x3)] [] := by
  obtain ⟨r, MX', MY', e1, e2, hR'⟩ := S_digest MX MY hR
  refine cl_aload_n hC dL_law_1221 rfl 1 rfl ?_
  refine cl_callxl (As := []) hC cv_L_156 rfl (c_X6_digest l gx MX e1) (by decide) rfl rfl (Nat.le_of_ble_eq_true rfl) dL_law_1222 ?_
  refine cl_aload_n hC dL_law_1225 rfl 2 rfl ?_
  refine cl_callyl (As := []) hC cv_L_160 rfl (c_X7_digest l gy MY e2) (by decide) rfl rfl (Nat.le_of_ble_eq_true rfl) dL_law_1226 ?_
  refine cl_lcmp hC dL_law_1229 ?_
  exact cl_samel (tgt := 1235) hC dL_law_1230 (by decide) (back _ _ hR')
theorem cl_le {t L : Nat} (h : ¬ Int32.ofNat L - 6 < nI (6 * t)) (ht : 6 * t ≤ L) (hL : L ≤ 3072) : 6 * t + 6 ≤ L := by
  rcases Nat.lt_or_ge L (6 * t + 6) with q | q
  · exfalso
    apply h
    have e : (Int32.ofNat L - 6).toInt = (L : Int) - 6 := pk_sub_toInt (a := L) (b := 6) (by omega) (by decide)
    rw [Int32.lt_iff_toInt_lt, e, nI_toInt (by omega)]
    omega
  · exact q
set_option maxRecDepth 100000 in
set_option maxHeartbeats 4000000 in
theorem cl_loop {γ : cb_Gam} {gx gy : cb_Geo} {l : Launch} {b L : Nat} {xs : Nat → Int32} {Rel : cb_Mem → cb_Mem → Prop} (SA : cs_all Rel) (hL : L ≤ 3072) (hC : cl_C γ gx gy l b L xs) (hend : ∀ (MX MY : cb_Mem) (x3 : Int32), cl_J γ gx gy MX MY 1241 [(0, .ref b), (1, .ref (gx.2.1 0)), (2, .ref (gy.2.1 0)), (3, .int x3)] []) : ∀ (n t : Nat) (x3 : Int32) (MX MY : cb_Mem), L < t + n → x3 = nI (6 * t) → 6 * t ≤ L → Rel MX MY → cl_J γ gx gy MX MY 18 [(0, .ref b), (1, .ref (gx.2.1 0)), (2, .ref (gy.2.1 0)), (3, .int x3)] [] := by
  intro n
  induction n with
  | zero =>
    intro t x3 MX MY ht _ _ _
    omega
  | succ n ih =>
    intro t x3 MX MY htn e3 htL hR
    have hL31 : L < 2 ^ 31 := by omega
    refine cl_iload_n hC dL_law_18 rfl 3 rfl ?_
    refine cl_aload_n hC dL_law_19 rfl 0 rfl ?_
    refine cl_slen hC dL_law_20 ?_
    refine cl_bipush (v := 6) hC dL_law_21 rfl ?_
    refine cl_isub hC dL_law_23 ?_
    refine cl_icmp_gt (tgt := 1241) hC dL_law_24 (by decide) (fun _ => hend MX MY x3) (fun c1 => ?_)
    have hle : 6 * t + 6 ≤ L := cl_le (by rw [e3] at c1; exact c1) htL hL
    have hin : ∀ j : Nat, j < 6 → vp_in (nI (6 * t) + nI j) L := fun j hj => by rw [nI_add]; exact vp_in_nI (by omega) hL31
    have h0 : vp_in x3 L := by rw [e3]; exact vp_in_nI (by omega) hL31
    have h1 : vp_in (x3 + 1) L := by rw [e3]; exact hin 1 (by decide)
    have h2 : vp_in (x3 + 2) L := by rw [e3]; exact hin 2 (by decide)
    have h3 : vp_in (x3 + 3) L := by rw [e3]; exact hin 3 (by decide)
    have h4 : vp_in (x3 + 4) L := by rw [e3]; exact hin 4 (by decide)
    have h5 : vp_in (x3 + 5) L := by rw [e3]; exact hin 5 (by decide)
    have back : ∀ MX MY, Rel MX MY → cl_J γ gx gy MX MY 1235 [(0, .ref b), (1, .ref (gx.2.1 0)), (2, .ref (gy.2.1 0)), (3, .int x3)] [] := by
      intro MX MY hR
      refine cl_iinc (lv' := [(3, .int (x3 + 6)), (0, .ref b), (1, .ref (gx.2.1 0)), (2, .ref (gy.2.1 0))]) hC dL_law_1235 (q := 3) rfl rfl (by decide) rfl ?_
      refine cl_goto (tgt := 18) hC dL_law_1238 (by decide) ?_
      exact cl_pick [1, 2, 3, 0] rfl (ih (t + 1) (x3 + 6) MX MY (by omega) (by rw [e3]; exact nI_add (6 * t) 6) (by omega) hR)
    refine cl_aload_n hC dL_law_27 rfl 0 rfl ?_
    refine cl_iload_n hC dL_law_28 rfl 3 rfl ?_
    refine cl_sld hC h0 dL_law_29 ?_
    refine cl_bipush (v := 63) hC dL_law_30 rfl ?_
    refine cl_iand hC dL_law_32 ?_
    generalize hz : xs x3.toNatClampNeg &&& 63 = z
    obtain ⟨S0, S1, S2, S3, S4, S5, S6, S7, S8, S9, S10, S11, S12, S13, S14, S15, S16, S17, S18, S19, S20, S21, S22, S23, S24, S25, S26, S27, S28, S29, S30, S31, S32, S33, S34⟩ := SA
    by_cases c2 : z = 0
    · refine cl_tableIn (off := 155) (tgt := 188) hC dL_law_33 (by rw [c2]; decide) (by rw [c2]; decide) (by rw [c2]; rfl) (by decide) ?_
      exact cl_case_type S0 hC hR h1 h2 h3 h4 h5 back
    by_cases c3 : z = 1
    · refine cl_tableIn (off := 188) (tgt := 221) hC dL_law_33 (by rw [c3]; decide) (by rw [c3]; decide) (by rw [c3]; rfl) (by decide) ?_
      exact cl_case_wipe S1 hC hR h1 h2 h3 h4 h5 back
    by_cases c4 : z = 2
    · refine cl_tableIn (off := 211) (tgt := 244) hC dL_law_33 (by rw [c4]; decide) (by rw [c4]; decide) (by rw [c4]; rfl) (by decide) ?_
      exact cl_case_undo S2 hC hR h1 h2 h3 h4 h5 back
    by_cases c5 : z = 3
    · refine cl_tableIn (off := 234) (tgt := 267) hC dL_law_33 (by rw [c5]; decide) (by rw [c5]; decide) (by rw [c5]; rfl) (by decide) ?_
      exact cl_case_fault S3 hC hR h1 h2 h3 h4 h5 back
    by_cases c6 : z = 4
    · refine cl_tableIn (off := 257) (tgt := 290) hC dL_law_33 (by rw [c6]; decide) (by rw [c6]; decide) (by rw [c6]; rfl) (by decide) ?_
      exact cl_case_head S4 hC hR h1 h2 h3 h4 h5 back
    by_cases c7 : z = 5
    · refine cl_tableIn (off := 290) (tgt := 323) hC dL_law_33 (by rw [c7]; decide) (by rw [c7]; decide) (by rw [c7]; rfl) (by decide) ?_
      exact cl_case_couple S5 hC hR h1 h2 h3 h4 h5 back
    by_cases c8 : z = 6
    · refine cl_tableIn (off := 323) (tgt := 356) hC dL_law_33 (by rw [c8]; decide) (by rw [c8]; decide) (by rw [c8]; rfl) (by decide) ?_
      exact cl_case_weather S6 hC hR h1 h2 h3 h4 h5 back
    by_cases c9 : z = 7
    · refine cl_tableIn (off := 356) (tgt := 389) hC dL_law_33 (by rw [c9]; decide) (by rw [c9]; decide) (by rw [c9]; rfl) (by decide) ?_
      exact cl_case_rabbit S7 hC hR h1 h2 h3 h4 h5 back
    by_cases c10 : z = 8
    · refine cl_tableIn (off := 389) (tgt := 422) hC dL_law_33 (by rw [c10]; decide) (by rw [c10]; decide) (by rw [c10]; rfl) (by decide) ?_
      exact cl_case_back S8 hC hR h1 h2 h3 h4 h5 back
    by_cases c11 : z = 9
    · refine cl_tableIn (off := 412) (tgt := 445) hC dL_law_33 (by rw [c11]; decide) (by rw [c11]; decide) (by rw [c11]; rfl) (by decide) ?_
      exact cl_case_read S9 hC hR h1 h2 h3 h4 h5 back
    by_cases c12 : z = 10
    · refine cl_tableIn (off := 435) (tgt := 468) hC dL_law_33 (by rw [c12]; decide) (by rw [c12]; decide) (by rw [c12]; rfl) (by decide) ?_
      exact cl_case_state S10 hC hR h1 h2 h3 h4 h5 back
    by_cases c13 : z = 11
    · refine cl_tableIn (off := 468) (tgt := 501) hC dL_law_33 (by rw [c13]; decide) (by rw [c13]; decide) (by rw [c13]; rfl) (by decide) ?_
      exact cl_case_lifted S11 hC hR h1 h2 h3 h4 h5 back
    by_cases c14 : z = 12
    · refine cl_tableIn (off := 501) (tgt := 534) hC dL_law_33 (by rw [c14]; decide) (by rw [c14]; decide) (by rw [c14]; rfl) (by decide) ?_
      exact cl_case_gets S12 hC hR h1 h2 h3 h4 h5 back
    by_cases c15 : z = 13
    · refine cl_tableIn (off := 534) (tgt := 567) hC dL_law_33 (by rw [c15]; decide) (by rw [c15]; decide) (by rw [c15]; rfl) (by decide) ?_
      exact cl_case_children S13 hC hR h1 h2 h3 h4 h5 back
    by_cases c16 : z = 14
    · refine cl_tableIn (off := 557) (tgt := 590) hC dL_law_33 (by rw [c16]; decide) (by rw [c16]; decide) (by rw [c16]; rfl) (by decide) ?_
      exact cl_case_without S14 hC hR h1 h2 h3 h4 h5 back
    by_cases c17 : z = 15
    · refine cl_tableIn (off := 570) (tgt := 603) hC dL_law_33 (by rw [c17]; decide) (by rw [c17]; decide) (by rw [c17]; rfl) (by decide) ?_
      exact cl_case_turn S15 hC hR h1 h2 h3 h4 h5 back
    by_cases c18 : z = 16
    · refine cl_tableIn (off := 593) (tgt := 626) hC dL_law_33 (by rw [c18]; decide) (by rw [c18]; decide) (by rw [c18]; rfl) (by decide) ?_
      exact cl_case_met S16 hC hR h1 h2 h3 h4 h5 back
    by_cases c19 : z = 17
    · refine cl_tableIn (off := 606) (tgt := 639) hC dL_law_33 (by rw [c19]; decide) (by rw [c19]; decide) (by rw [c19]; rfl) (by decide) ?_
      exact cl_case_keep S17 hC hR h1 h2 h3 h4 h5 back
    by_cases c20 : z = 18
    · refine cl_tableIn (off := 639) (tgt := 672) hC dL_law_33 (by rw [c20]; decide) (by rw [c20]; decide) (by rw [c20]; rfl) (by decide) ?_
      exact cl_case_sow S18 hC hR h1 h2 h3 h4 h5 back
    by_cases c21 : z = 19
    · refine cl_tableIn (off := 672) (tgt := 705) hC dL_law_33 (by rw [c21]; decide) (by rw [c21]; decide) (by rw [c21]; rfl) (by decide) ?_
      exact cl_case_come S19 hC hR h1 h2 h3 h4 h5 back
    by_cases c22 : z = 20
    · refine cl_tableIn (off := 705) (tgt := 738) hC dL_law_33 (by rw [c22]; decide) (by rw [c22]; decide) (by rw [c22]; rfl) (by decide) ?_
      exact cl_case_seen S20 hC hR h1 h2 h3 h4 h5 back
    by_cases c23 : z = 21
    · refine cl_tableIn (off := 738) (tgt := 771) hC dL_law_33 (by rw [c23]; decide) (by rw [c23]; decide) (by rw [c23]; rfl) (by decide) ?_
      exact cl_case_forget S21 hC hR h1 h2 h3 h4 h5 back
    by_cases c24 : z = 22
    · refine cl_tableIn (off := 751) (tgt := 784) hC dL_law_33 (by rw [c24]; decide) (by rw [c24]; decide) (by rw [c24]; rfl) (by decide) ?_
      exact cl_case_never S22 hC hR h1 h2 h3 h4 h5 back
    by_cases c25 : z = 23
    · refine cl_tableIn (off := 764) (tgt := 797) hC dL_law_33 (by rw [c25]; decide) (by rw [c25]; decide) (by rw [c25]; rfl) (by decide) ?_
      exact cl_case_was S23 hC hR h1 h2 h3 h4 h5 back
    by_cases c26 : z = 24
    · refine cl_tableIn (off := 797) (tgt := 830) hC dL_law_33 (by rw [c26]; decide) (by rw [c26]; decide) (by rw [c26]; rfl) (by decide) ?_
      exact cl_case_ask S24 hC hR h1 h2 h3 h4 h5 back
    by_cases c27 : z = 25
    · refine cl_tableIn (off := 820) (tgt := 853) hC dL_law_33 (by rw [c27]; decide) (by rw [c27]; decide) (by rw [c27]; rfl) (by decide) ?_
      exact cl_case_chill S25 hC hR h1 h2 h3 h4 h5 back
    by_cases c28 : z = 26
    · refine cl_tableIn (off := 874) (tgt := 907) hC dL_law_33 (by rw [c28]; decide) (by rw [c28]; decide) (by rw [c28]; rfl) (by decide) ?_
      exact cl_case_year S26 hC hR h1 h2 h3 h4 h5 back
    by_cases c29 : z = 27
    · refine cl_tableIn (off := 907) (tgt := 940) hC dL_law_33 (by rw [c29]; decide) (by rw [c29]; decide) (by rw [c29]; rfl) (by decide) ?_
      exact cl_case_sheet S27 hC hR h1 h2 h3 h4 h5 back
    by_cases c30 : z = 28
    · refine cl_tableIn (off := 950) (tgt := 983) hC dL_law_33 (by rw [c30]; decide) (by rw [c30]; decide) (by rw [c30]; rfl) (by decide) ?_
      exact cl_case_lose S28 hC hR h1 h2 h3 h4 h5 back
    by_cases c31 : z = 29
    · refine cl_tableIn (off := 973) (tgt := 1006) hC dL_law_33 (by rw [c31]; decide) (by rw [c31]; decide) (by rw [c31]; rfl) (by decide) ?_
      exact cl_case_lay S29 hC hR h1 h2 h3 h4 h5 back
    by_cases c32 : z = 30
    · refine cl_tableIn (off := 1026) (tgt := 1059) hC dL_law_33 (by rw [c32]; decide) (by rw [c32]; decide) (by rw [c32]; rfl) (by decide) ?_
      exact cl_case_get S30 hC hR h1 h2 h3 h4 h5 back
    by_cases c33 : z = 31
    · refine cl_tableIn (off := 1069) (tgt := 1102) hC dL_law_33 (by rw [c33]; decide) (by rw [c33]; decide) (by rw [c33]; rfl) (by decide) ?_
      exact cl_case_copy S31 hC hR h1 h2 h3 h4 h5 back
    by_cases c34 : z = 32
    · refine cl_tableIn (off := 1132) (tgt := 1165) hC dL_law_33 (by rw [c34]; decide) (by rw [c34]; decide) (by rw [c34]; rfl) (by decide) ?_
      exact cl_case_write S32 hC hR h1 h2 h3 h4 h5 back
    by_cases c35 : z = 33
    · refine cl_tableIn (off := 1165) (tgt := 1198) hC dL_law_33 (by rw [c35]; decide) (by rw [c35]; decide) (by rw [c35]; rfl) (by decide) ?_
      exact cl_case_count S33 hC hR h1 h2 h3 h4 h5 back
    by_cases c36 : z = 34
    · refine cl_tableIn (off := 1188) (tgt := 1221) hC dL_law_33 (by rw [c36]; decide) (by rw [c36]; decide) (by rw [c36]; rfl) (by decide) ?_
      exact cl_case_digest S34 hC hR h1 h2 h3 h4 h5 back
    refine cl_tableOut (tgt := 1235) hC dL_law_33 (by have q0 : z.toInt ≠ 0 := fun e => c2 (Int32.toInt_inj.mp (e.trans (by decide))); have q1 : z.toInt ≠ 1 := fun e => c3 (Int32.toInt_inj.mp (e.trans (by decide))); have q2 : z.toInt ≠ 2 := fun e => c4 (Int32.toInt_inj.mp (e.trans (by decide))); have q3 : z.toInt ≠ 3 := fun e => c5 (Int32.toInt_inj.mp (e.trans (by decide))); have q4 : z.toInt ≠ 4 := fun e => c6 (Int32.toInt_inj.mp (e.trans (by decide))); have q5 : z.toInt ≠ 5 := fun e => c7 (Int32.toInt_inj.mp (e.trans (by decide))); have q6 : z.toInt ≠ 6 := fun e => c8 (Int32.toInt_inj.mp (e.trans (by decide))); have q7 : z.toInt ≠ 7 := fun e => c9 (Int32.toInt_inj.mp (e.trans (by decide))); have q8 : z.toInt ≠ 8 := fun e => c10 (Int32.toInt_inj.mp (e.trans (by decide))); have q9 : z.toInt ≠ 9 := fun e => c11 (Int32.toInt_inj.mp (e.trans (by decide))); have q10 : z.toInt ≠ 10 := fun e => c12 (Int32.toInt_inj.mp (e.trans (by decide))); have q11 : z.toInt ≠ 11 := fun e => c13 (Int32.toInt_inj.mp (e.trans (by decide))); have q12 : z.toInt ≠ 12 := fun e => c14 (Int32.toInt_inj.mp (e.trans (by decide))); have q13 : z.toInt ≠ 13 := fun e => c15 (Int32.toInt_inj.mp (e.trans (by decide))); have q14 : z.toInt ≠ 14 := fun e => c16 (Int32.toInt_inj.mp (e.trans (by decide))); have q15 : z.toInt ≠ 15 := fun e => c17 (Int32.toInt_inj.mp (e.trans (by decide))); have q16 : z.toInt ≠ 16 := fun e => c18 (Int32.toInt_inj.mp (e.trans (by decide))); have q17 : z.toInt ≠ 17 := fun e => c19 (Int32.toInt_inj.mp (e.trans (by decide))); have q18 : z.toInt ≠ 18 := fun e => c20 (Int32.toInt_inj.mp (e.trans (by decide))); have q19 : z.toInt ≠ 19 := fun e => c21 (Int32.toInt_inj.mp (e.trans (by decide))); have q20 : z.toInt ≠ 20 := fun e => c22 (Int32.toInt_inj.mp (e.trans (by decide))); have q21 : z.toInt ≠ 21 := fun e => c23 (Int32.toInt_inj.mp (e.trans (by decide))); have q22 : z.toInt ≠ 22 := fun e => c24 (Int32.toInt_inj.mp (e.trans (by decide))); have q23 : z.toInt ≠ 23 := fun e => c25 (Int32.toInt_inj.mp (e.trans (by decide))); have q24 : z.toInt ≠ 24 := fun e => c26 (Int32.toInt_inj.mp (e.trans (by decide))); have q25 : z.toInt ≠ 25 := fun e => c27 (Int32.toInt_inj.mp (e.trans (by decide))); have q26 : z.toInt ≠ 26 := fun e => c28 (Int32.toInt_inj.mp (e.trans (by decide))); have q27 : z.toInt ≠ 27 := fun e => c29 (Int32.toInt_inj.mp (e.trans (by decide))); have q28 : z.toInt ≠ 28 := fun e => c30 (Int32.toInt_inj.mp (e.trans (by decide))); have q29 : z.toInt ≠ 29 := fun e => c31 (Int32.toInt_inj.mp (e.trans (by decide))); have q30 : z.toInt ≠ 30 := fun e => c32 (Int32.toInt_inj.mp (e.trans (by decide))); have q31 : z.toInt ≠ 31 := fun e => c33 (Int32.toInt_inj.mp (e.trans (by decide))); have q32 : z.toInt ≠ 32 := fun e => c34 (Int32.toInt_inj.mp (e.trans (by decide))); have q33 : z.toInt ≠ 33 := fun e => c35 (Int32.toInt_inj.mp (e.trans (by decide))); have q34 : z.toInt ≠ 34 := fun e => c36 (Int32.toInt_inj.mp (e.trans (by decide))); omega) (by decide) ?_
    exact back MX MY hR
