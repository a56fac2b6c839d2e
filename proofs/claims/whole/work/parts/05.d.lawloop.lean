/-! printed by gen5.py: the law out of thirty facts -/
def lw_facts (I : si_M → Prop) : Prop := (∀ a : Int32, ∀ σ, I σ → ∃ (r : Int32) (σ1 σ2 : si_M), si_sc gP nX8_append (.ref 0 :: [.int a]) σ = some (some (.int r), σ1) ∧ si_sc gP nX9_append (.ref 29 :: [.int a]) σ1 = some (some (.int r), σ2) ∧ I σ2) ∧ (∀ σ, I σ → ∃ (r : Int32) (σ1 σ2 : si_M), si_sc gP nX8_clearInput (.ref 0 :: []) σ = some (some (.int r), σ1) ∧ si_sc gP nX9_clearInput (.ref 29 :: []) σ1 = some (some (.int r), σ2) ∧ I σ2) ∧ (∀ σ, I σ → ∃ (r : Int32) (σ1 σ2 : si_M), si_sc gP nX8_firstError (.ref 0 :: []) σ = some (some (.int r), σ1) ∧ si_sc gP nX9_firstError (.ref 29 :: []) σ1 = some (some (.int r), σ2) ∧ I σ2) ∧ (∀ σ, I σ → ∃ (r : Int32) (σ1 σ2 : si_M), si_sc gP nX8_load (.ref 0 :: []) σ = some (some (.int r), σ1) ∧ si_sc gP nX9_load (.ref 29 :: []) σ1 = some (some (.int r), σ2) ∧ I σ2) ∧ (∀ σ, I σ → ∃ (r : Int32) (σ1 σ2 : si_M), si_sc gP nX8_accepts (.ref 0 :: []) σ = some (some (.int r), σ1) ∧ si_sc gP nX9_accepts (.ref 29 :: []) σ1 = some (some (.int r), σ2) ∧ I σ2) ∧ (∀ σ, I σ → ∃ (r : Int64) (σ1 σ2 : si_M), si_sc gP nX8_countTrees (.ref 0 :: []) σ = some (some (.long r), σ1) ∧ si_sc gP nX9_countTrees (.ref 29 :: []) σ1 = some (some (.long r), σ2) ∧ I σ2) ∧ (∀ σ, I σ → ∃ (r : Int32) (σ1 σ2 : si_M), si_sc gP nX8_productionCount (.ref 0 :: []) σ = some (some (.int r), σ1) ∧ si_sc gP nX9_productionCount (.ref 29 :: []) σ1 = some (some (.int r), σ2) ∧ I σ2) ∧ (∀ a b : Int32, ∀ σ, I σ → ∃ (r : Int32) (σ1 σ2 : si_M), si_sc gP nX8_symbol (.ref 0 :: [.int a, .int b]) σ = some (some (.int r), σ1) ∧ si_sc gP nX9_symbol (.ref 29 :: [.int a, .int b]) σ1 = some (some (.int r), σ2) ∧ I σ2) ∧ (∀ σ, I σ → ∃ (r : Int32) (σ1 σ2 : si_M), si_sc gP nX8_nullableSet (.ref 0 :: []) σ = some (some (.int r), σ1) ∧ si_sc gP nX9_nullableSet (.ref 29 :: []) σ1 = some (some (.int r), σ2) ∧ I σ2) ∧ (∀ σ, I σ → ∃ (r : Int32) (σ1 σ2 : si_M), si_sc gP nX8_productiveSet (.ref 0 :: []) σ = some (some (.int r), σ1) ∧ si_sc gP nX9_productiveSet (.ref 29 :: []) σ1 = some (some (.int r), σ2) ∧ I σ2) ∧ (∀ σ, I σ → ∃ (r : Int32) (σ1 σ2 : si_M), si_sc gP nX8_reachableSet (.ref 0 :: []) σ = some (some (.int r), σ1) ∧ si_sc gP nX9_reachableSet (.ref 29 :: []) σ1 = some (some (.int r), σ2) ∧ I σ2) ∧ (∀ σ, I σ → ∃ (r : Int32) (σ1 σ2 : si_M), si_sc gP nX8_leftRecursiveSet (.ref 0 :: []) σ = some (some (.int r), σ1) ∧ si_sc gP nX9_leftRecursiveSet (.ref 29 :: []) σ1 = some (some (.int r), σ2) ∧ I σ2) ∧ (∀ a : Int32, ∀ σ, I σ → ∃ (r : Int32) (σ1 σ2 : si_M), si_sc gP nX8_unitReach (.ref 0 :: [.int a]) σ = some (some (.int r), σ1) ∧ si_sc gP nX9_unitReach (.ref 29 :: [.int a]) σ1 = some (some (.int r), σ2) ∧ I σ2) ∧ (∀ a : Int32, ∀ σ, I σ → ∃ (r : Int32) (σ1 σ2 : si_M), si_sc gP nX8_firstSet (.ref 0 :: [.int a]) σ = some (some (.int r), σ1) ∧ si_sc gP nX9_firstSet (.ref 29 :: [.int a]) σ1 = some (some (.int r), σ2) ∧ I σ2) ∧ (∀ a : Int32, ∀ σ, I σ → ∃ (r : Int32) (σ1 σ2 : si_M), si_sc gP nX8_followSet (.ref 0 :: [.int a]) σ = some (some (.int r), σ1) ∧ si_sc gP nX9_followSet (.ref 29 :: [.int a]) σ1 = some (some (.int r), σ2) ∧ I σ2) ∧ (∀ σ, I σ → ∃ (r : Int32) (σ1 σ2 : si_M), si_sc gP nX8_isLl1 (.ref 0 :: []) σ = some (some (.int r), σ1) ∧ si_sc gP nX9_isLl1 (.ref 29 :: []) σ1 = some (some (.int r), σ2) ∧ I σ2) ∧ (∀ σ, I σ → ∃ (r : Int32) (σ1 σ2 : si_M), si_sc gP nX8_isChomsky (.ref 0 :: []) σ = some (some (.int r), σ1) ∧ si_sc gP nX9_isChomsky (.ref 29 :: []) σ1 = some (some (.int r), σ2) ∧ I σ2) ∧ (∀ σ, I σ → ∃ (r : Int32) (σ1 σ2 : si_M), si_sc gP nX8_isGreibach (.ref 0 :: []) σ = some (some (.int r), σ1) ∧ si_sc gP nX9_isGreibach (.ref 29 :: []) σ1 = some (some (.int r), σ2) ∧ I σ2) ∧ (∀ σ, I σ → ∃ (r : Int32) (σ1 σ2 : si_M), si_sc gP nX8_removeUseless (.ref 0 :: []) σ = some (some (.int r), σ1) ∧ si_sc gP nX9_removeUseless (.ref 29 :: []) σ1 = some (some (.int r), σ2) ∧ I σ2) ∧ (∀ σ, I σ → ∃ (r : Int32) (σ1 σ2 : si_M), si_sc gP nX8_removeEmpty (.ref 0 :: []) σ = some (some (.int r), σ1) ∧ si_sc gP nX9_removeEmpty (.ref 29 :: []) σ1 = some (some (.int r), σ2) ∧ I σ2) ∧ (∀ σ, I σ → ∃ (r : Int32) (σ1 σ2 : si_M), si_sc gP nX8_removeUnits (.ref 0 :: []) σ = some (some (.int r), σ1) ∧ si_sc gP nX9_removeUnits (.ref 29 :: []) σ1 = some (some (.int r), σ2) ∧ I σ2) ∧ (∀ σ, I σ → ∃ (r : Int32) (σ1 σ2 : si_M), si_sc gP nX8_toChomsky (.ref 0 :: []) σ = some (some (.int r), σ1) ∧ si_sc gP nX9_toChomsky (.ref 29 :: []) σ1 = some (some (.int r), σ2) ∧ I σ2) ∧ (∀ σ, I σ → ∃ (r : Int32) (σ1 σ2 : si_M), si_sc gP nX8_removeLeftRecursion (.ref 0 :: []) σ = some (some (.int r), σ1) ∧ si_sc gP nX9_removeLeftRecursion (.ref 29 :: []) σ1 = some (some (.int r), σ2) ∧ I σ2) ∧ (∀ σ, I σ → ∃ (r : Int32) (σ1 σ2 : si_M), si_sc gP nX8_leftFactor (.ref 0 :: []) σ = some (some (.int r), σ1) ∧ si_sc gP nX9_leftFactor (.ref 29 :: []) σ1 = some (some (.int r), σ2) ∧ I σ2) ∧ (∀ σ, I σ → ∃ (r : Int32) (σ1 σ2 : si_M), si_sc gP nX8_toGreibach (.ref 0 :: []) σ = some (some (.int r), σ1) ∧ si_sc gP nX9_toGreibach (.ref 29 :: []) σ1 = some (some (.int r), σ2) ∧ I σ2) ∧ (∀ σ, I σ → ∃ (r : Int32) (σ1 σ2 : si_M), si_sc gP nX8_save (.ref 0 :: []) σ = some (some (.int r), σ1) ∧ si_sc gP nX9_save (.ref 29 :: []) σ1 = some (some (.int r), σ2) ∧ I σ2) ∧ (∀ σ, I σ → ∃ (r : Int32) (σ1 σ2 : si_M), si_sc gP nX8_restore (.ref 0 :: []) σ = some (some (.int r), σ1) ∧ si_sc gP nX9_restore (.ref 29 :: []) σ1 = some (some (.int r), σ2) ∧ I σ2) ∧ (∀ a : Int32, ∀ σ, I σ → ∃ (r : Int32) (σ1 σ2 : si_M), si_sc gP nX8_countWords (.ref 0 :: [.int a]) σ = some (some (.int r), σ1) ∧ si_sc gP nX9_countWords (.ref 29 :: [.int a]) σ1 = some (some (.int r), σ2) ∧ I σ2) ∧ (∀ a : Int32, ∀ σ, I σ → ∃ (r : Int32) (σ1 σ2 : si_M), si_sc gP nX8_countDifferences (.ref 0 :: [.int a]) σ = some (some (.int r), σ1) ∧ si_sc gP nX9_countDifferences (.ref 29 :: [.int a]) σ1 = some (some (.int r), σ2) ∧ I σ2) ∧ (∀ σ, I σ → ∃ (r : Int64) (σ1 σ2 : si_M), si_sc gP nX8_digest (.ref 0 :: []) σ = some (some (.long r), σ1) ∧ si_sc gP nX9_digest (.ref 29 :: []) σ1 = some (some (.long r), σ2) ∧ I σ2)
theorem lw_call {p : Program} {l : Launch} {e : Env} {s : State} {m : MethodId} {args : Array Value} {below : List Frame} {meth : Method} {c : Code} {D : va_G} {dA : Bool → ClassId} {sz : Nat} {R : Room} {cells slots : Nat} {Q : State → Prop} {bs : ByteArray} {own : String} {mL : Nat} {H0 H : Heap} {locs : List Loc} {ls : Array Slot} (X : si_Ctx p s m args c D dA gcl bs own mL) {pc idx c2 na rc ct q w1 w2 w3 w4 w5 fr lo : Nat} {cs : List Nat} {as rest : List Value} {σ : si_M} {o : si_O} (hfr : fr ≤ R.frames) (hlo : lo ≤ R.locals) (hce : cells ≤ R.cells) (hsl : slots ≤ R.slots)
    (hok : si_cok gmt gcl own fr lo idx [c2, na, rc, ct, w1, w2, w3, w4, w5] true = true) (hna : as.length = na) (hsk : gsh[q]? = some (.inl (ct, cs))) (hcat : si_cat rest ≤ 8) (h : si_sc gP c2 (.ref q :: as) σ = some o) (hP : va_P D gcl (si_W dA sz gsh σ) H) (hS : va_S (fun q => sz ≤ q) H0 H locs) (hls : ls.size = mL) (hd : decode bs pc = .ok (.invokevirtual idx, 3))
    (hk : ∀ (H1 : Heap) (locs1 : List Loc), va_P D gcl (si_W dA sz gsh o.2) H1 → va_S (fun q => sz ≤ q) H0 H1 locs1 → W p l e R s m args below meth c H1 locs1 cells slots Q (F0 m (pc + 3) ls ((o.1.map (si_v sz)).toList ++ rest.map (si_v sz)))) : W p l e R s m args below meth c H locs cells slots Q (F0 m pc ls ((as.map (si_v sz)).reverse ++ .ref (sz + q) :: rest.map (si_v sz))) := by
  obtain ⟨hx, hb, hml, hown, hts, hK, hNk⟩ := X
  simp only [si_cok] at hok
  split at hok
  · rename_i y bs2 mL2 ret2 fr2 lo2 rows C T N hmt hct
    simp only [Bool.and_eq_true] at hok
    obtain ⟨⟨⟨⟨⟨⟨⟨⟨q0, q1⟩, q2⟩, q3⟩, q4⟩, q5⟩, q6⟩, q7⟩, q8⟩ := hok
    have e0 : y.cls = C := of_decide_eq_true q0
    have e7 : fr2 + 1 ≤ fr := Nat.le_of_ble_eq_true q7
    have e8 : 8 + (mL2 + 11) + lo2 ≤ lo := Nat.le_of_ble_eq_true q8
    have hMet := si_met gok l D dA sz (m := c2) hmt h
    have hcw : Jvm.Cond.code y bs2 mL2 ret2 ∈ si_tb := si_wi_mem q4
    have hpre : PreV s H y.cls (sz + q) (si_Pc D dA gcl sz gP.2 (.ref q :: as) σ) (as.map (si_v sz)) := ⟨si_K_blind, by rw [e0]; exact va_recv hK hP hct (si_W_at hsk), fun U hU hW => ⟨rfl, by rw [hU]; exact hP, va_K.moved hW.alike hK, hNk.warm hW⟩⟩
    refine si_goes (va_runV ⟨hx, hb, hml, hown, hts⟩ hMet ⟨callB_of na hts (si_goodw ggood hcw) rfl rfl rfl (hts _ (si_wi_mem q3)) (hts _ (si_wi_mem q1)) (si_npw q6) ⟨?_, ?_⟩, hts _ (si_wi_mem q2), hts _ (si_wi_mem q5)⟩ hpre rfl ?_ hls rfl ?_ hd ⟨hce, hsl⟩) hS hk
    · exact Nat.le_trans e7 hfr
    · exact Nat.le_trans e8 hlo
    · rw [List.length_map]; exact hna
    · exact lv_room (m := m) (pc := pc) (ls := ls) (rest := []) (by rw [si_catm]; exact hcat)
  · cases hok
set_option maxHeartbeats 4000000 in
theorem lw_c0 {p : Program} {l : Launch} {e : Env} {s : State} {m : MethodId} {below : List Frame} {meth : Method} {c : Code} {D : va_G} {dA : Bool → ClassId} {b L : Nat} {xs : Nat → Int32} (C0 : lw_At p s m meth c b L xs) (X : si_Ctx p s m #[Value.ref b] c D dA gcl code RL 4) (I : si_M → Prop) (hf : (∀ a : Int32, ∀ σ, I σ → ∃ (r : Int32) (σ1 σ2 : si_M), si_sc gP nX8_append (.ref 0 :: [.int a]) σ = some (some (.int r), σ1) ∧ si_sc gP nX9_append (.ref 29 :: [.int a]) σ1 = some (some (.int r), σ2) ∧ I σ2)) (i : Nat) (hi : 3 * i + 3 ≤ L) (hL : L ≤ 1536) (σ : si_M) (hI : I σ) (H : Heap) (locs : List Loc) (ls : Array Slot) (hP : va_P D gcl (si_W dA s.heap.size gsh σ) H) (hS : va_S (fun q => s.heap.size ≤ q) s.heap H locs) (hl : lv_has ls 4 [(0, .ref b), (1, .ref (s.heap.size + 0)), (2, .ref (s.heap.size + 29)), (3, .int (nI (3 * i)))])
    (hk : ∀ (σ2 : si_M) (H2 : Heap) (locs2 : List Loc), I σ2 → va_P D gcl (si_W dA s.heap.size gsh σ2) H2 → va_S (fun q => s.heap.size ≤ q) s.heap H2 locs2 → W p l e room_1 s m #[Value.ref b] below meth c H2 locs2 45 5189 (lw_Z below #[Value.ref b] s) (F0 m 640 ls [])) : W p l e room_1 s m #[Value.ref b] below meth c H locs 45 5189 (lw_Z below #[Value.ref b] s) (F0 m 168 ls []) := by
  obtain ⟨hx, hb, hr, hml, hown, htsw, hX, hbl, hlocks, hgv⟩ := C0
  have hbA : ¬ (fun q : Nat => s.heap.size ≤ q) b := Nat.not_le.mpr hbl
  have e1 : nI (3 * i) + 1 = nI (3 * i + 1) := nI_add _ _
  have v1 : vp_in (nI (3 * i) + 1) L := by rw [e1]; exact vp_in_nI (by omega) (by omega)
  obtain ⟨r, σ1, σ2, f1, f2, f3⟩ := hf (xs (nI (3 * i) + 1).toNatClampNeg) σ hI
  refine lv_aload_n hx hb dL_168 rfl (lv_at hl 1 rfl) ?_
  refine lv_aload_n hx hb dL_169 rfl (lv_at hl 0 rfl) ?_
  refine lv_iload_n hx hb dL_170 rfl (lv_at hl 3 rfl) ?_
  refine lv_iconst (v := 1) hx hb dL_171 (by decide) ?_
  refine lv_iadd hx hb dL_172 ?_
  refine va_sld hx hb hX hbl hbA hS v1 dL_173 ?_
  have ok0 : si_cok gmt gcl RL 11 418 13 [2, 1, 1, 7, 270, 271, 91, 273, 272] true = true := by decide +kernel
  refine lw_call X (rc := 1) (q := 0) (as := [.int (xs (nI (3 * i) + 1).toNatClampNeg)]) (rest := []) (fr := 11) (lo := 418) (Nat.le_refl 11) (Nat.le_refl 418) (Nat.le_refl 45) (Nat.le_refl 5189) ok0 rfl rfl (Nat.le_of_ble_eq_true rfl) f1 hP hS hl.1 dL_174 (fun H1 locs1 hP hS => ?_)
  refine lv_aload_n hx hb dL_177 rfl (lv_at hl 2 rfl) ?_
  refine lv_aload_n hx hb dL_178 rfl (lv_at hl 0 rfl) ?_
  refine lv_iload_n hx hb dL_179 rfl (lv_at hl 3 rfl) ?_
  refine lv_iconst (v := 1) hx hb dL_180 (by decide) ?_
  refine lv_iadd hx hb dL_181 ?_
  refine va_sld hx hb hX hbl hbA hS v1 dL_182 ?_
  have ok1 : si_cok gmt gcl RL 11 418 17 [4, 1, 1, 8, 1029, 1030, 99, 1032, 1031] true = true := by decide +kernel
  refine lw_call X (rc := 1) (q := 29) (as := [.int (xs (nI (3 * i) + 1).toNatClampNeg)]) (rest := [.int r]) (fr := 11) (lo := 418) (Nat.le_refl 11) (Nat.le_refl 418) (Nat.le_refl 45) (Nat.le_refl 5189) ok1 rfl rfl (Nat.le_of_ble_eq_true rfl) f2 hP hS hl.1 dL_183 (fun H2 locs2 hP hS => ?_)
  refine lv_icmp_eq (tgt := 640) hx hb dL_186 (by decide) (fun _ => ?_) (fun hne => absurd rfl hne)
  exact hk σ2 _ _ f3 hP hS
set_option maxHeartbeats 4000000 in
theorem lw_c1 {p : Program} {l : Launch} {e : Env} {s : State} {m : MethodId} {below : List Frame} {meth : Method} {c : Code} {D : va_G} {dA : Bool → ClassId} {b L : Nat} {xs : Nat → Int32} (C0 : lw_At p s m meth c b L xs) (X : si_Ctx p s m #[Value.ref b] c D dA gcl code RL 4) (I : si_M → Prop) (hf : (∀ σ, I σ → ∃ (r : Int32) (σ1 σ2 : si_M), si_sc gP nX8_clearInput (.ref 0 :: []) σ = some (some (.int r), σ1) ∧ si_sc gP nX9_clearInput (.ref 29 :: []) σ1 = some (some (.int r), σ2) ∧ I σ2)) (i : Nat) (hi : 3 * i + 3 ≤ L) (hL : L ≤ 1536) (σ : si_M) (hI : I σ) (H : Heap) (locs : List Loc) (ls : Array Slot) (hP : va_P D gcl (si_W dA s.heap.size gsh σ) H) (hS : va_S (fun q => s.heap.size ≤ q) s.heap H locs) (hl : lv_has ls 4 [(0, .ref b), (1, .ref (s.heap.size + 0)), (2, .ref (s.heap.size + 29)), (3, .int (nI (3 * i)))])
    (hk : ∀ (σ2 : si_M) (H2 : Heap) (locs2 : List Loc), I σ2 → va_P D gcl (si_W dA s.heap.size gsh σ2) H2 → va_S (fun q => s.heap.size ≤ q) s.heap H2 locs2 → W p l e room_1 s m #[Value.ref b] below meth c H2 locs2 45 5189 (lw_Z below #[Value.ref b] s) (F0 m 640 ls [])) : W p l e room_1 s m #[Value.ref b] below meth c H locs 45 5189 (lw_Z below #[Value.ref b] s) (F0 m 191 ls []) := by
  obtain ⟨hx, hb, hr, hml, hown, htsw, hX, hbl, hlocks, hgv⟩ := C0
  have hbA : ¬ (fun q : Nat => s.heap.size ≤ q) b := Nat.not_le.mpr hbl
  obtain ⟨r, σ1, σ2, f1, f2, f3⟩ := hf  σ hI
  refine lv_aload_n hx hb dL_191 rfl (lv_at hl 1 rfl) ?_
  have ok0 : si_cok gmt gcl RL 11 418 18 [6, 0, 1, 7, 282, 283, 91, 285, 284] true = true := by decide +kernel
  refine lw_call X (rc := 1) (q := 0) (as := []) (rest := []) (fr := 11) (lo := 418) (Nat.le_refl 11) (Nat.le_refl 418) (Nat.le_refl 45) (Nat.le_refl 5189) ok0 rfl rfl (Nat.le_of_ble_eq_true rfl) f1 hP hS hl.1 dL_192 (fun H1 locs1 hP hS => ?_)
  refine lv_aload_n hx hb dL_195 rfl (lv_at hl 2 rfl) ?_
  have ok1 : si_cok gmt gcl RL 11 418 22 [7, 0, 1, 8, 1036, 1037, 99, 1039, 1038] true = true := by decide +kernel
  refine lw_call X (rc := 1) (q := 29) (as := []) (rest := [.int r]) (fr := 11) (lo := 418) (Nat.le_refl 11) (Nat.le_refl 418) (Nat.le_refl 45) (Nat.le_refl 5189) ok1 rfl rfl (Nat.le_of_ble_eq_true rfl) f2 hP hS hl.1 dL_196 (fun H2 locs2 hP hS => ?_)
  refine lv_icmp_eq (tgt := 640) hx hb dL_199 (by decide) (fun _ => ?_) (fun hne => absurd rfl hne)
  exact hk σ2 _ _ f3 hP hS
set_option maxHeartbeats 4000000 in
theorem lw_c2 {p : Program} {l : Launch} {e : Env} {s : State} {m : MethodId} {below : List Frame} {meth : Method} {c : Code} {D : va_G} {dA : Bool → ClassId} {b L : Nat} {xs : Nat → Int32} (C0 : lw_At p s m meth c b L xs) (X : si_Ctx p s m #[Value.ref b] c D dA gcl code RL 4) (I : si_M → Prop) (hf : (∀ σ, I σ → ∃ (r : Int32) (σ1 σ2 : si_M), si_sc gP nX8_firstError (.ref 0 :: []) σ = some (some (.int r), σ1) ∧ si_sc gP nX9_firstError (.ref 29 :: []) σ1 = some (some (.int r), σ2) ∧ I σ2)) (i : Nat) (hi : 3 * i + 3 ≤ L) (hL : L ≤ 1536) (σ : si_M) (hI : I σ) (H : Heap) (locs : List Loc) (ls : Array Slot) (hP : va_P D gcl (si_W dA s.heap.size gsh σ) H) (hS : va_S (fun q => s.heap.size ≤ q) s.heap H locs) (hl : lv_has ls 4 [(0, .ref b), (1, .ref (s.heap.size + 0)), (2, .ref (s.heap.size + 29)), (3, .int (nI (3 * i)))])
    (hk : ∀ (σ2 : si_M) (H2 : Heap) (locs2 : List Loc), I σ2 → va_P D gcl (si_W dA s.heap.size gsh σ2) H2 → va_S (fun q => s.heap.size ≤ q) s.heap H2 locs2 → W p l e room_1 s m #[Value.ref b] below meth c H2 locs2 45 5189 (lw_Z below #[Value.ref b] s) (F0 m 640 ls [])) : W p l e room_1 s m #[Value.ref b] below meth c H locs 45 5189 (lw_Z below #[Value.ref b] s) (F0 m 204 ls []) := by
  obtain ⟨hx, hb, hr, hml, hown, htsw, hX, hbl, hlocks, hgv⟩ := C0
  have hbA : ¬ (fun q : Nat => s.heap.size ≤ q) b := Nat.not_le.mpr hbl
  obtain ⟨r, σ1, σ2, f1, f2, f3⟩ := hf  σ hI
  refine lv_aload_n hx hb dL_204 rfl (lv_at hl 1 rfl) ?_
  have ok0 : si_cok gmt gcl RL 11 418 23 [12, 0, 1, 7, 290, 291, 91, 293, 292] true = true := by decide +kernel
  refine lw_call X (rc := 1) (q := 0) (as := []) (rest := []) (fr := 11) (lo := 418) (Nat.le_refl 11) (Nat.le_refl 418) (Nat.le_refl 45) (Nat.le_refl 5189) ok0 rfl rfl (Nat.le_of_ble_eq_true rfl) f1 hP hS hl.1 dL_205 (fun H1 locs1 hP hS => ?_)
  refine lv_aload_n hx hb dL_208 rfl (lv_at hl 2 rfl) ?_
  have ok1 : si_cok gmt gcl RL 11 418 26 [20, 0, 1, 8, 1040, 1041, 99, 1043, 1042] true = true := by decide +kernel
  refine lw_call X (rc := 1) (q := 29) (as := []) (rest := [.int r]) (fr := 11) (lo := 418) (Nat.le_refl 11) (Nat.le_refl 418) (Nat.le_refl 45) (Nat.le_refl 5189) ok1 rfl rfl (Nat.le_of_ble_eq_true rfl) f2 hP hS hl.1 dL_209 (fun H2 locs2 hP hS => ?_)
  refine lv_icmp_eq (tgt := 640) hx hb dL_212 (by decide) (fun _ => ?_) (fun hne => absurd rfl hne)
  exact hk σ2 _ _ f3 hP hS
set_option maxHeartbeats 4000000 in
theorem lw_c3 {p : Program} {l : Launch} {e : Env} {s : State} {m : MethodId} {below : List Frame} {meth : Method} {c : Code} {D : va_G} {dA : Bool → ClassId} {b L : Nat} {xs : Nat → Int32} (C0 : lw_At p s m meth c b L xs) (X : si_Ctx p s m #[Value.ref b] c D dA gcl code RL 4) (I : si_M → Prop) (hf : (∀ σ, I σ → ∃ (r : Int32) (σ1 σ2 : si_M), si_sc gP nX8_load (.ref 0 :: []) σ = some (some (.int r), σ1) ∧ si_sc gP nX9_load (.ref 29 :: []) σ1 = some (some (.int r), σ2) ∧ I σ2)) (i : Nat) (hi : 3 * i + 3 ≤ L) (hL : L ≤ 1536) (σ : si_M) (hI : I σ) (H : Heap) (locs : List Loc) (ls : Array Slot) (hP : va_P D gcl (si_W dA s.heap.size gsh σ) H) (hS : va_S (fun q => s.heap.size ≤ q) s.heap H locs) (hl : lv_has ls 4 [(0, .ref b), (1, .ref (s.heap.size + 0)), (2, .ref (s.heap.size + 29)), (3, .int (nI (3 * i)))])
    (hk : ∀ (σ2 : si_M) (H2 : Heap) (locs2 : List Loc), I σ2 → va_P D gcl (si_W dA s.heap.size gsh σ2) H2 → va_S (fun q => s.heap.size ≤ q) s.heap H2 locs2 → W p l e room_1 s m #[Value.ref b] below meth c H2 locs2 45 5189 (lw_Z below #[Value.ref b] s) (F0 m 640 ls [])) : W p l e room_1 s m #[Value.ref b] below meth c H locs 45 5189 (lw_Z below #[Value.ref b] s) (F0 m 217 ls []) := by
  obtain ⟨hx, hb, hr, hml, hown, htsw, hX, hbl, hlocks, hgv⟩ := C0
  have hbA : ¬ (fun q : Nat => s.heap.size ≤ q) b := Nat.not_le.mpr hbl
  obtain ⟨r, σ1, σ2, f1, f2, f3⟩ := hf  σ hI
  refine lv_aload_n hx hb dL_217 rfl (lv_at hl 1 rfl) ?_
  have ok0 : si_cok gmt gcl RL 11 418 27 [31, 0, 1, 7, 307, 308, 91, 310, 309] true = true := by decide +kernel
  refine lw_call X (rc := 1) (q := 0) (as := []) (rest := []) (fr := 11) (lo := 418) (Nat.le_refl 11) (Nat.le_refl 418) (Nat.le_refl 45) (Nat.le_refl 5189) ok0 rfl rfl (Nat.le_of_ble_eq_true rfl) f1 hP hS hl.1 dL_218 (fun H1 locs1 hP hS => ?_)
  refine lv_aload_n hx hb dL_221 rfl (lv_at hl 2 rfl) ?_
  have ok1 : si_cok gmt gcl RL 11 418 30 [32, 0, 1, 8, 1069, 1070, 99, 1072, 1071] true = true := by decide +kernel
  refine lw_call X (rc := 1) (q := 29) (as := []) (rest := [.int r]) (fr := 11) (lo := 418) (Nat.le_refl 11) (Nat.le_refl 418) (Nat.le_refl 45) (Nat.le_refl 5189) ok1 rfl rfl (Nat.le_of_ble_eq_true rfl) f2 hP hS hl.1 dL_222 (fun H2 locs2 hP hS => ?_)
  refine lv_icmp_eq (tgt := 640) hx hb dL_225 (by decide) (fun _ => ?_) (fun hne => absurd rfl hne)
  exact hk σ2 _ _ f3 hP hS
set_option maxHeartbeats 4000000 in
theorem lw_c4 {p : Program} {l : Launch} {e : Env} {s : State} {m : MethodId} {below : List Frame} {meth : Method} {c : Code} {D : va_G} {dA : Bool → ClassId} {b L : Nat} {xs : Nat → Int32} (C0 : lw_At p s m meth c b L xs) (X : si_Ctx p s m #[Value.ref b] c D dA gcl code RL 4) (I : si_M → Prop) (hf : (∀ σ, I σ → ∃ (r : Int32) (σ1 σ2 : si_M), si_sc gP nX8_accepts (.ref 0 :: []) σ = some (some (.int r), σ1) ∧ si_sc gP nX9_accepts (.ref 29 :: []) σ1 = some (some (.int r), σ2) ∧ I σ2)) (i : Nat) (hi : 3 * i + 3 ≤ L) (hL : L ≤ 1536) (σ : si_M) (hI : I σ) (H : Heap) (locs : List Loc) (ls : Array Slot) (hP : va_P D gcl (si_W dA s.heap.size gsh σ) H) (hS : va_S (fun q => s.heap.size ≤ q) s.heap H locs) (hl : lv_has ls 4 [(0, .ref b), (1, .ref (s.heap.size + 0)), (2, .ref (s.heap.size + 29)), (3, .int (nI (3 * i)))])
    (hk : ∀ (σ2 : si_M) (H2 : Heap) (locs2 : List Loc), I σ2 → va_P D gcl (si_W dA s.heap.size gsh σ2) H2 → va_S (fun q => s.heap.size ≤ q) s.heap H2 locs2 → W p l e room_1 s m #[Value.ref b] below meth c H2 locs2 45 5189 (lw_Z below #[Value.ref b] s) (F0 m 640 ls [])) : W p l e room_1 s m #[Value.ref b] below meth c H locs 45 5189 (lw_Z below #[Value.ref b] s) (F0 m 230 ls []) := by
  obtain ⟨hx, hb, hr, hml, hown, htsw, hX, hbl, hlocks, hgv⟩ := C0
  have hbA : ¬ (fun q : Nat => s.heap.size ≤ q) b := Nat.not_le.mpr hbl
  obtain ⟨r, σ1, σ2, f1, f2, f3⟩ := hf  σ hI
  refine lv_aload_n hx hb dL_230 rfl (lv_at hl 1 rfl) ?_
  have ok0 : si_cok gmt gcl RL 11 418 31 [47, 0, 1, 7, 353, 354, 91, 356, 355] true = true := by decide +kernel
  refine lw_call X (rc := 1) (q := 0) (as := []) (rest := []) (fr := 11) (lo := 418) (Nat.le_refl 11) (Nat.le_refl 418) (Nat.le_refl 45) (Nat.le_refl 5189) ok0 rfl rfl (Nat.le_of_ble_eq_true rfl) f1 hP hS hl.1 dL_231 (fun H1 locs1 hP hS => ?_)
  refine lv_aload_n hx hb dL_234 rfl (lv_at hl 2 rfl) ?_
  have ok1 : si_cok gmt gcl RL 11 418 34 [53, 0, 1, 8, 1073, 1074, 99, 1076, 1075] true = true := by decide +kernel
  refine lw_call X (rc := 1) (q := 29) (as := []) (rest := [.int r]) (fr := 11) (lo := 418) (Nat.le_refl 11) (Nat.le_refl 418) (Nat.le_refl 45) (Nat.le_refl 5189) ok1 rfl rfl (Nat.le_of_ble_eq_true rfl) f2 hP hS hl.1 dL_235 (fun H2 locs2 hP hS => ?_)
  refine lv_icmp_eq (tgt := 640) hx hb dL_238 (by decide) (fun _ => ?_) (fun hne => absurd rfl hne)
  exact hk σ2 _ _ f3 hP hS
set_option maxHeartbeats 4000000 in
theorem lw_c5 {p : Program} {l : Launch} {e : Env} {s : State} {m : MethodId} {below : List Frame} {meth : Method} {c : Code} {D : va_G} {dA : Bool → ClassId} {b L : Nat} {xs : Nat → Int32} (C0 : lw_At p s m meth c b L xs) (X : si_Ctx p s m #[Value.ref b] c D dA gcl code RL 4) (I : si_M → Prop) (hf : (∀ σ, I σ → ∃ (r : Int64) (σ1 σ2 : si_M), si_sc gP nX8_countTrees (.ref 0 :: []) σ = some (some (.long r), σ1) ∧ si_sc gP nX9_countTrees (.ref 29 :: []) σ1 = some (some (.long r), σ2) ∧ I σ2)) (i : Nat) (hi : 3 * i + 3 ≤ L) (hL : L ≤ 1536) (σ : si_M) (hI : I σ) (H : Heap) (locs : List Loc) (ls : Array Slot) (hP : va_P D gcl (si_W dA s.heap.size gsh σ) H) (hS : va_S (fun q => s.heap.size ≤ q) s.heap H locs) (hl : lv_has ls 4 [(0, .ref b), (1, .ref (s.heap.size + 0)), (2, .ref (s.heap.size + 29)), (3, .int (nI (3 * i)))])
    (hk : ∀ (σ2 : si_M) (H2 : Heap) (locs2 : List Loc), I σ2 → va_P D gcl (si_W dA s.heap.size gsh σ2) H2 → va_S (fun q => s.heap.size ≤ q) s.heap H2 locs2 → W p l e room_1 s m #[Value.ref b] below meth c H2 locs2 45 5189 (lw_Z below #[Value.ref b] s) (F0 m 640 ls [])) : W p l e room_1 s m #[Value.ref b] below meth c H locs 45 5189 (lw_Z below #[Value.ref b] s) (F0 m 243 ls []) := by
  obtain ⟨hx, hb, hr, hml, hown, htsw, hX, hbl, hlocks, hgv⟩ := C0
  have hbA : ¬ (fun q : Nat => s.heap.size ≤ q) b := Nat.not_le.mpr hbl
  obtain ⟨r, σ1, σ2, f1, f2, f3⟩ := hf  σ hI
  refine lv_aload_n hx hb dL_243 rfl (lv_at hl 1 rfl) ?_
  have ok0 : si_cok gmt gcl RL 11 418 35 [72, 0, 2, 7, 416, 417, 91, 419, 418] true = true := by decide +kernel
  refine lw_call X (rc := 2) (q := 0) (as := []) (rest := []) (fr := 11) (lo := 418) (Nat.le_refl 11) (Nat.le_refl 418) (Nat.le_refl 45) (Nat.le_refl 5189) ok0 rfl rfl (Nat.le_of_ble_eq_true rfl) f1 hP hS hl.1 dL_244 (fun H1 locs1 hP hS => ?_)
  refine lv_aload_n hx hb dL_247 rfl (lv_at hl 2 rfl) ?_
  have ok1 : si_cok gmt gcl RL 11 418 39 [83, 0, 2, 8, 1096, 1097, 99, 1099, 1098] true = true := by decide +kernel
  refine lw_call X (rc := 2) (q := 29) (as := []) (rest := [.long r]) (fr := 11) (lo := 418) (Nat.le_refl 11) (Nat.le_refl 418) (Nat.le_refl 45) (Nat.le_refl 5189) ok1 rfl rfl (Nat.le_of_ble_eq_true rfl) f2 hP hS hl.1 dL_248 (fun H2 locs2 hP hS => ?_)
  refine W.lcmp hx hb dL_251 ?_
  refine lv_if_eq (tgt := 640) hx hb dL_252 (by decide) (fun _ => ?_) (fun hne => absurd (by simp [lg_cmp, Int64.lt_irrefl]) hne)
  exact hk σ2 _ _ f3 hP hS
set_option maxHeartbeats 4000000 in
theorem lw_c6 {p : Program} {l : Launch} {e : Env} {s : State} {m : MethodId} {below : List Frame} {meth : Method} {c : Code} {D : va_G} {dA : Bool → ClassId} {b L : Nat} {xs : Nat → Int32} (C0 : lw_At p s m meth c b L xs) (X : si_Ctx p s m #[Value.ref b] c D dA gcl code RL 4) (I : si_M → Prop) (hf : (∀ σ, I σ → ∃ (r : Int32) (σ1 σ2 : si_M), si_sc gP nX8_productionCount (.ref 0 :: []) σ = some (some (.int r), σ1) ∧ si_sc gP nX9_productionCount (.ref 29 :: []) σ1 = some (some (.int r), σ2) ∧ I σ2)) (i : Nat) (hi : 3 * i + 3 ≤ L) (hL : L ≤ 1536) (σ : si_M) (hI : I σ) (H : Heap) (locs : List Loc) (ls : Array Slot) (hP : va_P D gcl (si_W dA s.heap.size gsh σ) H) (hS : va_S (fun q => s.heap.size ≤ q) s.heap H locs) (hl : lv_has ls 4 [(0, .ref b), (1, .ref (s.heap.size + 0)), (2, .ref (s.heap.size + 29)), (3, .int (nI (3 * i)))])
    (hk : ∀ (σ2 : si_M) (H2 : Heap) (locs2 : List Loc), I σ2 → va_P D gcl (si_W dA s.heap.size gsh σ2) H2 → va_S (fun q => s.heap.size ≤ q) s.heap H2 locs2 → W p l e room_1 s m #[Value.ref b] below meth c H2 locs2 45 5189 (lw_Z below #[Value.ref b] s) (F0 m 640 ls [])) : W p l e room_1 s m #[Value.ref b] below meth c H locs 45 5189 (lw_Z below #[Value.ref b] s) (F0 m 257 ls []) := by
  obtain ⟨hx, hb, hr, hml, hown, htsw, hX, hbl, hlocks, hgv⟩ := C0
  have hbA : ¬ (fun q : Nat => s.heap.size ≤ q) b := Nat.not_le.mpr hbl
  obtain ⟨r, σ1, σ2, f1, f2, f3⟩ := hf  σ hI
  refine lv_aload_n hx hb dL_257 rfl (lv_at hl 1 rfl) ?_
  have ok0 : si_cok gmt gcl RL 11 418 40 [84, 0, 1, 7, 500, 501, 91, 503, 502] true = true := by decide +kernel
  refine lw_call X (rc := 1) (q := 0) (as := []) (rest := []) (fr := 11) (lo := 418) (Nat.le_refl 11) (Nat.le_refl 418) (Nat.le_refl 45) (Nat.le_refl 5189) ok0 rfl rfl (Nat.le_of_ble_eq_true rfl) f1 hP hS hl.1 dL_258 (fun H1 locs1 hP hS => ?_)
  refine lv_aload_n hx hb dL_261 rfl (lv_at hl 2 rfl) ?_
  have ok1 : si_cok gmt gcl RL 11 418 43 [85, 0, 1, 8, 1140, 1141, 99, 1143, 1142] true = true := by decide +kernel
  refine lw_call X (rc := 1) (q := 29) (as := []) (rest := [.int r]) (fr := 11) (lo := 418) (Nat.le_refl 11) (Nat.le_refl 418) (Nat.le_refl 45) (Nat.le_refl 5189) ok1 rfl rfl (Nat.le_of_ble_eq_true rfl) f2 hP hS hl.1 dL_262 (fun H2 locs2 hP hS => ?_)
  refine lv_icmp_eq (tgt := 640) hx hb dL_265 (by decide) (fun _ => ?_) (fun hne => absurd rfl hne)
  exact hk σ2 _ _ f3 hP hS
set_option maxHeartbeats 4000000 in
theorem lw_c7 {p : Program} {l : Launch} {e : Env} {s : State} {m : MethodId} {below : List Frame} {meth : Method} {c : Code} {D : va_G} {dA : Bool → ClassId} {b L : Nat} {xs : Nat → Int32} (C0 : lw_At p s m meth c b L xs) (X : si_Ctx p s m #[Value.ref b] c D dA gcl code RL 4) (I : si_M → Prop) (hf : (∀ a b : Int32, ∀ σ, I σ → ∃ (r : Int32) (σ1 σ2 : si_M), si_sc gP nX8_symbol (.ref 0 :: [.int a, .int b]) σ = some (some (.int r), σ1) ∧ si_sc gP nX9_symbol (.ref 29 :: [.int a, .int b]) σ1 = some (some (.int r), σ2) ∧ I σ2)) (i : Nat) (hi : 3 * i + 3 ≤ L) (hL : L ≤ 1536) (σ : si_M) (hI : I σ) (H : Heap) (locs : List Loc) (ls : Array Slot) (hP : va_P D gcl (si_W dA s.heap.size gsh σ) H) (hS : va_S (fun q => s.heap.size ≤ q) s.heap H locs) (hl : lv_has ls 4 [(0, .ref b), (1, .ref (s.heap.size + 0)), (2, .ref (s.heap.size + 29)), (3, .int (nI (3 * i)))])
    (hk : ∀ (σ2 : si_M) (H2 : Heap) (locs2 : List Loc), I σ2 → va_P D gcl (si_W dA s.heap.size gsh σ2) H2 → va_S (fun q => s.heap.size ≤ q) s.heap H2 locs2 → W p l e room_1 s m #[Value.ref b] below meth c H2 locs2 45 5189 (lw_Z below #[Value.ref b] s) (F0 m 640 ls [])) : W p l e room_1 s m #[Value.ref b] below meth c H locs 45 5189 (lw_Z below #[Value.ref b] s) (F0 m 270 ls []) := by
  obtain ⟨hx, hb, hr, hml, hown, htsw, hX, hbl, hlocks, hgv⟩ := C0
  have hbA : ¬ (fun q : Nat => s.heap.size ≤ q) b := Nat.not_le.mpr hbl
  have e1 : nI (3 * i) + 1 = nI (3 * i + 1) := nI_add _ _
  have v1 : vp_in (nI (3 * i) + 1) L := by rw [e1]; exact vp_in_nI (by omega) (by omega)
  have e2 : nI (3 * i) + 2 = nI (3 * i + 2) := nI_add _ _
  have v2 : vp_in (nI (3 * i) + 2) L := by rw [e2]; exact vp_in_nI (by omega) (by omega)
  obtain ⟨r, σ1, σ2, f1, f2, f3⟩ := hf (xs (nI (3 * i) + 1).toNatClampNeg) (xs (nI (3 * i) + 2).toNatClampNeg) σ hI
  refine lv_aload_n hx hb dL_270 rfl (lv_at hl 1 rfl) ?_
  refine lv_aload_n hx hb dL_271 rfl (lv_at hl 0 rfl) ?_
  refine lv_iload_n hx hb dL_272 rfl (lv_at hl 3 rfl) ?_
  refine lv_iconst (v := 1) hx hb dL_273 (by decide) ?_
  refine lv_iadd hx hb dL_274 ?_
  refine va_sld hx hb hX hbl hbA hS v1 dL_275 ?_
  refine lv_aload_n hx hb dL_276 rfl (lv_at hl 0 rfl) ?_
  refine lv_iload_n hx hb dL_277 rfl (lv_at hl 3 rfl) ?_
  refine lv_iconst (v := 2) hx hb dL_278 (by decide) ?_
  refine lv_iadd hx hb dL_279 ?_
  refine va_sld hx hb hX hbl hbA hS v2 dL_280 ?_
  have ok0 : si_cok gmt gcl RL 11 418 44 [87, 2, 1, 7, 504, 505, 91, 507, 506] true = true := by decide +kernel
  refine lw_call X (rc := 1) (q := 0) (as := [.int (xs (nI (3 * i) + 1).toNatClampNeg), .int (xs (nI (3 * i) + 2).toNatClampNeg)]) (rest := []) (fr := 11) (lo := 418) (Nat.le_refl 11) (Nat.le_refl 418) (Nat.le_refl 45) (Nat.le_refl 5189) ok0 rfl rfl (Nat.le_of_ble_eq_true rfl) f1 hP hS hl.1 dL_281 (fun H1 locs1 hP hS => ?_)
  refine lv_aload_n hx hb dL_284 rfl (lv_at hl 2 rfl) ?_
  refine lv_aload_n hx hb dL_285 rfl (lv_at hl 0 rfl) ?_
  refine lv_iload_n hx hb dL_286 rfl (lv_at hl 3 rfl) ?_
  refine lv_iconst (v := 1) hx hb dL_287 (by decide) ?_
  refine lv_iadd hx hb dL_288 ?_
  refine va_sld hx hb hX hbl hbA hS v1 dL_289 ?_
  refine lv_aload_n hx hb dL_290 rfl (lv_at hl 0 rfl) ?_
  refine lv_iload_n hx hb dL_291 rfl (lv_at hl 3 rfl) ?_
  refine lv_iconst (v := 2) hx hb dL_292 (by decide) ?_
  refine lv_iadd hx hb dL_293 ?_
  refine va_sld hx hb hX hbl hbA hS v2 dL_294 ?_
  have ok1 : si_cok gmt gcl RL 11 418 48 [90, 2, 1, 8, 1144, 1145, 99, 1147, 1146] true = true := by decide +kernel
  refine lw_call X (rc := 1) (q := 29) (as := [.int (xs (nI (3 * i) + 1).toNatClampNeg), .int (xs (nI (3 * i) + 2).toNatClampNeg)]) (rest := [.int r]) (fr := 11) (lo := 418) (Nat.le_refl 11) (Nat.le_refl 418) (Nat.le_refl 45) (Nat.le_refl 5189) ok1 rfl rfl (Nat.le_of_ble_eq_true rfl) f2 hP hS hl.1 dL_295 (fun H2 locs2 hP hS => ?_)
  refine lv_icmp_eq (tgt := 640) hx hb dL_298 (by decide) (fun _ => ?_) (fun hne => absurd rfl hne)
  exact hk σ2 _ _ f3 hP hS
set_option maxHeartbeats 4000000 in
theorem lw_c8 {p : Program} {l : Launch} {e : Env} {s : State} {m : MethodId} {below : List Frame} {meth : Method} {c : Code} {D : va_G} {dA : Bool → ClassId} {b L : Nat} {xs : Nat → Int32} (C0 : lw_At p s m meth c b L xs) (X : si_Ctx p s m #[Value.ref b] c D dA gcl code RL 4) (I : si_M → Prop) (hf : (∀ σ, I σ → ∃ (r : Int32) (σ1 σ2 : si_M), si_sc gP nX8_nullableSet (.ref 0 :: []) σ = some (some (.int r), σ1) ∧ si_sc gP nX9_nullableSet (.ref 29 :: []) σ1 = some (some (.int r), σ2) ∧ I σ2)) (i : Nat) (hi : 3 * i + 3 ≤ L) (hL : L ≤ 1536) (σ : si_M) (hI : I σ) (H : Heap) (locs : List Loc) (ls : Array Slot) (hP : va_P D gcl (si_W dA s.heap.size gsh σ) H) (hS : va_S (fun q => s.heap.size ≤ q) s.heap H locs) (hl : lv_has ls 4 [(0, .ref b), (1, .ref (s.heap.size + 0)), (2, .ref (s.heap.size + 29)), (3, .int (nI (3 * i)))])
    (hk : ∀ (σ2 : si_M) (H2 : Heap) (locs2 : List Loc), I σ2 → va_P D gcl (si_W dA s.heap.size gsh σ2) H2 → va_S (fun q => s.heap.size ≤ q) s.heap H2 locs2 → W p l e room_1 s m #[Value.ref b] below meth c H2 locs2 45 5189 (lw_Z below #[Value.ref b] s) (F0 m 640 ls [])) : W p l e room_1 s m #[Value.ref b] below meth c H locs 45 5189 (lw_Z below #[Value.ref b] s) (F0 m 303 ls []) := by
  obtain ⟨hx, hb, hr, hml, hown, htsw, hX, hbl, hlocks, hgv⟩ := C0
  have hbA : ¬ (fun q : Nat => s.heap.size ≤ q) b := Nat.not_le.mpr hbl
  obtain ⟨r, σ1, σ2, f1, f2, f3⟩ := hf  σ hI
  refine lv_aload_n hx hb dL_303 rfl (lv_at hl 1 rfl) ?_
  have ok0 : si_cok gmt gcl RL 11 418 49 [94, 0, 1, 7, 516, 517, 91, 519, 518] true = true := by decide +kernel
  refine lw_call X (rc := 1) (q := 0) (as := []) (rest := []) (fr := 11) (lo := 418) (Nat.le_refl 11) (Nat.le_refl 418) (Nat.le_refl 45) (Nat.le_refl 5189) ok0 rfl rfl (Nat.le_of_ble_eq_true rfl) f1 hP hS hl.1 dL_304 (fun H1 locs1 hP hS => ?_)
  refine lv_aload_n hx hb dL_307 rfl (lv_at hl 2 rfl) ?_
  have ok1 : si_cok gmt gcl RL 11 418 52 [98, 0, 1, 8, 1154, 1155, 99, 1157, 1156] true = true := by decide +kernel
  refine lw_call X (rc := 1) (q := 29) (as := []) (rest := [.int r]) (fr := 11) (lo := 418) (Nat.le_refl 11) (Nat.le_refl 418) (Nat.le_refl 45) (Nat.le_refl 5189) ok1 rfl rfl (Nat.le_of_ble_eq_true rfl) f2 hP hS hl.1 dL_308 (fun H2 locs2 hP hS => ?_)
  refine lv_icmp_eq (tgt := 640) hx hb dL_311 (by decide) (fun _ => ?_) (fun hne => absurd rfl hne)
  exact hk σ2 _ _ f3 hP hS
set_option maxHeartbeats 4000000 in
theorem lw_c9 {p : Program} {l : Launch} {e : Env} {s : State} {m : MethodId} {below : List Frame} {meth : Method} {c : Code} {D : va_G} {dA : Bool → ClassId} {b L : Nat} {xs : Nat → Int32} (C0 : lw_At p s m meth c b L xs) (X : si_Ctx p s m #[Value.ref b] c D dA gcl code RL 4) (I : si_M → Prop) (hf : (∀ σ, I σ → ∃ (r : Int32) (σ1 σ2 : si_M), si_sc gP nX8_productiveSet (.ref 0 :: []) σ = some (some (.int r), σ1) ∧ si_sc gP nX9_productiveSet (.ref 29 :: []) σ1 = some (some (.int r), σ2) ∧ I σ2)) (i : Nat) (hi : 3 * i + 3 ≤ L) (hL : L ≤ 1536) (σ : si_M) (hI : I σ) (H : Heap) (locs : List Loc) (ls : Array Slot) (hP : va_P D gcl (si_W dA s.heap.size gsh σ) H) (hS : va_S (fun q => s.heap.size ≤ q) s.heap H locs) (hl : lv_has ls 4 [(0, .ref b), (1, .ref (s.heap.size + 0)), (2, .ref (s.heap.size + 29)), (3, .int (nI (3 * i)))])
    (hk : ∀ (σ2 : si_M) (H2 : Heap) (locs2 : List Loc), I σ2 → va_P D gcl (si_W dA s.heap.size gsh σ2) H2 → va_S (fun q => s.heap.size ≤ q) s.heap H2 locs2 → W p l e room_1 s m #[Value.ref b] below meth c H2 locs2 45 5189 (lw_Z below #[Value.ref b] s) (F0 m 640 ls [])) : W p l e room_1 s m #[Value.ref b] below meth c H locs 45 5189 (lw_Z below #[Value.ref b] s) (F0 m 316 ls []) := by
  obtain ⟨hx, hb, hr, hml, hown, htsw, hX, hbl, hlocks, hgv⟩ := C0
  have hbA : ¬ (fun q : Nat => s.heap.size ≤ q) b := Nat.not_le.mpr hbl
  obtain ⟨r, σ1, σ2, f1, f2, f3⟩ := hf  σ hI
  refine lv_aload_n hx hb dL_316 rfl (lv_at hl 1 rfl) ?_
  have ok0 : si_cok gmt gcl RL 11 418 53 [100, 0, 1, 7, 533, 534, 91, 536, 535] true = true := by decide +kernel
  refine lw_call X (rc := 1) (q := 0) (as := []) (rest := []) (fr := 11) (lo := 418) (Nat.le_refl 11) (Nat.le_refl 418) (Nat.le_refl 45) (Nat.le_refl 5189) ok0 rfl rfl (Nat.le_of_ble_eq_true rfl) f1 hP hS hl.1 dL_317 (fun H1 locs1 hP hS => ?_)
  refine lv_aload_n hx hb dL_320 rfl (lv_at hl 2 rfl) ?_
  have ok1 : si_cok gmt gcl RL 11 418 56 [102, 0, 1, 8, 1169, 1170, 99, 1172, 1171] true = true := by decide +kernel
  refine lw_call X (rc := 1) (q := 29) (as := []) (rest := [.int r]) (fr := 11) (lo := 418) (Nat.le_refl 11) (Nat.le_refl 418) (Nat.le_refl 45) (Nat.le_refl 5189) ok1 rfl rfl (Nat.le_of_ble_eq_true rfl) f2 hP hS hl.1 dL_321 (fun H2 locs2 hP hS => ?_)
  refine lv_icmp_eq (tgt := 640) hx hb dL_324 (by decide) (fun _ => ?_) (fun hne => absurd rfl hne)
  exact hk σ2 _ _ f3 hP hS
set_option maxHeartbeats 4000000 in
theorem lw_c10 {p : Program} {l : Launch} {e : Env} {s : State} {m : MethodId} {below : List Frame} {meth : Method} {c : Code} {D : va_G} {dA : Bool → ClassId} {b L : Nat} {xs : Nat → Int32} (C0 : lw_At p s m meth c b L xs) (X : si_Ctx p s m #[Value.ref b] c D dA gcl code RL 4) (I : si_M → Prop) (hf : (∀ σ, I σ → ∃ (r : Int32) (σ1 σ2 : si_M), si_sc gP nX8_reachableSet (.ref 0 :: []) σ = some (some (.int r), σ1) ∧ si_sc gP nX9_reachableSet (.ref 29 :: []) σ1 = some (some (.int r), σ2) ∧ I σ2)) (i : Nat) (hi : 3 * i + 3 ≤ L) (hL : L ≤ 1536) (σ : si_M) (hI : I σ) (H : Heap) (locs : List Loc) (ls : Array Slot) (hP : va_P D gcl (si_W dA s.heap.size gsh σ) H) (hS : va_S (fun q => s.heap.size ≤ q) s.heap H locs) (hl : lv_has ls 4 [(0, .ref b), (1, .ref (s.heap.size + 0)), (2, .ref (s.heap.size + 29)), (3, .int (nI (3 * i)))])
    (hk : ∀ (σ2 : si_M) (H2 : Heap) (locs2 : List Loc), I σ2 → va_P D gcl (si_W dA s.heap.size gsh σ2) H2 → va_S (fun q => s.heap.size ≤ q) s.heap H2 locs2 → W p l e room_1 s m #[Value.ref b] below meth c H2 locs2 45 5189 (lw_Z below #[Value.ref b] s) (F0 m 640 ls [])) : W p l e room_1 s m #[Value.ref b] below meth c H locs 45 5189 (lw_Z below #[Value.ref b] s) (F0 m 329 ls []) := by
  obtain ⟨hx, hb, hr, hml, hown, htsw, hX, hbl, hlocks, hgv⟩ := C0
  have hbA : ¬ (fun q : Nat => s.heap.size ≤ q) b := Nat.not_le.mpr hbl
  obtain ⟨r, σ1, σ2, f1, f2, f3⟩ := hf  σ hI
  refine lv_aload_n hx hb dL_329 rfl (lv_at hl 1 rfl) ?_
  have ok0 : si_cok gmt gcl RL 11 418 57 [105, 0, 1, 7, 542, 543, 91, 545, 544] true = true := by decide +kernel
  refine lw_call X (rc := 1) (q := 0) (as := []) (rest := []) (fr := 11) (lo := 418) (Nat.le_refl 11) (Nat.le_refl 418) (Nat.le_refl 45) (Nat.le_refl 5189) ok0 rfl rfl (Nat.le_of_ble_eq_true rfl) f1 hP hS hl.1 dL_330 (fun H1 locs1 hP hS => ?_)
  refine lv_aload_n hx hb dL_333 rfl (lv_at hl 2 rfl) ?_
  have ok1 : si_cok gmt gcl RL 11 418 60 [107, 0, 1, 8, 1177, 1178, 99, 1180, 1179] true = true := by decide +kernel
  refine lw_call X (rc := 1) (q := 29) (as := []) (rest := [.int r]) (fr := 11) (lo := 418) (Nat.le_refl 11) (Nat.le_refl 418) (Nat.le_refl 45) (Nat.le_refl 5189) ok1 rfl rfl (Nat.le_of_ble_eq_true rfl) f2 hP hS hl.1 dL_334 (fun H2 locs2 hP hS => ?_)
  refine lv_icmp_eq (tgt := 640) hx hb dL_337 (by decide) (fun _ => ?_) (fun hne => absurd rfl hne)
  exact hk σ2 _ _ f3 hP hS
set_option maxHeartbeats 4000000 in
theorem lw_c11 {p : Program} {l : Launch} {e : Env} {s : State} {m : MethodId} {below : List Frame} {meth : Method} {c : Code} {D : va_G} {dA : Bool → ClassId} {b L : Nat} {xs : Nat → Int32} (C0 : lw_At p s m meth c b L xs) (X : si_Ctx p s m #[Value.ref b] c D dA gcl code RL 4) (I : si_M → Prop) (hf : (∀ σ, I σ → ∃ (r : Int32) (σ1 σ2 : si_M), si_sc gP nX8_leftRecursiveSet (.ref 0 :: []) σ = some (some (.int r), σ1) ∧ si_sc gP nX9_leftRecursiveSet (.ref 29 :: []) σ1 = some (some (.int r), σ2) ∧ I σ2)) (i : Nat) (hi : 3 * i + 3 ≤ L) (hL : L ≤ 1536) (σ : si_M) (hI : I σ) (H : Heap) (locs : List Loc) (ls : Array Slot) (hP : va_P D gcl (si_W dA s.heap.size gsh σ) H) (hS : va_S (fun q => s.heap.size ≤ q) s.heap H locs) (hl : lv_has ls 4 [(0, .ref b), (1, .ref (s.heap.size + 0)), (2, .ref (s.heap.size + 29)), (3, .int (nI (3 * i)))])
    (hk : ∀ (σ2 : si_M) (H2 : Heap) (locs2 : List Loc), I σ2 → va_P D gcl (si_W dA s.heap.size gsh σ2) H2 → va_S (fun q => s.heap.size ≤ q) s.heap H2 locs2 → W p l e room_1 s m #[Value.ref b] below meth c H2 locs2 45 5189 (lw_Z below #[Value.ref b] s) (F0 m 640 ls [])) : W p l e room_1 s m #[Value.ref b] below meth c H locs 45 5189 (lw_Z below #[Value.ref b] s) (F0 m 342 ls []) := by
  obtain ⟨hx, hb, hr, hml, hown, htsw, hX, hbl, hlocks, hgv⟩ := C0
  have hbA : ¬ (fun q : Nat => s.heap.size ≤ q) b := Nat.not_le.mpr hbl
  obtain ⟨r, σ1, σ2, f1, f2, f3⟩ := hf  σ hI
  refine lv_aload_n hx hb dL_342 rfl (lv_at hl 1 rfl) ?_
  have ok0 : si_cok gmt gcl RL 11 418 61 [110, 0, 1, 7, 556, 557, 91, 559, 558] true = true := by decide +kernel
  refine lw_call X (rc := 1) (q := 0) (as := []) (rest := []) (fr := 11) (lo := 418) (Nat.le_refl 11) (Nat.le_refl 418) (Nat.le_refl 45) (Nat.le_refl 5189) ok0 rfl rfl (Nat.le_of_ble_eq_true rfl) f1 hP hS hl.1 dL_343 (fun H1 locs1 hP hS => ?_)
  refine lv_aload_n hx hb dL_346 rfl (lv_at hl 2 rfl) ?_
  have ok1 : si_cok gmt gcl RL 11 418 64 [112, 0, 1, 8, 1184, 1185, 99, 1187, 1186] true = true := by decide +kernel
  refine lw_call X (rc := 1) (q := 29) (as := []) (rest := [.int r]) (fr := 11) (lo := 418) (Nat.le_refl 11) (Nat.le_refl 418) (Nat.le_refl 45) (Nat.le_refl 5189) ok1 rfl rfl (Nat.le_of_ble_eq_true rfl) f2 hP hS hl.1 dL_347 (fun H2 locs2 hP hS => ?_)
  refine lv_icmp_eq (tgt := 640) hx hb dL_350 (by decide) (fun _ => ?_) (fun hne => absurd rfl hne)
  exact hk σ2 _ _ f3 hP hS
set_option maxHeartbeats 4000000 in
theorem lw_c12 {p : Program} {l : Launch} {e : Env} {s : State} {m : MethodId} {below : List Frame} {meth : Method} {c : Code} {D : va_G} {dA : Bool → ClassId} {b L : Nat} {xs : Nat → Int32} (C0 : lw_At p s m meth c b L xs) (X : si_Ctx p s m #[Value.ref b] c D dA gcl code RL 4) (I : si_M → Prop) (hf : (∀ a : Int32, ∀ σ, I σ → ∃ (r : Int32) (σ1 σ2 : si_M), si_sc gP nX8_unitReach (.ref 0 :: [.int a]) σ = some (some (.int r), σ1) ∧ si_sc gP nX9_unitReach (.ref 29 :: [.int a]) σ1 = some (some (.int r), σ2) ∧ I σ2)) (i : Nat) (hi : 3 * i + 3 ≤ L) (hL : L ≤ 1536) (σ : si_M) (hI : I σ) (H : Heap) (locs : List Loc) (ls : Array Slot) (hP : va_P D gcl (si_W dA s.heap.size gsh σ) H) (hS : va_S (fun q => s.heap.size ≤ q) s.heap H locs) (hl : lv_has ls 4 [(0, .ref b), (1, .ref (s.heap.size + 0)), (2, .ref (s.heap.size + 29)), (3, .int (nI (3 * i)))])
    (hk : ∀ (σ2 : si_M) (H2 : Heap) (locs2 : List Loc), I σ2 → va_P D gcl (si_W dA s.heap.size gsh σ2) H2 → va_S (fun q => s.heap.size ≤ q) s.heap H2 locs2 → W p l e room_1 s m #[Value.ref b] below meth c H2 locs2 45 5189 (lw_Z below #[Value.ref b] s) (F0 m 640 ls [])) : W p l e room_1 s m #[Value.ref b] below meth c H locs 45 5189 (lw_Z below #[Value.ref b] s) (F0 m 355 ls []) := by
  obtain ⟨hx, hb, hr, hml, hown, htsw, hX, hbl, hlocks, hgv⟩ := C0
  have hbA : ¬ (fun q : Nat => s.heap.size ≤ q) b := Nat.not_le.mpr hbl
  have e1 : nI (3 * i) + 1 = nI (3 * i + 1) := nI_add _ _
  have v1 : vp_in (nI (3 * i) + 1) L := by rw [e1]; exact vp_in_nI (by omega) (by omega)
  obtain ⟨r, σ1, σ2, f1, f2, f3⟩ := hf (xs (nI (3 * i) + 1).toNatClampNeg) σ hI
  refine lv_aload_n hx hb dL_355 rfl (lv_at hl 1 rfl) ?_
  refine lv_aload_n hx hb dL_356 rfl (lv_at hl 0 rfl) ?_
  refine lv_iload_n hx hb dL_357 rfl (lv_at hl 3 rfl) ?_
  refine lv_iconst (v := 1) hx hb dL_358 (by decide) ?_
  refine lv_iadd hx hb dL_359 ?_
  refine va_sld hx hb hX hbl hbA hS v1 dL_360 ?_
  have ok0 : si_cok gmt gcl RL 11 418 65 [113, 1, 1, 7, 568, 569, 91, 571, 570] true = true := by decide +kernel
  refine lw_call X (rc := 1) (q := 0) (as := [.int (xs (nI (3 * i) + 1).toNatClampNeg)]) (rest := []) (fr := 11) (lo := 418) (Nat.le_refl 11) (Nat.le_refl 418) (Nat.le_refl 45) (Nat.le_refl 5189) ok0 rfl rfl (Nat.le_of_ble_eq_true rfl) f1 hP hS hl.1 dL_361 (fun H1 locs1 hP hS => ?_)
  refine lv_aload_n hx hb dL_364 rfl (lv_at hl 2 rfl) ?_
  refine lv_aload_n hx hb dL_365 rfl (lv_at hl 0 rfl) ?_
  refine lv_iload_n hx hb dL_366 rfl (lv_at hl 3 rfl) ?_
  refine lv_iconst (v := 1) hx hb dL_367 (by decide) ?_
  refine lv_iadd hx hb dL_368 ?_
  refine va_sld hx hb hX hbl hbA hS v1 dL_369 ?_
  have ok1 : si_cok gmt gcl RL 11 418 68 [115, 1, 1, 8, 1192, 1193, 99, 1195, 1194] true = true := by decide +kernel
  refine lw_call X (rc := 1) (q := 29) (as := [.int (xs (nI (3 * i) + 1).toNatClampNeg)]) (rest := [.int r]) (fr := 11) (lo := 418) (Nat.le_refl 11) (Nat.le_refl 418) (Nat.le_refl 45) (Nat.le_refl 5189) ok1 rfl rfl (Nat.le_of_ble_eq_true rfl) f2 hP hS hl.1 dL_370 (fun H2 locs2 hP hS => ?_)
  refine lv_icmp_eq (tgt := 640) hx hb dL_373 (by decide) (fun _ => ?_) (fun hne => absurd rfl hne)
  exact hk σ2 _ _ f3 hP hS
set_option maxHeartbeats 4000000 in
theorem lw_c13 {p : Program} {l : Launch} {e : Env} {s : State} {m : MethodId} {below : List Frame} {meth : Method} {c : Code} {D : va_G} {dA : Bool → ClassId} {b L : Nat} {xs : Nat → Int32} (C0 : lw_At p s m meth c b L xs) (X : si_Ctx p s m #[Value.ref b] c D dA gcl code RL 4) (I : si_M → Prop) (hf : (∀ a : Int32, ∀ σ, I σ → ∃ (r : Int32) (σ1 σ2 : si_M), si_sc gP nX8_firstSet (.ref 0 :: [.int a]) σ = some (some (.int r), σ1) ∧ si_sc gP nX9_firstSet (.ref 29 :: [.int a]) σ1 = some (some (.int r), σ2) ∧ I σ2)) (i : Nat) (hi : 3 * i + 3 ≤ L) (hL : L ≤ 1536) (σ : si_M) (hI : I σ) (H : Heap) (locs : List Loc) (ls : Array Slot) (hP : va_P D gcl (si_W dA s.heap.size gsh σ) H) (hS : va_S (fun q => s.heap.size ≤ q) s.heap H locs) (hl : lv_has ls 4 [(0, .ref b), (1, .ref (s.heap.size + 0)), (2, .ref (s.heap.size + 29)), (3, .int (nI (3 * i)))])
    (hk : ∀ (σ2 : si_M) (H2 : Heap) (locs2 : List Loc), I σ2 → va_P D gcl (si_W dA s.heap.size gsh σ2) H2 → va_S (fun q => s.heap.size ≤ q) s.heap H2 locs2 → W p l e room_1 s m #[Value.ref b] below meth c H2 locs2 45 5189 (lw_Z below #[Value.ref b] s) (F0 m 640 ls [])) : W p l e room_1 s m #[Value.ref b] below meth c H locs 45 5189 (lw_Z below #[Value.ref b] s) (F0 m 378 ls []) := by
  obtain ⟨hx, hb, hr, hml, hown, htsw, hX, hbl, hlocks, hgv⟩ := C0
  have hbA : ¬ (fun q : Nat => s.heap.size ≤ q) b := Nat.not_le.mpr hbl
  have e1 : nI (3 * i) + 1 = nI (3 * i + 1) := nI_add _ _
  have v1 : vp_in (nI (3 * i) + 1) L := by rw [e1]; exact vp_in_nI (by omega) (by omega)
  obtain ⟨r, σ1, σ2, f1, f2, f3⟩ := hf (xs (nI (3 * i) + 1).toNatClampNeg) σ hI
  refine lv_aload_n hx hb dL_378 rfl (lv_at hl 1 rfl) ?_
  refine lv_aload_n hx hb dL_379 rfl (lv_at hl 0 rfl) ?_
  refine lv_iload_n hx hb dL_380 rfl (lv_at hl 3 rfl) ?_
  refine lv_iconst (v := 1) hx hb dL_381 (by decide) ?_
  refine lv_iadd hx hb dL_382 ?_
  refine va_sld hx hb hX hbl hbA hS v1 dL_383 ?_
  have ok0 : si_cok gmt gcl RL 11 418 69 [125, 1, 1, 7, 572, 573, 91, 575, 574] true = true := by decide +kernel
  refine lw_call X (rc := 1) (q := 0) (as := [.int (xs (nI (3 * i) + 1).toNatClampNeg)]) (rest := []) (fr := 11) (lo := 418) (Nat.le_refl 11) (Nat.le_refl 418) (Nat.le_refl 45) (Nat.le_refl 5189) ok0 rfl rfl (Nat.le_of_ble_eq_true rfl) f1 hP hS hl.1 dL_384 (fun H1 locs1 hP hS => ?_)
  refine lv_aload_n hx hb dL_387 rfl (lv_at hl 2 rfl) ?_
  refine lv_aload_n hx hb dL_388 rfl (lv_at hl 0 rfl) ?_
  refine lv_iload_n hx hb dL_389 rfl (lv_at hl 3 rfl) ?_
  refine lv_iconst (v := 1) hx hb dL_390 (by decide) ?_
  refine lv_iadd hx hb dL_391 ?_
  refine va_sld hx hb hX hbl hbA hS v1 dL_392 ?_
  have ok1 : si_cok gmt gcl RL 11 418 72 [129, 1, 1, 8, 1199, 1200, 99, 1202, 1201] true = true := by decide +kernel
  refine lw_call X (rc := 1) (q := 29) (as := [.int (xs (nI (3 * i) + 1).toNatClampNeg)]) (rest := [.int r]) (fr := 11) (lo := 418) (Nat.le_refl 11) (Nat.le_refl 418) (Nat.le_refl 45) (Nat.le_refl 5189) ok1 rfl rfl (Nat.le_of_ble_eq_true rfl) f2 hP hS hl.1 dL_393 (fun H2 locs2 hP hS => ?_)
  refine lv_icmp_eq (tgt := 640) hx hb dL_396 (by decide) (fun _ => ?_) (fun hne => absurd rfl hne)
  exact hk σ2 _ _ f3 hP hS
set_option maxHeartbeats 4000000 in
theorem lw_c14 {p : Program} {l : Launch} {e : Env} {s : State} {m : MethodId} {below : List Frame} {meth : Method} {c : Code} {D : va_G} {dA : Bool → ClassId} {b L : Nat} {xs : Nat → Int32} (C0 : lw_At p s m meth c b L xs) (X : si_Ctx p s m #[Value.ref b] c D dA gcl code RL 4) (I : si_M → Prop) (hf : (∀ a : Int32, ∀ σ, I σ → ∃ (r : Int32) (σ1 σ2 : si_M), si_sc gP nX8_followSet (.ref 0 :: [.int a]) σ = some (some (.int r), σ1) ∧ si_sc gP nX9_followSet (.ref 29 :: [.int a]) σ1 = some (some (.int r), σ2) ∧ I σ2)) (i : Nat) (hi : 3 * i + 3 ≤ L) (hL : L ≤ 1536) (σ : si_M) (hI : I σ) (H : Heap) (locs : List Loc) (ls : Array Slot) (hP : va_P D gcl (si_W dA s.heap.size gsh σ) H) (hS : va_S (fun q => s.heap.size ≤ q) s.heap H locs) (hl : lv_has ls 4 [(0, .ref b), (1, .ref (s.heap.size + 0)), (2, .ref (s.heap.size + 29)), (3, .int (nI (3 * i)))])
    (hk : ∀ (σ2 : si_M) (H2 : Heap) (locs2 : List Loc), I σ2 → va_P D gcl (si_W dA s.heap.size gsh σ2) H2 → va_S (fun q => s.heap.size ≤ q) s.heap H2 locs2 → W p l e room_1 s m #[Value.ref b] below meth c H2 locs2 45 5189 (lw_Z below #[Value.ref b] s) (F0 m 640 ls [])) : W p l e room_1 s m #[Value.ref b] below meth c H locs 45 5189 (lw_Z below #[Value.ref b] s) (F0 m 401 ls []) := by
  obtain ⟨hx, hb, hr, hml, hown, htsw, hX, hbl, hlocks, hgv⟩ := C0
  have hbA : ¬ (fun q : Nat => s.heap.size ≤ q) b := Nat.not_le.mpr hbl
  have e1 : nI (3 * i) + 1 = nI (3 * i + 1) := nI_add _ _
  have v1 : vp_in (nI (3 * i) + 1) L := by rw [e1]; exact vp_in_nI (by omega) (by omega)
  obtain ⟨r, σ1, σ2, f1, f2, f3⟩ := hf (xs (nI (3 * i) + 1).toNatClampNeg) σ hI
  refine lv_aload_n hx hb dL_401 rfl (lv_at hl 1 rfl) ?_
  refine lv_aload_n hx hb dL_402 rfl (lv_at hl 0 rfl) ?_
  refine lv_iload_n hx hb dL_403 rfl (lv_at hl 3 rfl) ?_
  refine lv_iconst (v := 1) hx hb dL_404 (by decide) ?_
  refine lv_iadd hx hb dL_405 ?_
  refine va_sld hx hb hX hbl hbA hS v1 dL_406 ?_
  have ok0 : si_cok gmt gcl RL 11 418 73 [130, 1, 1, 7, 622, 623, 91, 625, 624] true = true := by decide +kernel
  refine lw_call X (rc := 1) (q := 0) (as := [.int (xs (nI (3 * i) + 1).toNatClampNeg)]) (rest := []) (fr := 11) (lo := 418) (Nat.le_refl 11) (Nat.le_refl 418) (Nat.le_refl 45) (Nat.le_refl 5189) ok0 rfl rfl (Nat.le_of_ble_eq_true rfl) f1 hP hS hl.1 dL_407 (fun H1 locs1 hP hS => ?_)
  refine lv_aload_n hx hb dL_410 rfl (lv_at hl 2 rfl) ?_
  refine lv_aload_n hx hb dL_411 rfl (lv_at hl 0 rfl) ?_
  refine lv_iload_n hx hb dL_412 rfl (lv_at hl 3 rfl) ?_
  refine lv_iconst (v := 1) hx hb dL_413 (by decide) ?_
  refine lv_iadd hx hb dL_414 ?_
  refine va_sld hx hb hX hbl hbA hS v1 dL_415 ?_
  have ok1 : si_cok gmt gcl RL 11 418 76 [133, 1, 1, 8, 1215, 1216, 99, 1218, 1217] true = true := by decide +kernel
  refine lw_call X (rc := 1) (q := 29) (as := [.int (xs (nI (3 * i) + 1).toNatClampNeg)]) (rest := [.int r]) (fr := 11) (lo := 418) (Nat.le_refl 11) (Nat.le_refl 418) (Nat.le_refl 45) (Nat.le_refl 5189) ok1 rfl rfl (Nat.le_of_ble_eq_true rfl) f2 hP hS hl.1 dL_416 (fun H2 locs2 hP hS => ?_)
  refine lv_icmp_eq (tgt := 640) hx hb dL_419 (by decide) (fun _ => ?_) (fun hne => absurd rfl hne)
  exact hk σ2 _ _ f3 hP hS
set_option maxHeartbeats 4000000 in
theorem lw_c15 {p : Program} {l : Launch} {e : Env} {s : State} {m : MethodId} {below : List Frame} {meth : Method} {c : Code} {D : va_G} {dA : Bool → ClassId} {b L : Nat} {xs : Nat → Int32} (C0 : lw_At p s m meth c b L xs) (X : si_Ctx p s m #[Value.ref b] c D dA gcl code RL 4) (I : si_M → Prop) (hf : (∀ σ, I σ → ∃ (r : Int32) (σ1 σ2 : si_M), si_sc gP nX8_isLl1 (.ref 0 :: []) σ = some (some (.int r), σ1) ∧ si_sc gP nX9_isLl1 (.ref 29 :: []) σ1 = some (some (.int r), σ2) ∧ I σ2)) (i : Nat) (hi : 3 * i + 3 ≤ L) (hL : L ≤ 1536) (σ : si_M) (hI : I σ) (H : Heap) (locs : List Loc) (ls : Array Slot) (hP : va_P D gcl (si_W dA s.heap.size gsh σ) H) (hS : va_S (fun q => s.heap.size ≤ q) s.heap H locs) (hl : lv_has ls 4 [(0, .ref b), (1, .ref (s.heap.size + 0)), (2, .ref (s.heap.size + 29)), (3, .int (nI (3 * i)))])
    (hk : ∀ (σ2 : si_M) (H2 : Heap) (locs2 : List Loc), I σ2 → va_P D gcl (si_W dA s.heap.size gsh σ2) H2 → va_S (fun q => s.heap.size ≤ q) s.heap H2 locs2 → W p l e room_1 s m #[Value.ref b] below meth c H2 locs2 45 5189 (lw_Z below #[Value.ref b] s) (F0 m 640 ls [])) : W p l e room_1 s m #[Value.ref b] below meth c H locs 45 5189 (lw_Z below #[Value.ref b] s) (F0 m 424 ls []) := by
  obtain ⟨hx, hb, hr, hml, hown, htsw, hX, hbl, hlocks, hgv⟩ := C0
  have hbA : ¬ (fun q : Nat => s.heap.size ≤ q) b := Nat.not_le.mpr hbl
  obtain ⟨r, σ1, σ2, f1, f2, f3⟩ := hf  σ hI
  refine lv_aload_n hx hb dL_424 rfl (lv_at hl 1 rfl) ?_
  have ok0 : si_cok gmt gcl RL 11 418 77 [135, 0, 1, 7, 627, 628, 91, 630, 629] true = true := by decide +kernel
  refine lw_call X (rc := 1) (q := 0) (as := []) (rest := []) (fr := 11) (lo := 418) (Nat.le_refl 11) (Nat.le_refl 418) (Nat.le_refl 45) (Nat.le_refl 5189) ok0 rfl rfl (Nat.le_of_ble_eq_true rfl) f1 hP hS hl.1 dL_425 (fun H1 locs1 hP hS => ?_)
  refine lv_aload_n hx hb dL_428 rfl (lv_at hl 2 rfl) ?_
  have ok1 : si_cok gmt gcl RL 11 418 80 [137, 0, 1, 8, 1227, 1228, 99, 1230, 1229] true = true := by decide +kernel
  refine lw_call X (rc := 1) (q := 29) (as := []) (rest := [.int r]) (fr := 11) (lo := 418) (Nat.le_refl 11) (Nat.le_refl 418) (Nat.le_refl 45) (Nat.le_refl 5189) ok1 rfl rfl (Nat.le_of_ble_eq_true rfl) f2 hP hS hl.1 dL_429 (fun H2 locs2 hP hS => ?_)
  refine lv_icmp_eq (tgt := 640) hx hb dL_432 (by decide) (fun _ => ?_) (fun hne => absurd rfl hne)
  exact hk σ2 _ _ f3 hP hS
set_option maxHeartbeats 4000000 in
theorem lw_c16 {p : Program} {l : Launch} {e : Env} {s : State} {m : MethodId} {below : List Frame} {meth : Method} {c : Code} {D : va_G} {dA : Bool → ClassId} {b L : Nat} {xs : Nat → Int32} (C0 : lw_At p s m meth c b L xs) (X : si_Ctx p s m #[Value.ref b] c D dA gcl code RL 4) (I : si_M → Prop) (hf : (∀ σ, I σ → ∃ (r : Int32) (σ1 σ2 : si_M), si_sc gP nX8_isChomsky (.ref 0 :: []) σ = some (some (.int r), σ1) ∧ si_sc gP nX9_isChomsky (.ref 29 :: []) σ1 = some (some (.int r), σ2) ∧ I σ2)) (i : Nat) (hi : 3 * i + 3 ≤ L) (hL : L ≤ 1536) (σ : si_M) (hI : I σ) (H : Heap) (locs : List Loc) (ls : Array Slot) (hP : va_P D gcl (si_W dA s.heap.size gsh σ) H) (hS : va_S (fun q => s.heap.size ≤ q) s.heap H locs) (hl : lv_has ls 4 [(0, .ref b), (1, .ref (s.heap.size + 0)), (2, .ref (s.heap.size + 29)), (3, .int (nI (3 * i)))])
    (hk : ∀ (σ2 : si_M) (H2 : Heap) (locs2 : List Loc), I σ2 → va_P D gcl (si_W dA s.heap.size gsh σ2) H2 → va_S (fun q => s.heap.size ≤ q) s.heap H2 locs2 → W p l e room_1 s m #[Value.ref b] below meth c H2 locs2 45 5189 (lw_Z below #[Value.ref b] s) (F0 m 640 ls [])) : W p l e room_1 s m #[Value.ref b] below meth c H locs 45 5189 (lw_Z below #[Value.ref b] s) (F0 m 437 ls []) := by
  obtain ⟨hx, hb, hr, hml, hown, htsw, hX, hbl, hlocks, hgv⟩ := C0
  have hbA : ¬ (fun q : Nat => s.heap.size ≤ q) b := Nat.not_le.mpr hbl
  obtain ⟨r, σ1, σ2, f1, f2, f3⟩ := hf  σ hI
  refine lv_aload_n hx hb dL_437 rfl (lv_at hl 1 rfl) ?_
  have ok0 : si_cok gmt gcl RL 11 418 81 [139, 0, 1, 7, 635, 636, 91, 638, 637] true = true := by decide +kernel
  refine lw_call X (rc := 1) (q := 0) (as := []) (rest := []) (fr := 11) (lo := 418) (Nat.le_refl 11) (Nat.le_refl 418) (Nat.le_refl 45) (Nat.le_refl 5189) ok0 rfl rfl (Nat.le_of_ble_eq_true rfl) f1 hP hS hl.1 dL_438 (fun H1 locs1 hP hS => ?_)
  refine lv_aload_n hx hb dL_441 rfl (lv_at hl 2 rfl) ?_
  have ok1 : si_cok gmt gcl RL 11 418 84 [141, 0, 1, 8, 1235, 1236, 99, 1238, 1237] true = true := by decide +kernel
  refine lw_call X (rc := 1) (q := 29) (as := []) (rest := [.int r]) (fr := 11) (lo := 418) (Nat.le_refl 11) (Nat.le_refl 418) (Nat.le_refl 45) (Nat.le_refl 5189) ok1 rfl rfl (Nat.le_of_ble_eq_true rfl) f2 hP hS hl.1 dL_442 (fun H2 locs2 hP hS => ?_)
  refine lv_icmp_eq (tgt := 640) hx hb dL_445 (by decide) (fun _ => ?_) (fun hne => absurd rfl hne)
  exact hk σ2 _ _ f3 hP hS
set_option maxHeartbeats 4000000 in
theorem lw_c17 {p : Program} {l : Launch} {e : Env} {s : State} {m : MethodId} {below : List Frame} {meth : Method} {c : Code} {D : va_G} {dA : Bool → ClassId} {b L : Nat} {xs : Nat → Int32} (C0 : lw_At p s m meth c b L xs) (X : si_Ctx p s m #[Value.ref b] c D dA gcl code RL 4) (I : si_M → Prop) (hf : (∀ σ, I σ → ∃ (r : Int32) (σ1 σ2 : si_M), si_sc gP nX8_isGreibach (.ref 0 :: []) σ = some (some (.int r), σ1) ∧ si_sc gP nX9_isGreibach (.ref 29 :: []) σ1 = some (some (.int r), σ2) ∧ I σ2)) (i : Nat) (hi : 3 * i + 3 ≤ L) (hL : L ≤ 1536) (σ : si_M) (hI : I σ) (H : Heap) (locs : List Loc) (ls : Array Slot) (hP : va_P D gcl (si_W dA s.heap.size gsh σ) H) (hS : va_S (fun q => s.heap.size ≤ q) s.heap H locs) (hl : lv_has ls 4 [(0, .ref b), (1, .ref (s.heap.size + 0)), (2, .ref (s.heap.size + 29)), (3, .int (nI (3 * i)))])
    (hk : ∀ (σ2 : si_M) (H2 : Heap) (locs2 : List Loc), I σ2 → va_P D gcl (si_W dA s.heap.size gsh σ2) H2 → va_S (fun q => s.heap.size ≤ q) s.heap H2 locs2 → W p l e room_1 s m #[Value.ref b] below meth c H2 locs2 45 5189 (lw_Z below #[Value.ref b] s) (F0 m 640 ls [])) : W p l e room_1 s m #[Value.ref b] below meth c H locs 45 5189 (lw_Z below #[Value.ref b] s) (F0 m 450 ls []) := by
  obtain ⟨hx, hb, hr, hml, hown, htsw, hX, hbl, hlocks, hgv⟩ := C0
  have hbA : ¬ (fun q : Nat => s.heap.size ≤ q) b := Nat.not_le.mpr hbl
  obtain ⟨r, σ1, σ2, f1, f2, f3⟩ := hf  σ hI
  refine lv_aload_n hx hb dL_450 rfl (lv_at hl 1 rfl) ?_
  have ok0 : si_cok gmt gcl RL 11 418 85 [143, 0, 1, 7, 645, 646, 91, 648, 647] true = true := by decide +kernel
  refine lw_call X (rc := 1) (q := 0) (as := []) (rest := []) (fr := 11) (lo := 418) (Nat.le_refl 11) (Nat.le_refl 418) (Nat.le_refl 45) (Nat.le_refl 5189) ok0 rfl rfl (Nat.le_of_ble_eq_true rfl) f1 hP hS hl.1 dL_451 (fun H1 locs1 hP hS => ?_)
  refine lv_aload_n hx hb dL_454 rfl (lv_at hl 2 rfl) ?_
  have ok1 : si_cok gmt gcl RL 11 418 88 [145, 0, 1, 8, 1243, 1244, 99, 1246, 1245] true = true := by decide +kernel
  refine lw_call X (rc := 1) (q := 29) (as := []) (rest := [.int r]) (fr := 11) (lo := 418) (Nat.le_refl 11) (Nat.le_refl 418) (Nat.le_refl 45) (Nat.le_refl 5189) ok1 rfl rfl (Nat.le_of_ble_eq_true rfl) f2 hP hS hl.1 dL_455 (fun H2 locs2 hP hS => ?_)
  refine lv_icmp_eq (tgt := 640) hx hb dL_458 (by decide) (fun _ => ?_) (fun hne => absurd rfl hne)
  exact hk σ2 _ _ f3 hP hS
set_option maxHeartbeats 4000000 in
theorem lw_c18 {p : Program} {l : Launch} {e : Env} {s : State} {m : MethodId} {below : List Frame} {meth : Method} {c : Code} {D : va_G} {dA : Bool → ClassId} {b L : Nat} {xs : Nat → Int32} (C0 : lw_At p s m meth c b L xs) (X : si_Ctx p s m #[Value.ref b] c D dA gcl code RL 4) (I : si_M → Prop) (hf : (∀ σ, I σ → ∃ (r : Int32) (σ1 σ2 : si_M), si_sc gP nX8_removeUseless (.ref 0 :: []) σ = some (some (.int r), σ1) ∧ si_sc gP nX9_removeUseless (.ref 29 :: []) σ1 = some (some (.int r), σ2) ∧ I σ2)) (i : Nat) (hi : 3 * i + 3 ≤ L) (hL : L ≤ 1536) (σ : si_M) (hI : I σ) (H : Heap) (locs : List Loc) (ls : Array Slot) (hP : va_P D gcl (si_W dA s.heap.size gsh σ) H) (hS : va_S (fun q => s.heap.size ≤ q) s.heap H locs) (hl : lv_has ls 4 [(0, .ref b), (1, .ref (s.heap.size + 0)), (2, .ref (s.heap.size + 29)), (3, .int (nI (3 * i)))])
    (hk : ∀ (σ2 : si_M) (H2 : Heap) (locs2 : List Loc), I σ2 → va_P D gcl (si_W dA s.heap.size gsh σ2) H2 → va_S (fun q => s.heap.size ≤ q) s.heap H2 locs2 → W p l e room_1 s m #[Value.ref b] below meth c H2 locs2 45 5189 (lw_Z below #[Value.ref b] s) (F0 m 640 ls [])) : W p l e room_1 s m #[Value.ref b] below meth c H locs 45 5189 (lw_Z below #[Value.ref b] s) (F0 m 463 ls []) := by
  obtain ⟨hx, hb, hr, hml, hown, htsw, hX, hbl, hlocks, hgv⟩ := C0
  have hbA : ¬ (fun q : Nat => s.heap.size ≤ q) b := Nat.not_le.mpr hbl
  obtain ⟨r, σ1, σ2, f1, f2, f3⟩ := hf  σ hI
  refine lv_aload_n hx hb dL_463 rfl (lv_at hl 1 rfl) ?_
  have ok0 : si_cok gmt gcl RL 11 418 89 [152, 0, 1, 7, 652, 653, 91, 655, 654] true = true := by decide +kernel
  refine lw_call X (rc := 1) (q := 0) (as := []) (rest := []) (fr := 11) (lo := 418) (Nat.le_refl 11) (Nat.le_refl 418) (Nat.le_refl 45) (Nat.le_refl 5189) ok0 rfl rfl (Nat.le_of_ble_eq_true rfl) f1 hP hS hl.1 dL_464 (fun H1 locs1 hP hS => ?_)
  refine lv_aload_n hx hb dL_467 rfl (lv_at hl 2 rfl) ?_
  have ok1 : si_cok gmt gcl RL 11 418 92 [156, 0, 1, 8, 1251, 1252, 99, 1254, 1253] true = true := by decide +kernel
  refine lw_call X (rc := 1) (q := 29) (as := []) (rest := [.int r]) (fr := 11) (lo := 418) (Nat.le_refl 11) (Nat.le_refl 418) (Nat.le_refl 45) (Nat.le_refl 5189) ok1 rfl rfl (Nat.le_of_ble_eq_true rfl) f2 hP hS hl.1 dL_468 (fun H2 locs2 hP hS => ?_)
  refine lv_icmp_eq (tgt := 640) hx hb dL_471 (by decide) (fun _ => ?_) (fun hne => absurd rfl hne)
  exact hk σ2 _ _ f3 hP hS
set_option maxHeartbeats 4000000 in
theorem lw_c19 {p : Program} {l : Launch} {e : Env} {s : State} {m : MethodId} {below : List Frame} {meth : Method} {c : Code} {D : va_G} {dA : Bool → ClassId} {b L : Nat} {xs : Nat → Int32} (C0 : lw_At p s m meth c b L xs) (X : si_Ctx p s m #[Value.ref b] c D dA gcl code RL 4) (I : si_M → Prop) (hf : (∀ σ, I σ → ∃ (r : Int32) (σ1 σ2 : si_M), si_sc gP nX8_removeEmpty (.ref 0 :: []) σ = some (some (.int r), σ1) ∧ si_sc gP nX9_removeEmpty (.ref 29 :: []) σ1 = some (some (.int r), σ2) ∧ I σ2)) (i : Nat) (hi : 3 * i + 3 ≤ L) (hL : L ≤ 1536) (σ : si_M) (hI : I σ) (H : Heap) (locs : List Loc) (ls : Array Slot) (hP : va_P D gcl (si_W dA s.heap.size gsh σ) H) (hS : va_S (fun q => s.heap.size ≤ q) s.heap H locs) (hl : lv_has ls 4 [(0, .ref b), (1, .ref (s.heap.size + 0)), (2, .ref (s.heap.size + 29)), (3, .int (nI (3 * i)))])
    (hk : ∀ (σ2 : si_M) (H2 : Heap) (locs2 : List Loc), I σ2 → va_P D gcl (si_W dA s.heap.size gsh σ2) H2 → va_S (fun q => s.heap.size ≤ q) s.heap H2 locs2 → W p l e room_1 s m #[Value.ref b] below meth c H2 locs2 45 5189 (lw_Z below #[Value.ref b] s) (F0 m 640 ls [])) : W p l e room_1 s m #[Value.ref b] below meth c H locs 45 5189 (lw_Z below #[Value.ref b] s) (F0 m 476 ls []) := by
  obtain ⟨hx, hb, hr, hml, hown, htsw, hX, hbl, hlocks, hgv⟩ := C0
  have hbA : ¬ (fun q : Nat => s.heap.size ≤ q) b := Nat.not_le.mpr hbl
  obtain ⟨r, σ1, σ2, f1, f2, f3⟩ := hf  σ hI
  refine lv_aload_n hx hb dL_476 rfl (lv_at hl 1 rfl) ?_
  have ok0 : si_cok gmt gcl RL 11 418 93 [161, 0, 1, 7, 691, 692, 91, 694, 693] true = true := by decide +kernel
  refine lw_call X (rc := 1) (q := 0) (as := []) (rest := []) (fr := 11) (lo := 418) (Nat.le_refl 11) (Nat.le_refl 418) (Nat.le_refl 45) (Nat.le_refl 5189) ok0 rfl rfl (Nat.le_of_ble_eq_true rfl) f1 hP hS hl.1 dL_477 (fun H1 locs1 hP hS => ?_)
  refine lv_aload_n hx hb dL_480 rfl (lv_at hl 2 rfl) ?_
  have ok1 : si_cok gmt gcl RL 11 418 96 [164, 0, 1, 8, 1267, 1268, 99, 1270, 1269] true = true := by decide +kernel
  refine lw_call X (rc := 1) (q := 29) (as := []) (rest := [.int r]) (fr := 11) (lo := 418) (Nat.le_refl 11) (Nat.le_refl 418) (Nat.le_refl 45) (Nat.le_refl 5189) ok1 rfl rfl (Nat.le_of_ble_eq_true rfl) f2 hP hS hl.1 dL_481 (fun H2 locs2 hP hS => ?_)
  refine lv_icmp_eq (tgt := 640) hx hb dL_484 (by decide) (fun _ => ?_) (fun hne => absurd rfl hne)
  exact hk σ2 _ _ f3 hP hS
set_option maxHeartbeats 4000000 in
theorem lw_c20 {p : Program} {l : Launch} {e : Env} {s : State} {m : MethodId} {below : List Frame} {meth : Method} {c : Code} {D : va_G} {dA : Bool → ClassId} {b L : Nat} {xs : Nat → Int32} (C0 : lw_At p s m meth c b L xs) (X : si_Ctx p s m #[Value.ref b] c D dA gcl code RL 4) (I : si_M → Prop) (hf : (∀ σ, I σ → ∃ (r : Int32) (σ1 σ2 : si_M), si_sc gP nX8_removeUnits (.ref 0 :: []) σ = some (some (.int r), σ1) ∧ si_sc gP nX9_removeUnits (.ref 29 :: []) σ1 = some (some (.int r), σ2) ∧ I σ2)) (i : Nat) (hi : 3 * i + 3 ≤ L) (hL : L ≤ 1536) (σ : si_M) (hI : I σ) (H : Heap) (locs : List Loc) (ls : Array Slot) (hP : va_P D gcl (si_W dA s.heap.size gsh σ) H) (hS : va_S (fun q => s.heap.size ≤ q) s.heap H locs) (hl : lv_has ls 4 [(0, .ref b), (1, .ref (s.heap.size + 0)), (2, .ref (s.heap.size + 29)), (3, .int (nI (3 * i)))])
    (hk : ∀ (σ2 : si_M) (H2 : Heap) (locs2 : List Loc), I σ2 → va_P D gcl (si_W dA s.heap.size gsh σ2) H2 → va_S (fun q => s.heap.size ≤ q) s.heap H2 locs2 → W p l e room_1 s m #[Value.ref b] below meth c H2 locs2 45 5189 (lw_Z below #[Value.ref b] s) (F0 m 640 ls [])) : W p l e room_1 s m #[Value.ref b] below meth c H locs 45 5189 (lw_Z below #[Value.ref b] s) (F0 m 489 ls []) := by
  obtain ⟨hx, hb, hr, hml, hown, htsw, hX, hbl, hlocks, hgv⟩ := C0
  have hbA : ¬ (fun q : Nat => s.heap.size ≤ q) b := Nat.not_le.mpr hbl
  obtain ⟨r, σ1, σ2, f1, f2, f3⟩ := hf  σ hI
  refine lv_aload_n hx hb dL_489 rfl (lv_at hl 1 rfl) ?_
  have ok0 : si_cok gmt gcl RL 11 418 97 [168, 0, 1, 7, 718, 719, 91, 721, 720] true = true := by decide +kernel
  refine lw_call X (rc := 1) (q := 0) (as := []) (rest := []) (fr := 11) (lo := 418) (Nat.le_refl 11) (Nat.le_refl 418) (Nat.le_refl 45) (Nat.le_refl 5189) ok0 rfl rfl (Nat.le_of_ble_eq_true rfl) f1 hP hS hl.1 dL_490 (fun H1 locs1 hP hS => ?_)
  refine lv_aload_n hx hb dL_493 rfl (lv_at hl 2 rfl) ?_
  have ok1 : si_cok gmt gcl RL 11 418 100 [170, 0, 1, 8, 1279, 1280, 99, 1282, 1281] true = true := by decide +kernel
  refine lw_call X (rc := 1) (q := 29) (as := []) (rest := [.int r]) (fr := 11) (lo := 418) (Nat.le_refl 11) (Nat.le_refl 418) (Nat.le_refl 45) (Nat.le_refl 5189) ok1 rfl rfl (Nat.le_of_ble_eq_true rfl) f2 hP hS hl.1 dL_494 (fun H2 locs2 hP hS => ?_)
  refine lv_icmp_eq (tgt := 640) hx hb dL_497 (by decide) (fun _ => ?_) (fun hne => absurd rfl hne)
  exact hk σ2 _ _ f3 hP hS
set_option maxHeartbeats 4000000 in
theorem lw_c21 {p : Program} {l : Launch} {e : Env} {s : State} {m : MethodId} {below : List Frame} {meth : Method} {c : Code} {D : va_G} {dA : Bool → ClassId} {b L : Nat} {xs : Nat → Int32} (C0 : lw_At p s m meth c b L xs) (X : si_Ctx p s m #[Value.ref b] c D dA gcl code RL 4) (I : si_M → Prop) (hf : (∀ σ, I σ → ∃ (r : Int32) (σ1 σ2 : si_M), si_sc gP nX8_toChomsky (.ref 0 :: []) σ = some (some (.int r), σ1) ∧ si_sc gP nX9_toChomsky (.ref 29 :: []) σ1 = some (some (.int r), σ2) ∧ I σ2)) (i : Nat) (hi : 3 * i + 3 ≤ L) (hL : L ≤ 1536) (σ : si_M) (hI : I σ) (H : Heap) (locs : List Loc) (ls : Array Slot) (hP : va_P D gcl (si_W dA s.heap.size gsh σ) H) (hS : va_S (fun q => s.heap.size ≤ q) s.heap H locs) (hl : lv_has ls 4 [(0, .ref b), (1, .ref (s.heap.size + 0)), (2, .ref (s.heap.size + 29)), (3, .int (nI (3 * i)))])
    (hk : ∀ (σ2 : si_M) (H2 : Heap) (locs2 : List Loc), I σ2 → va_P D gcl (si_W dA s.heap.size gsh σ2) H2 → va_S (fun q => s.heap.size ≤ q) s.heap H2 locs2 → W p l e room_1 s m #[Value.ref b] below meth c H2 locs2 45 5189 (lw_Z below #[Value.ref b] s) (F0 m 640 ls [])) : W p l e room_1 s m #[Value.ref b] below meth c H locs 45 5189 (lw_Z below #[Value.ref b] s) (F0 m 502 ls []) := by
  obtain ⟨hx, hb, hr, hml, hown, htsw, hX, hbl, hlocks, hgv⟩ := C0
  have hbA : ¬ (fun q : Nat => s.heap.size ≤ q) b := Nat.not_le.mpr hbl
  obtain ⟨r, σ1, σ2, f1, f2, f3⟩ := hf  σ hI
  refine lv_aload_n hx hb dL_502 rfl (lv_at hl 1 rfl) ?_
  have ok0 : si_cok gmt gcl RL 11 418 101 [182, 0, 1, 7, 737, 738, 91, 740, 739] true = true := by decide +kernel
  refine lw_call X (rc := 1) (q := 0) (as := []) (rest := []) (fr := 11) (lo := 418) (Nat.le_refl 11) (Nat.le_refl 418) (Nat.le_refl 45) (Nat.le_refl 5189) ok0 rfl rfl (Nat.le_of_ble_eq_true rfl) f1 hP hS hl.1 dL_503 (fun H1 locs1 hP hS => ?_)
  refine lv_aload_n hx hb dL_506 rfl (lv_at hl 2 rfl) ?_
  have ok1 : si_cok gmt gcl RL 11 418 104 [189, 0, 1, 8, 1287, 1288, 99, 1290, 1289] true = true := by decide +kernel
  refine lw_call X (rc := 1) (q := 29) (as := []) (rest := [.int r]) (fr := 11) (lo := 418) (Nat.le_refl 11) (Nat.le_refl 418) (Nat.le_refl 45) (Nat.le_refl 5189) ok1 rfl rfl (Nat.le_of_ble_eq_true rfl) f2 hP hS hl.1 dL_507 (fun H2 locs2 hP hS => ?_)
  refine lv_icmp_eq (tgt := 640) hx hb dL_510 (by decide) (fun _ => ?_) (fun hne => absurd rfl hne)
  exact hk σ2 _ _ f3 hP hS
set_option maxHeartbeats 4000000 in
theorem lw_c22 {p : Program} {l : Launch} {e : Env} {s : State} {m : MethodId} {below : List Frame} {meth : Method} {c : Code} {D : va_G} {dA : Bool → ClassId} {b L : Nat} {xs : Nat → Int32} (C0 : lw_At p s m meth c b L xs) (X : si_Ctx p s m #[Value.ref b] c D dA gcl code RL 4) (I : si_M → Prop) (hf : (∀ σ, I σ → ∃ (r : Int32) (σ1 σ2 : si_M), si_sc gP nX8_removeLeftRecursion (.ref 0 :: []) σ = some (some (.int r), σ1) ∧ si_sc gP nX9_removeLeftRecursion (.ref 29 :: []) σ1 = some (some (.int r), σ2) ∧ I σ2)) (i : Nat) (hi : 3 * i + 3 ≤ L) (hL : L ≤ 1536) (σ : si_M) (hI : I σ) (H : Heap) (locs : List Loc) (ls : Array Slot) (hP : va_P D gcl (si_W dA s.heap.size gsh σ) H) (hS : va_S (fun q => s.heap.size ≤ q) s.heap H locs) (hl : lv_has ls 4 [(0, .ref b), (1, .ref (s.heap.size + 0)), (2, .ref (s.heap.size + 29)), (3, .int (nI (3 * i)))])
    (hk : ∀ (σ2 : si_M) (H2 : Heap) (locs2 : List Loc), I σ2 → va_P D gcl (si_W dA s.heap.size gsh σ2) H2 → va_S (fun q => s.heap.size ≤ q) s.heap H2 locs2 → W p l e room_1 s m #[Value.ref b] below meth c H2 locs2 45 5189 (lw_Z below #[Value.ref b] s) (F0 m 640 ls [])) : W p l e room_1 s m #[Value.ref b] below meth c H locs 45 5189 (lw_Z below #[Value.ref b] s) (F0 m 515 ls []) := by
  obtain ⟨hx, hb, hr, hml, hown, htsw, hX, hbl, hlocks, hgv⟩ := C0
  have hbA : ¬ (fun q : Nat => s.heap.size ≤ q) b := Nat.not_le.mpr hbl
  obtain ⟨r, σ1, σ2, f1, f2, f3⟩ := hf  σ hI
  refine lv_aload_n hx hb dL_515 rfl (lv_at hl 1 rfl) ?_
  have ok0 : si_cok gmt gcl RL 11 418 105 [197, 0, 1, 7, 790, 791, 91, 793, 792] true = true := by decide +kernel
  refine lw_call X (rc := 1) (q := 0) (as := []) (rest := []) (fr := 11) (lo := 418) (Nat.le_refl 11) (Nat.le_refl 418) (Nat.le_refl 45) (Nat.le_refl 5189) ok0 rfl rfl (Nat.le_of_ble_eq_true rfl) f1 hP hS hl.1 dL_516 (fun H1 locs1 hP hS => ?_)
  refine lv_aload_n hx hb dL_519 rfl (lv_at hl 2 rfl) ?_
  have ok1 : si_cok gmt gcl RL 11 418 108 [204, 0, 1, 8, 1314, 1315, 99, 1317, 1316] true = true := by decide +kernel
  refine lw_call X (rc := 1) (q := 29) (as := []) (rest := [.int r]) (fr := 11) (lo := 418) (Nat.le_refl 11) (Nat.le_refl 418) (Nat.le_refl 45) (Nat.le_refl 5189) ok1 rfl rfl (Nat.le_of_ble_eq_true rfl) f2 hP hS hl.1 dL_520 (fun H2 locs2 hP hS => ?_)
  refine lv_icmp_eq (tgt := 640) hx hb dL_523 (by decide) (fun _ => ?_) (fun hne => absurd rfl hne)
  exact hk σ2 _ _ f3 hP hS
set_option maxHeartbeats 4000000 in
theorem lw_c23 {p : Program} {l : Launch} {e : Env} {s : State} {m : MethodId} {below : List Frame} {meth : Method} {c : Code} {D : va_G} {dA : Bool → ClassId} {b L : Nat} {xs : Nat → Int32} (C0 : lw_At p s m meth c b L xs) (X : si_Ctx p s m #[Value.ref b] c D dA gcl code RL 4) (I : si_M → Prop) (hf : (∀ σ, I σ → ∃ (r : Int32) (σ1 σ2 : si_M), si_sc gP nX8_leftFactor (.ref 0 :: []) σ = some (some (.int r), σ1) ∧ si_sc gP nX9_leftFactor (.ref 29 :: []) σ1 = some (some (.int r), σ2) ∧ I σ2)) (i : Nat) (hi : 3 * i + 3 ≤ L) (hL : L ≤ 1536) (σ : si_M) (hI : I σ) (H : Heap) (locs : List Loc) (ls : Array Slot) (hP : va_P D gcl (si_W dA s.heap.size gsh σ) H) (hS : va_S (fun q => s.heap.size ≤ q) s.heap H locs) (hl : lv_has ls 4 [(0, .ref b), (1, .ref (s.heap.size + 0)), (2, .ref (s.heap.size + 29)), (3, .int (nI (3 * i)))])
    (hk : ∀ (σ2 : si_M) (H2 : Heap) (locs2 : List Loc), I σ2 → va_P D gcl (si_W dA s.heap.size gsh σ2) H2 → va_S (fun q => s.heap.size ≤ q) s.heap H2 locs2 → W p l e room_1 s m #[Value.ref b] below meth c H2 locs2 45 5189 (lw_Z below #[Value.ref b] s) (F0 m 640 ls [])) : W p l e room_1 s m #[Value.ref b] below meth c H locs 45 5189 (lw_Z below #[Value.ref b] s) (F0 m 528 ls []) := by
  obtain ⟨hx, hb, hr, hml, hown, htsw, hX, hbl, hlocks, hgv⟩ := C0
  have hbA : ¬ (fun q : Nat => s.heap.size ≤ q) b := Nat.not_le.mpr hbl
  obtain ⟨r, σ1, σ2, f1, f2, f3⟩ := hf  σ hI
  refine lv_aload_n hx hb dL_528 rfl (lv_at hl 1 rfl) ?_
  have ok0 : si_cok gmt gcl RL 11 418 109 [209, 0, 1, 7, 822, 823, 91, 825, 824] true = true := by decide +kernel
  refine lw_call X (rc := 1) (q := 0) (as := []) (rest := []) (fr := 11) (lo := 418) (Nat.le_refl 11) (Nat.le_refl 418) (Nat.le_refl 45) (Nat.le_refl 5189) ok0 rfl rfl (Nat.le_of_ble_eq_true rfl) f1 hP hS hl.1 dL_529 (fun H1 locs1 hP hS => ?_)
  refine lv_aload_n hx hb dL_532 rfl (lv_at hl 2 rfl) ?_
  have ok1 : si_cok gmt gcl RL 11 418 112 [211, 0, 1, 8, 1342, 1343, 99, 1345, 1344] true = true := by decide +kernel
  refine lw_call X (rc := 1) (q := 29) (as := []) (rest := [.int r]) (fr := 11) (lo := 418) (Nat.le_refl 11) (Nat.le_refl 418) (Nat.le_refl 45) (Nat.le_refl 5189) ok1 rfl rfl (Nat.le_of_ble_eq_true rfl) f2 hP hS hl.1 dL_533 (fun H2 locs2 hP hS => ?_)
  refine lv_icmp_eq (tgt := 640) hx hb dL_536 (by decide) (fun _ => ?_) (fun hne => absurd rfl hne)
  exact hk σ2 _ _ f3 hP hS
set_option maxHeartbeats 4000000 in
theorem lw_c24 {p : Program} {l : Launch} {e : Env} {s : State} {m : MethodId} {below : List Frame} {meth : Method} {c : Code} {D : va_G} {dA : Bool → ClassId} {b L : Nat} {xs : Nat → Int32} (C0 : lw_At p s m meth c b L xs) (X : si_Ctx p s m #[Value.ref b] c D dA gcl code RL 4) (I : si_M → Prop) (hf : (∀ σ, I σ → ∃ (r : Int32) (σ1 σ2 : si_M), si_sc gP nX8_toGreibach (.ref 0 :: []) σ = some (some (.int r), σ1) ∧ si_sc gP nX9_toGreibach (.ref 29 :: []) σ1 = some (some (.int r), σ2) ∧ I σ2)) (i : Nat) (hi : 3 * i + 3 ≤ L) (hL : L ≤ 1536) (σ : si_M) (hI : I σ) (H : Heap) (locs : List Loc) (ls : Array Slot) (hP : va_P D gcl (si_W dA s.heap.size gsh σ) H) (hS : va_S (fun q => s.heap.size ≤ q) s.heap H locs) (hl : lv_has ls 4 [(0, .ref b), (1, .ref (s.heap.size + 0)), (2, .ref (s.heap.size + 29)), (3, .int (nI (3 * i)))])
    (hk : ∀ (σ2 : si_M) (H2 : Heap) (locs2 : List Loc), I σ2 → va_P D gcl (si_W dA s.heap.size gsh σ2) H2 → va_S (fun q => s.heap.size ≤ q) s.heap H2 locs2 → W p l e room_1 s m #[Value.ref b] below meth c H2 locs2 45 5189 (lw_Z below #[Value.ref b] s) (F0 m 640 ls [])) : W p l e room_1 s m #[Value.ref b] below meth c H locs 45 5189 (lw_Z below #[Value.ref b] s) (F0 m 541 ls []) := by
  obtain ⟨hx, hb, hr, hml, hown, htsw, hX, hbl, hlocks, hgv⟩ := C0
  have hbA : ¬ (fun q : Nat => s.heap.size ≤ q) b := Nat.not_le.mpr hbl
  obtain ⟨r, σ1, σ2, f1, f2, f3⟩ := hf  σ hI
  refine lv_aload_n hx hb dL_541 rfl (lv_at hl 1 rfl) ?_
  have ok0 : si_cok gmt gcl RL 11 418 113 [214, 0, 1, 7, 842, 843, 91, 845, 844] true = true := by decide +kernel
  refine lw_call X (rc := 1) (q := 0) (as := []) (rest := []) (fr := 11) (lo := 418) (Nat.le_refl 11) (Nat.le_refl 418) (Nat.le_refl 45) (Nat.le_refl 5189) ok0 rfl rfl (Nat.le_of_ble_eq_true rfl) f1 hP hS hl.1 dL_542 (fun H1 locs1 hP hS => ?_)
  refine lv_aload_n hx hb dL_545 rfl (lv_at hl 2 rfl) ?_
  have ok1 : si_cok gmt gcl RL 11 418 116 [216, 0, 1, 8, 1350, 1351, 99, 1353, 1352] true = true := by decide +kernel
  refine lw_call X (rc := 1) (q := 29) (as := []) (rest := [.int r]) (fr := 11) (lo := 418) (Nat.le_refl 11) (Nat.le_refl 418) (Nat.le_refl 45) (Nat.le_refl 5189) ok1 rfl rfl (Nat.le_of_ble_eq_true rfl) f2 hP hS hl.1 dL_546 (fun H2 locs2 hP hS => ?_)
  refine lv_icmp_eq (tgt := 640) hx hb dL_549 (by decide) (fun _ => ?_) (fun hne => absurd rfl hne)
  exact hk σ2 _ _ f3 hP hS
set_option maxHeartbeats 4000000 in
theorem lw_c25 {p : Program} {l : Launch} {e : Env} {s : State} {m : MethodId} {below : List Frame} {meth : Method} {c : Code} {D : va_G} {dA : Bool → ClassId} {b L : Nat} {xs : Nat → Int32} (C0 : lw_At p s m meth c b L xs) (X : si_Ctx p s m #[Value.ref b] c D dA gcl code RL 4) (I : si_M → Prop) (hf : (∀ σ, I σ → ∃ (r : Int32) (σ1 σ2 : si_M), si_sc gP nX8_save (.ref 0 :: []) σ = some (some (.int r), σ1) ∧ si_sc gP nX9_save (.ref 29 :: []) σ1 = some (some (.int r), σ2) ∧ I σ2)) (i : Nat) (hi : 3 * i + 3 ≤ L) (hL : L ≤ 1536) (σ : si_M) (hI : I σ) (H : Heap) (locs : List Loc) (ls : Array Slot) (hP : va_P D gcl (si_W dA s.heap.size gsh σ) H) (hS : va_S (fun q => s.heap.size ≤ q) s.heap H locs) (hl : lv_has ls 4 [(0, .ref b), (1, .ref (s.heap.size + 0)), (2, .ref (s.heap.size + 29)), (3, .int (nI (3 * i)))])
    (hk : ∀ (σ2 : si_M) (H2 : Heap) (locs2 : List Loc), I σ2 → va_P D gcl (si_W dA s.heap.size gsh σ2) H2 → va_S (fun q => s.heap.size ≤ q) s.heap H2 locs2 → W p l e room_1 s m #[Value.ref b] below meth c H2 locs2 45 5189 (lw_Z below #[Value.ref b] s) (F0 m 640 ls [])) : W p l e room_1 s m #[Value.ref b] below meth c H locs 45 5189 (lw_Z below #[Value.ref b] s) (F0 m 554 ls []) := by
  obtain ⟨hx, hb, hr, hml, hown, htsw, hX, hbl, hlocks, hgv⟩ := C0
  have hbA : ¬ (fun q : Nat => s.heap.size ≤ q) b := Nat.not_le.mpr hbl
  obtain ⟨r, σ1, σ2, f1, f2, f3⟩ := hf  σ hI
  refine lv_aload_n hx hb dL_554 rfl (lv_at hl 1 rfl) ?_
  have ok0 : si_cok gmt gcl RL 11 418 117 [217, 0, 1, 7, 856, 857, 91, 859, 858] true = true := by decide +kernel
  refine lw_call X (rc := 1) (q := 0) (as := []) (rest := []) (fr := 11) (lo := 418) (Nat.le_refl 11) (Nat.le_refl 418) (Nat.le_refl 45) (Nat.le_refl 5189) ok0 rfl rfl (Nat.le_of_ble_eq_true rfl) f1 hP hS hl.1 dL_555 (fun H1 locs1 hP hS => ?_)
  refine lv_aload_n hx hb dL_558 rfl (lv_at hl 2 rfl) ?_
  have ok1 : si_cok gmt gcl RL 11 418 120 [218, 0, 1, 8, 1358, 1359, 99, 1361, 1360] true = true := by decide +kernel
  refine lw_call X (rc := 1) (q := 29) (as := []) (rest := [.int r]) (fr := 11) (lo := 418) (Nat.le_refl 11) (Nat.le_refl 418) (Nat.le_refl 45) (Nat.le_refl 5189) ok1 rfl rfl (Nat.le_of_ble_eq_true rfl) f2 hP hS hl.1 dL_559 (fun H2 locs2 hP hS => ?_)
  refine lv_icmp_eq (tgt := 640) hx hb dL_562 (by decide) (fun _ => ?_) (fun hne => absurd rfl hne)
  exact hk σ2 _ _ f3 hP hS
set_option maxHeartbeats 4000000 in
theorem lw_c26 {p : Program} {l : Launch} {e : Env} {s : State} {m : MethodId} {below : List Frame} {meth : Method} {c : Code} {D : va_G} {dA : Bool → ClassId} {b L : Nat} {xs : Nat → Int32} (C0 : lw_At p s m meth c b L xs) (X : si_Ctx p s m #[Value.ref b] c D dA gcl code RL 4) (I : si_M → Prop) (hf : (∀ σ, I σ → ∃ (r : Int32) (σ1 σ2 : si_M), si_sc gP nX8_restore (.ref 0 :: []) σ = some (some (.int r), σ1) ∧ si_sc gP nX9_restore (.ref 29 :: []) σ1 = some (some (.int r), σ2) ∧ I σ2)) (i : Nat) (hi : 3 * i + 3 ≤ L) (hL : L ≤ 1536) (σ : si_M) (hI : I σ) (H : Heap) (locs : List Loc) (ls : Array Slot) (hP : va_P D gcl (si_W dA s.heap.size gsh σ) H) (hS : va_S (fun q => s.heap.size ≤ q) s.heap H locs) (hl : lv_has ls 4 [(0, .ref b), (1, .ref (s.heap.size + 0)), (2, .ref (s.heap.size + 29)), (3, .int (nI (3 * i)))])
    (hk : ∀ (σ2 : si_M) (H2 : Heap) (locs2 : List Loc), I σ2 → va_P D gcl (si_W dA s.heap.size gsh σ2) H2 → va_S (fun q => s.heap.size ≤ q) s.heap H2 locs2 → W p l e room_1 s m #[Value.ref b] below meth c H2 locs2 45 5189 (lw_Z below #[Value.ref b] s) (F0 m 640 ls [])) : W p l e room_1 s m #[Value.ref b] below meth c H locs 45 5189 (lw_Z below #[Value.ref b] s) (F0 m 567 ls []) := by
  obtain ⟨hx, hb, hr, hml, hown, htsw, hX, hbl, hlocks, hgv⟩ := C0
  have hbA : ¬ (fun q : Nat => s.heap.size ≤ q) b := Nat.not_le.mpr hbl
  obtain ⟨r, σ1, σ2, f1, f2, f3⟩ := hf  σ hI
  refine lv_aload_n hx hb dL_567 rfl (lv_at hl 1 rfl) ?_
  have ok0 : si_cok gmt gcl RL 11 418 121 [219, 0, 1, 7, 861, 862, 91, 864, 863] true = true := by decide +kernel
  refine lw_call X (rc := 1) (q := 0) (as := []) (rest := []) (fr := 11) (lo := 418) (Nat.le_refl 11) (Nat.le_refl 418) (Nat.le_refl 45) (Nat.le_refl 5189) ok0 rfl rfl (Nat.le_of_ble_eq_true rfl) f1 hP hS hl.1 dL_568 (fun H1 locs1 hP hS => ?_)
  refine lv_aload_n hx hb dL_571 rfl (lv_at hl 2 rfl) ?_
  have ok1 : si_cok gmt gcl RL 11 418 124 [220, 0, 1, 8, 1362, 1363, 99, 1365, 1364] true = true := by decide +kernel
  refine lw_call X (rc := 1) (q := 29) (as := []) (rest := [.int r]) (fr := 11) (lo := 418) (Nat.le_refl 11) (Nat.le_refl 418) (Nat.le_refl 45) (Nat.le_refl 5189) ok1 rfl rfl (Nat.le_of_ble_eq_true rfl) f2 hP hS hl.1 dL_572 (fun H2 locs2 hP hS => ?_)
  refine lv_icmp_eq (tgt := 640) hx hb dL_575 (by decide) (fun _ => ?_) (fun hne => absurd rfl hne)
  exact hk σ2 _ _ f3 hP hS
set_option maxHeartbeats 4000000 in
theorem lw_c27 {p : Program} {l : Launch} {e : Env} {s : State} {m : MethodId} {below : List Frame} {meth : Method} {c : Code} {D : va_G} {dA : Bool → ClassId} {b L : Nat} {xs : Nat → Int32} (C0 : lw_At p s m meth c b L xs) (X : si_Ctx p s m #[Value.ref b] c D dA gcl code RL 4) (I : si_M → Prop) (hf : (∀ a : Int32, ∀ σ, I σ → ∃ (r : Int32) (σ1 σ2 : si_M), si_sc gP nX8_countWords (.ref 0 :: [.int a]) σ = some (some (.int r), σ1) ∧ si_sc gP nX9_countWords (.ref 29 :: [.int a]) σ1 = some (some (.int r), σ2) ∧ I σ2)) (i : Nat) (hi : 3 * i + 3 ≤ L) (hL : L ≤ 1536) (σ : si_M) (hI : I σ) (H : Heap) (locs : List Loc) (ls : Array Slot) (hP : va_P D gcl (si_W dA s.heap.size gsh σ) H) (hS : va_S (fun q => s.heap.size ≤ q) s.heap H locs) (hl : lv_has ls 4 [(0, .ref b), (1, .ref (s.heap.size + 0)), (2, .ref (s.heap.size + 29)), (3, .int (nI (3 * i)))])
    (hk : ∀ (σ2 : si_M) (H2 : Heap) (locs2 : List Loc), I σ2 → va_P D gcl (si_W dA s.heap.size gsh σ2) H2 → va_S (fun q => s.heap.size ≤ q) s.heap H2 locs2 → W p l e room_1 s m #[Value.ref b] below meth c H2 locs2 45 5189 (lw_Z below #[Value.ref b] s) (F0 m 640 ls [])) : W p l e room_1 s m #[Value.ref b] below meth c H locs 45 5189 (lw_Z below #[Value.ref b] s) (F0 m 580 ls []) := by
  obtain ⟨hx, hb, hr, hml, hown, htsw, hX, hbl, hlocks, hgv⟩ := C0
  have hbA : ¬ (fun q : Nat => s.heap.size ≤ q) b := Nat.not_le.mpr hbl
  have e1 : nI (3 * i) + 1 = nI (3 * i + 1) := nI_add _ _
  have v1 : vp_in (nI (3 * i) + 1) L := by rw [e1]; exact vp_in_nI (by omega) (by omega)
  obtain ⟨r, σ1, σ2, f1, f2, f3⟩ := hf (xs (nI (3 * i) + 1).toNatClampNeg) σ hI
  refine lv_aload_n hx hb dL_580 rfl (lv_at hl 1 rfl) ?_
  refine lv_aload_n hx hb dL_581 rfl (lv_at hl 0 rfl) ?_
  refine lv_iload_n hx hb dL_582 rfl (lv_at hl 3 rfl) ?_
  refine lv_iconst (v := 1) hx hb dL_583 (by decide) ?_
  refine lv_iadd hx hb dL_584 ?_
  refine va_sld hx hb hX hbl hbA hS v1 dL_585 ?_
  have ok0 : si_cok gmt gcl RL 11 418 125 [228, 1, 1, 7, 865, 866, 91, 868, 867] true = true := by decide +kernel
  refine lw_call X (rc := 1) (q := 0) (as := [.int (xs (nI (3 * i) + 1).toNatClampNeg)]) (rest := []) (fr := 11) (lo := 418) (Nat.le_refl 11) (Nat.le_refl 418) (Nat.le_refl 45) (Nat.le_refl 5189) ok0 rfl rfl (Nat.le_of_ble_eq_true rfl) f1 hP hS hl.1 dL_586 (fun H1 locs1 hP hS => ?_)
  refine lv_aload_n hx hb dL_589 rfl (lv_at hl 2 rfl) ?_
  refine lv_aload_n hx hb dL_590 rfl (lv_at hl 0 rfl) ?_
  refine lv_iload_n hx hb dL_591 rfl (lv_at hl 3 rfl) ?_
  refine lv_iconst (v := 1) hx hb dL_592 (by decide) ?_
  refine lv_iadd hx hb dL_593 ?_
  refine va_sld hx hb hX hbl hbA hS v1 dL_594 ?_
  have ok1 : si_cok gmt gcl RL 11 418 128 [232, 1, 1, 8, 1366, 1367, 99, 1369, 1368] true = true := by decide +kernel
  refine lw_call X (rc := 1) (q := 29) (as := [.int (xs (nI (3 * i) + 1).toNatClampNeg)]) (rest := [.int r]) (fr := 11) (lo := 418) (Nat.le_refl 11) (Nat.le_refl 418) (Nat.le_refl 45) (Nat.le_refl 5189) ok1 rfl rfl (Nat.le_of_ble_eq_true rfl) f2 hP hS hl.1 dL_595 (fun H2 locs2 hP hS => ?_)
  refine lv_icmp_eq (tgt := 640) hx hb dL_598 (by decide) (fun _ => ?_) (fun hne => absurd rfl hne)
  exact hk σ2 _ _ f3 hP hS
set_option maxHeartbeats 4000000 in
theorem lw_c28 {p : Program} {l : Launch} {e : Env} {s : State} {m : MethodId} {below : List Frame} {meth : Method} {c : Code} {D : va_G} {dA : Bool → ClassId} {b L : Nat} {xs : Nat → Int32} (C0 : lw_At p s m meth c b L xs) (X : si_Ctx p s m #[Value.ref b] c D dA gcl code RL 4) (I : si_M → Prop) (hf : (∀ a : Int32, ∀ σ, I σ → ∃ (r : Int32) (σ1 σ2 : si_M), si_sc gP nX8_countDifferences (.ref 0 :: [.int a]) σ = some (some (.int r), σ1) ∧ si_sc gP nX9_countDifferences (.ref 29 :: [.int a]) σ1 = some (some (.int r), σ2) ∧ I σ2)) (i : Nat) (hi : 3 * i + 3 ≤ L) (hL : L ≤ 1536) (σ : si_M) (hI : I σ) (H : Heap) (locs : List Loc) (ls : Array Slot) (hP : va_P D gcl (si_W dA s.heap.size gsh σ) H) (hS : va_S (fun q => s.heap.size ≤ q) s.heap H locs) (hl : lv_has ls 4 [(0, .ref b), (1, .ref (s.heap.size + 0)), (2, .ref (s.heap.size + 29)), (3, .int (nI (3 * i)))])
    (hk : ∀ (σ2 : si_M) (H2 : Heap) (locs2 : List Loc), I σ2 → va_P D gcl (si_W dA s.heap.size gsh σ2) H2 → va_S (fun q => s.heap.size ≤ q) s.heap H2 locs2 → W p l e room_1 s m #[Value.ref b] below meth c H2 locs2 45 5189 (lw_Z below #[Value.ref b] s) (F0 m 640 ls [])) : W p l e room_1 s m #[Value.ref b] below meth c H locs 45 5189 (lw_Z below #[Value.ref b] s) (F0 m 603 ls []) := by
  obtain ⟨hx, hb, hr, hml, hown, htsw, hX, hbl, hlocks, hgv⟩ := C0
  have hbA : ¬ (fun q : Nat => s.heap.size ≤ q) b := Nat.not_le.mpr hbl
  have e1 : nI (3 * i) + 1 = nI (3 * i + 1) := nI_add _ _
  have v1 : vp_in (nI (3 * i) + 1) L := by rw [e1]; exact vp_in_nI (by omega) (by omega)
  obtain ⟨r, σ1, σ2, f1, f2, f3⟩ := hf (xs (nI (3 * i) + 1).toNatClampNeg) σ hI
  refine lv_aload_n hx hb dL_603 rfl (lv_at hl 1 rfl) ?_
  refine lv_aload_n hx hb dL_604 rfl (lv_at hl 0 rfl) ?_
  refine lv_iload_n hx hb dL_605 rfl (lv_at hl 3 rfl) ?_
  refine lv_iconst (v := 1) hx hb dL_606 (by decide) ?_
  refine lv_iadd hx hb dL_607 ?_
  refine va_sld hx hb hX hbl hbA hS v1 dL_608 ?_
  have ok0 : si_cok gmt gcl RL 11 418 129 [233, 1, 1, 7, 906, 907, 91, 909, 908] true = true := by decide +kernel
  refine lw_call X (rc := 1) (q := 0) (as := [.int (xs (nI (3 * i) + 1).toNatClampNeg)]) (rest := []) (fr := 11) (lo := 418) (Nat.le_refl 11) (Nat.le_refl 418) (Nat.le_refl 45) (Nat.le_refl 5189) ok0 rfl rfl (Nat.le_of_ble_eq_true rfl) f1 hP hS hl.1 dL_609 (fun H1 locs1 hP hS => ?_)
  refine lv_aload_n hx hb dL_612 rfl (lv_at hl 2 rfl) ?_
  refine lv_aload_n hx hb dL_613 rfl (lv_at hl 0 rfl) ?_
  refine lv_iload_n hx hb dL_614 rfl (lv_at hl 3 rfl) ?_
  refine lv_iconst (v := 1) hx hb dL_615 (by decide) ?_
  refine lv_iadd hx hb dL_616 ?_
  refine va_sld hx hb hX hbl hbA hS v1 dL_617 ?_
  have ok1 : si_cok gmt gcl RL 11 418 132 [234, 1, 1, 8, 1381, 1382, 99, 1384, 1383] true = true := by decide +kernel
  refine lw_call X (rc := 1) (q := 29) (as := [.int (xs (nI (3 * i) + 1).toNatClampNeg)]) (rest := [.int r]) (fr := 11) (lo := 418) (Nat.le_refl 11) (Nat.le_refl 418) (Nat.le_refl 45) (Nat.le_refl 5189) ok1 rfl rfl (Nat.le_of_ble_eq_true rfl) f2 hP hS hl.1 dL_618 (fun H2 locs2 hP hS => ?_)
  refine lv_icmp_eq (tgt := 640) hx hb dL_621 (by decide) (fun _ => ?_) (fun hne => absurd rfl hne)
  exact hk σ2 _ _ f3 hP hS
set_option maxHeartbeats 4000000 in
theorem lw_c29 {p : Program} {l : Launch} {e : Env} {s : State} {m : MethodId} {below : List Frame} {meth : Method} {c : Code} {D : va_G} {dA : Bool → ClassId} {b L : Nat} {xs : Nat → Int32} (C0 : lw_At p s m meth c b L xs) (X : si_Ctx p s m #[Value.ref b] c D dA gcl code RL 4) (I : si_M → Prop) (hf : (∀ σ, I σ → ∃ (r : Int64) (σ1 σ2 : si_M), si_sc gP nX8_digest (.ref 0 :: []) σ = some (some (.long r), σ1) ∧ si_sc gP nX9_digest (.ref 29 :: []) σ1 = some (some (.long r), σ2) ∧ I σ2)) (i : Nat) (hi : 3 * i + 3 ≤ L) (hL : L ≤ 1536) (σ : si_M) (hI : I σ) (H : Heap) (locs : List Loc) (ls : Array Slot) (hP : va_P D gcl (si_W dA s.heap.size gsh σ) H) (hS : va_S (fun q => s.heap.size ≤ q) s.heap H locs) (hl : lv_has ls 4 [(0, .ref b), (1, .ref (s.heap.size + 0)), (2, .ref (s.heap.size + 29)), (3, .int (nI (3 * i)))])
    (hk : ∀ (σ2 : si_M) (H2 : Heap) (locs2 : List Loc), I σ2 → va_P D gcl (si_W dA s.heap.size gsh σ2) H2 → va_S (fun q => s.heap.size ≤ q) s.heap H2 locs2 → W p l e room_1 s m #[Value.ref b] below meth c H2 locs2 45 5189 (lw_Z below #[Value.ref b] s) (F0 m 640 ls [])) : W p l e room_1 s m #[Value.ref b] below meth c H locs 45 5189 (lw_Z below #[Value.ref b] s) (F0 m 626 ls []) := by
  obtain ⟨hx, hb, hr, hml, hown, htsw, hX, hbl, hlocks, hgv⟩ := C0
  have hbA : ¬ (fun q : Nat => s.heap.size ≤ q) b := Nat.not_le.mpr hbl
  obtain ⟨r, σ1, σ2, f1, f2, f3⟩ := hf  σ hI
  refine lv_aload_n hx hb dL_626 rfl (lv_at hl 1 rfl) ?_
  have ok0 : si_cok gmt gcl RL 11 418 133 [238, 0, 2, 7, 910, 911, 91, 913, 912] true = true := by decide +kernel
  refine lw_call X (rc := 2) (q := 0) (as := []) (rest := []) (fr := 11) (lo := 418) (Nat.le_refl 11) (Nat.le_refl 418) (Nat.le_refl 45) (Nat.le_refl 5189) ok0 rfl rfl (Nat.le_of_ble_eq_true rfl) f1 hP hS hl.1 dL_627 (fun H1 locs1 hP hS => ?_)
  refine lv_aload_n hx hb dL_630 rfl (lv_at hl 2 rfl) ?_
  have ok1 : si_cok gmt gcl RL 11 418 136 [240, 0, 2, 8, 1385, 1386, 99, 1388, 1387] true = true := by decide +kernel
  refine lw_call X (rc := 2) (q := 29) (as := []) (rest := [.long r]) (fr := 11) (lo := 418) (Nat.le_refl 11) (Nat.le_refl 418) (Nat.le_refl 45) (Nat.le_refl 5189) ok1 rfl rfl (Nat.le_of_ble_eq_true rfl) f2 hP hS hl.1 dL_631 (fun H2 locs2 hP hS => ?_)
  refine W.lcmp hx hb dL_634 ?_
  refine lv_if_eq (tgt := 640) hx hb dL_635 (by decide) (fun _ => ?_) (fun hne => absurd (by simp [lg_cmp, Int64.lt_irrefl]) hne)
  exact hk σ2 _ _ f3 hP hS
set_option maxHeartbeats 8000000 in
set_option maxRecDepth 100000 in
theorem lw_loop {p : Program} {l : Launch} {e : Env} {s : State} {m : MethodId} {below : List Frame} {meth : Method} {c : Code} {D : va_G} {dA : Bool → ClassId} {b L : Nat} {xs : Nat → Int32} (C0 : lw_At p s m meth c b L xs) (X : si_Ctx p s m #[Value.ref b] c D dA gcl code RL 4) (I : si_M → Prop) (hf : lw_facts I) (hL : L ≤ 1536) : ∀ (n i : Nat), 3 * i ≤ L + 3 → L + 3 < 3 * i + n → ∀ (σ : si_M), I σ → ∀ (H : Heap) (locs : List Loc) (ls : Array Slot), va_P D gcl (si_W dA s.heap.size gsh σ) H → va_S (fun q => s.heap.size ≤ q) s.heap H locs → lv_has ls 4 [(0, .ref b), (1, .ref (s.heap.size + 0)), (2, .ref (s.heap.size + 29)), (3, .int (nI (3 * i)))] → W p l e room_1 s m #[Value.ref b] below meth c H locs 45 5189 (lw_Z below #[Value.ref b] s) (F0 m 18 ls []) := by
  intro n
  induction n with
  | zero => intro i h1 h2; omega
  | succ n ih =>
    intro i h1 h2 σ hI H locs ls hP hS hl
    obtain ⟨hx, hb, hr, hml, hown, htsw, hX, hbl, hlocks, hgv⟩ := id C0
    have hbA : ¬ (fun q : Nat => s.heap.size ≤ q) b := Nat.not_le.mpr hbl
    refine lv_iload_n hx hb dL_18 rfl (lv_at hl 3 rfl) ?_
    refine lv_aload_n hx hb dL_19 rfl (lv_at hl 0 rfl) ?_
    refine va_slen hx hb hX hbl hbA hS dL_20 ?_
    refine lv_iconst (v := 3) hx hb dL_21 (by decide) ?_
    refine lv_isub hx hb dL_22 ?_
    refine lv_icmp_gt (tgt := 646) hx hb dL_23 (by decide) (fun hgt => ?_) (fun hgt => ?_)
    · refine lv_iconst (v := 1) hx hb dL_646 (by decide) ?_
      refine va_forget (fun q hq => hS.2.2 q hq) ?_
      exact lw_ret hx hb hr hlocks dL_647
    · have hle : 3 * i + 3 ≤ L := by
        by_cases h3 : 3 ≤ L
        · have e : Int32.ofNat L - 3 = nI (L - 3) := pk_sub h3
          rw [e] at hgt
          rw [nI_ltI (by omega) (by omega)] at hgt
          omega
        · exfalso
          apply hgt
          have e : (Int32.ofNat L - 3) < 0 := pk_sneg (a := L) (b := 3) (by decide) (by omega)
          exact Int32.lt_of_lt_of_le e (nI_pos' (by omega))
      have v0 : vp_in (nI (3 * i)) L := vp_in_nI (by omega) (by omega)
      have go : ∀ (σ2 : si_M) (H2 : Heap) (locs2 : List Loc), I σ2 → va_P D gcl (si_W dA s.heap.size gsh σ2) H2 → va_S (fun q => s.heap.size ≤ q) s.heap H2 locs2 → W p l e room_1 s m #[Value.ref b] below meth c H2 locs2 45 5189 (lw_Z below #[Value.ref b] s) (F0 m 640 ls []) := by
        intro σ2 H2 locs2 hI2 hP2 hS2
        refine lv_iinc (v := nI (3 * (i + 1))) (lv' := [(3, .int (nI (3 * (i + 1)))), (0, .ref b), (1, .ref (s.heap.size + 0)), (2, .ref (s.heap.size + 29))]) hx hb dL_640 hl (k := 3) rfl (by show nI (3 * i) + 3 = _; exact (nI_add (3 * i) 3).trans (by rw [Nat.mul_add])) (by decide) rfl (fun ls' hl' => ?_)
        refine lv_goto (tgt := 18) hx hb dL_643 (by decide) ?_
        exact ih (i + 1) (by omega) (by omega) σ2 hI2 H2 locs2 ls' hP2 hS2 (lv_sub hl' [1, 2, 3, 0] rfl)
      refine lv_aload_n hx hb dL_26 rfl (lv_at hl 0 rfl) ?_
      refine lv_iload_n hx hb dL_27 rfl (lv_at hl 3 rfl) ?_
      refine va_sld hx hb hX hbl hbA hS v0 dL_28 ?_
      refine lv_bipush (v := 31) hx hb dL_29 (by decide) ?_
      refine lv_iand hx hb dL_31 ?_
      obtain ⟨j, hj, ej⟩ := pk_andE (xs (nI (3 * i)).toNatClampNeg) (m := 31) 5 (by decide)
      rw [ej]
      obtain ⟨f0, f1, f2, f3, f4, f5, f6, f7, f8, f9, f10, f11, f12, f13, f14, f15, f16, f17, f18, f19, f20, f21, f22, f23, f24, f25, f26, f27, f28, f29⟩ := hf
      match j, hj with
      | 0, _ => exact lv_tableIn (tgt := 168) hx hb dL_32 (by decide) (by decide) rfl (by decide) (lw_c0 C0 X I f0 i hle hL σ hI H locs ls hP hS hl go)
      | 1, _ => exact lv_tableIn (tgt := 191) hx hb dL_32 (by decide) (by decide) rfl (by decide) (lw_c1 C0 X I f1 i hle hL σ hI H locs ls hP hS hl go)
      | 2, _ => exact lv_tableIn (tgt := 204) hx hb dL_32 (by decide) (by decide) rfl (by decide) (lw_c2 C0 X I f2 i hle hL σ hI H locs ls hP hS hl go)
      | 3, _ => exact lv_tableIn (tgt := 217) hx hb dL_32 (by decide) (by decide) rfl (by decide) (lw_c3 C0 X I f3 i hle hL σ hI H locs ls hP hS hl go)
      | 4, _ => exact lv_tableIn (tgt := 230) hx hb dL_32 (by decide) (by decide) rfl (by decide) (lw_c4 C0 X I f4 i hle hL σ hI H locs ls hP hS hl go)
      | 5, _ => exact lv_tableIn (tgt := 243) hx hb dL_32 (by decide) (by decide) rfl (by decide) (lw_c5 C0 X I f5 i hle hL σ hI H locs ls hP hS hl go)
      | 6, _ => exact lv_tableIn (tgt := 257) hx hb dL_32 (by decide) (by decide) rfl (by decide) (lw_c6 C0 X I f6 i hle hL σ hI H locs ls hP hS hl go)
      | 7, _ => exact lv_tableIn (tgt := 270) hx hb dL_32 (by decide) (by decide) rfl (by decide) (lw_c7 C0 X I f7 i hle hL σ hI H locs ls hP hS hl go)
      | 8, _ => exact lv_tableIn (tgt := 303) hx hb dL_32 (by decide) (by decide) rfl (by decide) (lw_c8 C0 X I f8 i hle hL σ hI H locs ls hP hS hl go)
      | 9, _ => exact lv_tableIn (tgt := 316) hx hb dL_32 (by decide) (by decide) rfl (by decide) (lw_c9 C0 X I f9 i hle hL σ hI H locs ls hP hS hl go)
      | 10, _ => exact lv_tableIn (tgt := 329) hx hb dL_32 (by decide) (by decide) rfl (by decide) (lw_c10 C0 X I f10 i hle hL σ hI H locs ls hP hS hl go)
      | 11, _ => exact lv_tableIn (tgt := 342) hx hb dL_32 (by decide) (by decide) rfl (by decide) (lw_c11 C0 X I f11 i hle hL σ hI H locs ls hP hS hl go)
      | 12, _ => exact lv_tableIn (tgt := 355) hx hb dL_32 (by decide) (by decide) rfl (by decide) (lw_c12 C0 X I f12 i hle hL σ hI H locs ls hP hS hl go)
      | 13, _ => exact lv_tableIn (tgt := 378) hx hb dL_32 (by decide) (by decide) rfl (by decide) (lw_c13 C0 X I f13 i hle hL σ hI H locs ls hP hS hl go)
      | 14, _ => exact lv_tableIn (tgt := 401) hx hb dL_32 (by decide) (by decide) rfl (by decide) (lw_c14 C0 X I f14 i hle hL σ hI H locs ls hP hS hl go)
      | 15, _ => exact lv_tableIn (tgt := 424) hx hb dL_32 (by decide) (by decide) rfl (by decide) (lw_c15 C0 X I f15 i hle hL σ hI H locs ls hP hS hl go)
      | 16, _ => exact lv_tableIn (tgt := 437) hx hb dL_32 (by decide) (by decide) rfl (by decide) (lw_c16 C0 X I f16 i hle hL σ hI H locs ls hP hS hl go)
      | 17, _ => exact lv_tableIn (tgt := 450) hx hb dL_32 (by decide) (by decide) rfl (by decide) (lw_c17 C0 X I f17 i hle hL σ hI H locs ls hP hS hl go)
      | 18, _ => exact lv_tableIn (tgt := 463) hx hb dL_32 (by decide) (by decide) rfl (by decide) (lw_c18 C0 X I f18 i hle hL σ hI H locs ls hP hS hl go)
      | 19, _ => exact lv_tableIn (tgt := 476) hx hb dL_32 (by decide) (by decide) rfl (by decide) (lw_c19 C0 X I f19 i hle hL σ hI H locs ls hP hS hl go)
      | 20, _ => exact lv_tableIn (tgt := 489) hx hb dL_32 (by decide) (by decide) rfl (by decide) (lw_c20 C0 X I f20 i hle hL σ hI H locs ls hP hS hl go)
      | 21, _ => exact lv_tableIn (tgt := 502) hx hb dL_32 (by decide) (by decide) rfl (by decide) (lw_c21 C0 X I f21 i hle hL σ hI H locs ls hP hS hl go)
      | 22, _ => exact lv_tableIn (tgt := 515) hx hb dL_32 (by decide) (by decide) rfl (by decide) (lw_c22 C0 X I f22 i hle hL σ hI H locs ls hP hS hl go)
      | 23, _ => exact lv_tableIn (tgt := 528) hx hb dL_32 (by decide) (by decide) rfl (by decide) (lw_c23 C0 X I f23 i hle hL σ hI H locs ls hP hS hl go)
      | 24, _ => exact lv_tableIn (tgt := 541) hx hb dL_32 (by decide) (by decide) rfl (by decide) (lw_c24 C0 X I f24 i hle hL σ hI H locs ls hP hS hl go)
      | 25, _ => exact lv_tableIn (tgt := 554) hx hb dL_32 (by decide) (by decide) rfl (by decide) (lw_c25 C0 X I f25 i hle hL σ hI H locs ls hP hS hl go)
      | 26, _ => exact lv_tableIn (tgt := 567) hx hb dL_32 (by decide) (by decide) rfl (by decide) (lw_c26 C0 X I f26 i hle hL σ hI H locs ls hP hS hl go)
      | 27, _ => exact lv_tableIn (tgt := 580) hx hb dL_32 (by decide) (by decide) rfl (by decide) (lw_c27 C0 X I f27 i hle hL σ hI H locs ls hP hS hl go)
      | 28, _ => exact lv_tableIn (tgt := 603) hx hb dL_32 (by decide) (by decide) rfl (by decide) (lw_c28 C0 X I f28 i hle hL σ hI H locs ls hP hS hl go)
      | 29, _ => exact lv_tableIn (tgt := 626) hx hb dL_32 (by decide) (by decide) rfl (by decide) (lw_c29 C0 X I f29 i hle hL σ hI H locs ls hP hS hl go)
      | j + 30, hj =>
        have e : (nI (j + 30)).toInt = ((j + 30 : Nat) : Int) := nI_toInt (by omega)
        exact lv_tableOut (tgt := 640) hx hb dL_32 (Or.inr (by rw [e]; omega)) (by decide) (go σ H locs hI hP hS)
