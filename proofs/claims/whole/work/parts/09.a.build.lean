/-! building productions: numbers -/
theorem i2l {n : Nat} (h : n < 2 ^ 31) : (nI n).toInt64 = lN n := by
  apply Int64.toInt_inj.mp
  rw [Int32.toInt_toInt64, nI_toInt h, pf_lI (by omega)]
theorem nI_mul (a b : Nat) : nI a * nI b = nI (a * b) := (Int32.ofNat_mul a b).symm
theorem ew_nil (n : Nat) : ew n [] = 0 := by cases n <;> rfl
theorem ew_app : ∀ (n : Nat) (w v : List Nat), w.length ≤ n → ew n (w ++ v) = ew n w + ew (n - w.length) v := by
  intro n
  induction n with
  | zero =>
    intro w v h
    have : w = [] := List.length_eq_zero_iff.mp (by omega)
    subst this
    simp [ew]
  | succ n ih =>
    intro w v h
    cases w with
    | nil => simp [ew_nil]
    | cons a w =>
      have hw : w.length ≤ n := by simpa using h
      simp only [List.cons_append, ew, List.length_cons]
      rw [ih w v hw, Nat.add_assoc, show n + 1 - (w.length + 1) = n - w.length by omega]
theorem ew_scale : ∀ (n k : Nat) (w : List Nat), w.length ≤ n → ew n w * 32 ^ k = ew (n + k) w := by
  intro n
  induction n with
  | zero =>
    intro k w h
    have : w = [] := List.length_eq_zero_iff.mp (by omega)
    subst this
    simp [ew_nil]
  | succ n ih =>
    intro k w h
    cases w with
    | nil => simp [ew_nil]
    | cons a w =>
      have hw : w.length ≤ n := by simpa using h
      rw [show n + 1 + k = (n + k) + 1 by omega]
      simp only [ew]
      rw [Nat.add_mul, ih k w hw, Nat.mul_assoc, ← Nat.pow_add]
theorem p40 : (1099511627776 : Nat) = 32 ^ 8 := by decide
theorem p32 (k : Nat) : (32 : Nat) ^ k = 2 ^ (5 * k) := by rw [show (32 : Nat) = 2 ^ 5 from by decide, ← Nat.pow_mul]
theorem en_div {q : PR} (h : q.2.length ≤ 8) : en q = (q.1 * 32 ^ q.2.length + ew q.2.length q.2) * 2 ^ (5 * (8 - q.2.length)) := by
  unfold en
  rw [← p32, Nat.add_mul, ew_scale _ _ _ (Nat.le_refl _), p40, Nat.mul_assoc, ← Nat.pow_add, show q.2.length + (8 - q.2.length) = 8 by omega]
/-- what is laid behind the end of a right side -/
theorem en_or {q : PR} (h : okp q) {v : List Nat} (hv : ∀ a ∈ v, a < 32) (hl : q.2.length + v.length ≤ 8) (hok : okp (q.1, q.2 ++ v)) : lN (en q) ||| lN (ew (8 - q.2.length) v) = lN (en (q.1, q.2 ++ v)) := by
  have h1 : ew (8 - q.2.length) v < 2 ^ (5 * (8 - q.2.length)) := by rw [← p32]; exact ew_lt _ _ hv
  have e : en (q.1, q.2 ++ v) = (q.1 * 32 ^ q.2.length + ew q.2.length q.2) * 2 ^ (5 * (8 - q.2.length)) + ew (8 - q.2.length) v := by
    rw [← en_div h.2.1]
    unfold en
    rw [ew_app _ _ _ h.2.1, Nat.add_assoc]
  rw [en_div h.2.1, e]
  refine g_or rfl h1 ?_
  rw [← e]
  have := en_lt hok
  omega
theorem okp_app {q : PR} (h : okp q) {v : List Nat} (hv : ∀ a ∈ v, 1 ≤ a ∧ a ≤ 24) (hl : q.2.length + v.length ≤ 8) : okp (q.1, q.2 ++ v) := ⟨h.1, by rw [List.length_append]; exact hl, fun a ha => by
  rcases List.mem_append.mp ha with ha | ha
  · exact h.2.2 a ha
  · exact hv a ha⟩
theorem okp_nil {l : Nat} (h : l < 16) : okp (l, []) := ⟨h, by simp, fun a ha => by cases ha⟩
theorem en_nil (l : Nat) : en (l, []) = l * 2 ^ 40 := by
  unfold en
  rw [ew_nil, show (1099511627776 : Nat) = 2 ^ 40 by decide, Nat.add_zero]
theorem s_X5_withoutRight {l : Nat} (h : l < 16) (σ : si_M) : si_sc gP nX5_withoutRight [.int (nI l)] σ = some (some (.long (lN (en (l, [])))), σ) := by
  rw [e_X5_withoutRight, i2l (by omega), lshl' (by decide), en_nil]
/-- one more symbol, if there is room -/
def ext (q : PR) (a : Nat) : Option PR := if q.2.length < 8 then some (q.1, q.2 ++ [a]) else none
theorem en_ext {q : PR} (h : okp q) {a : Nat} (ha : 1 ≤ a ∧ a ≤ 24) (hl : q.2.length < 8) : lN (en q) ||| lN (a * 2 ^ (35 - 5 * q.2.length)) = lN (en (q.1, q.2 ++ [a])) := by
  have := en_or h (v := [a]) (fun b hb => by rw [List.mem_singleton] at hb; omega) (by simp; omega) (okp_app h (fun b hb => by rw [List.mem_singleton] at hb; omega) (by simp; omega))
  rw [← this]
  congr 2
  obtain ⟨m, hm⟩ : ∃ m, 8 - q.2.length = m + 1 := ⟨7 - q.2.length, by omega⟩
  rw [hm]
  simp only [ew]
  rw [ew_nil, Nat.add_zero, p32]
  congr 2
  omega
theorem ext_ok {q : PR} (h : okp q) {a : Nat} (ha : 1 ≤ a ∧ a ≤ 24) : ∀ p, ext q a = some p → okp p := by
  intro p hp
  unfold ext at hp
  split at hp
  · cases hp
    exact okp_app h (fun b hb => by rw [List.mem_singleton] at hb; omega) (by simp; omega)
  · cases hp
theorem s_X5_extended {q : PR} (h : okp q) {a : Nat} (ha : 1 ≤ a ∧ a ≤ 24) (σ : si_M) : si_sc gP nX5_extended [.long (lN (en q)), .int (nI (a - 1))] σ = some (some (.long (pv (ext q a))), σ) := by
  have hw := h.2.1
  rw [e_X5_extended, s_X5_length h, ci_s, cF (lcmp_m1 (en63 h))]
  unfold ext
  by_cases hl : q.2.length < 8
  · rw [cT (nI_lt hl (by omega)), if_pos hl, nI_add, show a - 1 + 1 = a by omega, i2l (by omega), sh35 hl, lshl' (by omega), en_ext h ha hl]
    rfl
  · rw [cF (nI_nlt (by omega) (by omega)), if_neg hl]
    rfl
/-- the rest of another right side behind this one, if there is room -/
def joi (q : PR) (v : List Nat) (f : Nat) : Option PR := if q.2.length + (v.length - f) ≤ 8 then some (q.1, q.2 ++ v.drop f) else none
theorem joi_ok {q s : PR} (h : okp q) (hs : okp s) (f : Nat) : ∀ p, joi q s.2 f = some p → okp p := by
  intro p hp
  unfold joi at hp
  split at hp
  · cases hp
    exact okp_app h (fun b hb => hs.2.2 b (List.mem_of_mem_drop hb)) (by rw [List.length_drop]; assumption)
  · cases hp
theorem en_tail {s : PR} (hs : okp s) {f : Nat} (hf : f ≤ s.2.length) : lN (en s * 2 ^ (5 * f)) &&& lN 1099511627775 = lN (ew 8 (s.2.drop f)) := by
  have hw := hs.2.1
  have hlt : ew 8 (s.2.drop f) < 2 ^ 40 := by
    have := ew_lt 8 (s.2.drop f) (fun a ha => by have := hs.2.2 a (List.mem_of_mem_drop ha); omega)
    rw [p32] at this
    exact this
  have e : en s * 2 ^ (5 * f) = 2 ^ 40 * (s.1 * 32 ^ f + ew f (s.2.take f)) + ew 8 (s.2.drop f) := by
    have hd : (s.2.take f).length = f := by rw [List.length_take]; omega
    have e1 : ew 8 s.2 = ew 8 (s.2.take f) + ew (8 - f) (s.2.drop f) := by
      have := ew_app 8 (s.2.take f) (s.2.drop f) (by omega)
      rw [List.take_append_drop, hd] at this
      exact this
    have e2 : ew (8 - f) (s.2.drop f) * 32 ^ f = ew 8 (s.2.drop f) := by
      rw [ew_scale _ _ _ (by rw [List.length_drop]; omega), show 8 - f + f = 8 by omega]
    have e3 : ew f (s.2.take f) * 32 ^ (8 - f) = ew 8 (s.2.take f) := by
      rw [ew_scale _ _ _ (by omega), show f + (8 - f) = 8 by omega]
    unfold en
    rw [← p32, e1, ← e3, p40, Nat.add_mul, Nat.add_mul, e2, Nat.mul_assoc (ew f (s.2.take f)), ← Nat.pow_add, show 8 - f + f = 8 by omega, ← Nat.add_assoc, Nat.mul_add, show (2 : Nat) ^ 40 = 32 ^ 8 by decide]
    congr 2
    · rw [Nat.mul_comm s.1 (32 ^ 8), Nat.mul_assoc]
    · exact Nat.mul_comm _ _
  rw [wb_mod, show (1099511627775 : Nat) = 2 ^ 40 - 1 by decide, wb_mask (Nat.mod_lt _ (by decide)) (by decide), e]
  congr 1
  rw [Nat.mod_mod_of_dvd _ (by decide : 2 ^ 40 ∣ 2 ^ 64), Nat.mul_add_mod, Nat.mod_eq_of_lt hlt]
theorem s_X5_joined {q s : PR} (h : okp q) (hs : okp s) {f : Nat} (hf : f ≤ s.2.length) (σ : si_M) : si_sc gP nX5_joined [.long (lN (en q)), .long (lN (en s)), .int (nI f)] σ = some (some (.long (pv (joi q s.2 f))), σ) := by
  have hw := h.2.1
  have hv := hs.2.1
  rw [e_X5_joined, s_X5_length h, ci_s, cF (lcmp_m1 (en63 h)), cF (nI_nlt (Nat.zero_le f) (by omega)), s_X5_length hs, ci_s, nI_add, pk_sub (show f ≤ q.2.length + s.2.length by omega)]
  unfold joi
  by_cases hl : q.2.length + (s.2.length - f) ≤ 8
  · have hu : (s.2.drop f).length ≤ 8 - q.2.length := by rw [List.length_drop]; omega
    have hlt : ew 8 (s.2.drop f) < 2 ^ 64 := by
      have := ew_lt 8 (s.2.drop f) (fun a ha => by have := hs.2.2 a (List.mem_of_mem_drop ha); omega)
      rw [show (32 : Nat) ^ 8 = 1099511627776 by decide] at this
      omega
    have e8 : ew 8 (s.2.drop f) / 2 ^ (5 * q.2.length) = ew (8 - q.2.length) (s.2.drop f) := by
      have := ew_scale (8 - q.2.length) q.2.length (s.2.drop f) hu
      rw [show 8 - q.2.length + q.2.length = 8 by omega] at this
      rw [← this, p32, Nat.mul_div_cancel _ (Nat.two_pow_pos _)]
    rw [cT (nI_le (show q.2.length + s.2.length - f ≤ 8 by omega) (by omega)), if_pos hl, nI_mul, nI_mul, lshl' (by omega), en_tail hs hf, lush hlt (by omega), e8, en_or h (fun a ha => by have := hs.2.2 a (List.mem_of_mem_drop ha); omega) (by omega) (okp_app h (fun b hb => hs.2.2 b (List.mem_of_mem_drop hb)) (by omega))]
    rfl
  · rw [cF (nI_ge (show 8 < q.2.length + s.2.length - f by omega) (by omega)), if_neg hl]
    rfl
theorem low_off {n j : Nat} (hn : n < 2 ^ 64) (hj : j < 63) : lN n &&& ((lN (2 ^ j) - lN 1) ^^^ (-1 : Int64)) = lN (n / 2 ^ j * 2 ^ j) := by
  have e1 : lN (2 ^ j) - lN 1 = lN (2 ^ j - 1) := by
    have := Nat.two_pow_pos j
    apply wb_inj
    rw [Int64.toBitVec_sub, wb_tb, wb_tb, wb_tb]
    apply BitVec.eq_of_toNat_eq
    have hj2 : 2 ^ j < 2 ^ 64 := Nat.pow_lt_pow_right (by decide) (by omega)
    rw [BitVec.toNat_sub, BitVec.toNat_ofNat, BitVec.toNat_ofNat, BitVec.toNat_ofNat, Nat.mod_eq_of_lt hj2, Nat.mod_eq_of_lt (show 1 < 2 ^ 64 by decide)]
    omega
  rw [e1]
  apply wb_inj
  rw [Int64.toBitVec_and, Int64.toBitVec_xor, wb_tb, wb_tb, wb_tb]
  apply BitVec.eq_of_getLsbD_eq
  intro i hi
  rw [BitVec.getLsbD_and, BitVec.getLsbD_xor, BitVec.getLsbD_ofNat, BitVec.getLsbD_ofNat, BitVec.getLsbD_ofNat, show ((-1 : Int64)).toBitVec = BitVec.allOnes 64 by decide, BitVec.getLsbD_allOnes, decide_eq_true hi, Nat.testBit_two_pow_sub_one, Nat.testBit_mul_two_pow, Nat.testBit_div_two_pow]
  by_cases h : j ≤ i
  · rw [decide_eq_true h, decide_eq_false (by omega), show i - j + j = i by omega]
    simp
  · rw [decide_eq_false h, decide_eq_true (by omega)]
    simp
theorem okp_take {q : PR} (h : okp q) (k : Nat) : okp (q.1, q.2.take k) := ⟨h.1, by rw [List.length_take]; have := h.2.1; omega, fun a ha => h.2.2 a (List.mem_of_mem_take ha)⟩
theorem en_take {q : PR} (h : okp q) {k : Nat} (hk : k ≤ q.2.length) : en q / 2 ^ (5 * (8 - k)) * 2 ^ (5 * (8 - k)) = en (q.1, q.2.take k) := by
  have hw := h.2.1
  have hd : (q.2.take k).length = k := by rw [List.length_take]; omega
  have e0 := en_div (q := (q.1, q.2.take k)) (show (q.2.take k).length ≤ 8 by omega)
  have e1 : en q = en (q.1, q.2.take k) + ew (8 - k) (q.2.drop k) := by
    have := ew_app 8 (q.2.take k) (q.2.drop k) (by omega)
    rw [List.take_append_drop, hd] at this
    unfold en
    rw [this, Nat.add_assoc]
  have hlt : ew (8 - k) (q.2.drop k) < 2 ^ (5 * (8 - k)) := by
    rw [← p32]
    exact ew_lt _ _ (fun a ha => by have := h.2.2 a (List.mem_of_mem_drop ha); omega)
  simp only [hd] at e0
  rw [e1, e0, Nat.mul_comm (_ + _) (2 ^ (5 * (8 - k))), Nat.mul_add_div (Nat.two_pow_pos _), Nat.div_eq_of_lt hlt, Nat.add_zero, Nat.mul_comm]
theorem s_X5_cut {q : PR} (h : okp q) {k : Nat} (hk : k ≤ q.2.length) (σ : si_M) : si_sc gP nX5_cut [.long (lN (en q)), .int (nI k)] σ = some (some (.long (lN (en (q.1, q.2.take k)))), σ) := by
  have hw := h.2.1
  have := en_lt h
  rw [e_X5_cut, pk_sub (show k ≤ 8 by omega), nI_mul, lshl' (by omega), Nat.one_mul, low_off (by omega) (by omega), en_take h hk]
/-- the symbols that stay -/
def thn (o : Int32) : Nat → List Nat → List Nat
  | _, [] => []
  | i, a :: w => if bt o i then thn o (i + 1) w else a :: thn o (i + 1) w
theorem thn_len (o : Int32) : ∀ (w : List Nat) (i : Nat), (thn o i w).length ≤ w.length := by
  intro w
  induction w with
  | nil => intro i; simp [thn]
  | cons a w ih =>
    intro i
    simp only [thn]
    have := ih (i + 1)
    split <;> simp <;> omega
theorem thn_mem (o : Int32) : ∀ (w : List Nat) (i : Nat) (a : Nat), a ∈ thn o i w → a ∈ w := by
  intro w
  induction w with
  | nil => intro i a h; simp [thn] at h
  | cons b w ih =>
    intro i a h
    simp only [thn] at h
    split at h
    · exact List.mem_cons_of_mem _ (ih _ _ h)
    · rcases List.mem_cons.mp h with e | e
      · rw [e]; exact List.mem_cons_self ..
      · exact List.mem_cons_of_mem _ (ih _ _ e)
theorem okp_thn {q : PR} (h : okp q) (o : Int32) : okp (q.1, thn o 0 q.2) := ⟨h.1, Nat.le_trans (thn_len o _ _) h.2.1, fun a ha => h.2.2 a (thn_mem o _ _ a ha)⟩
theorem s_X5_thinned {q : PR} (h : okp q) (o : Int32) (σ : si_M) : si_sc gP nX5_thinned [.long (lN (en q)), .int o] σ = some (some (.long (lN (en (q.1, thn o 0 q.2)))), σ) := by
  have hw := h.2.1
  have key : ∀ (d i : Nat) (v : List Nat), i + d = q.2.length → v.length ≤ i → (∀ a ∈ v, 1 ≤ a ∧ a ≤ 24) → si_sem gP nX5_thinned 17 [.long (lN (en q)), si_U, .int o, .long (lN (en (q.1, v))), si_U, .int (nI q.2.length), .int (nI i)] [] σ = some (some (.long (lN (en (q.1, v ++ thn o i (q.2.drop i))))), σ) := by
    intro d
    induction d with
    | zero =>
      intro i v hd _ _
      rw [h_X5_thinned_17, cT (nI_le (show q.2.length ≤ i by omega) (by omega)), List.drop_eq_nil_of_le (by omega)]
      simp [thn]
    | succ d ih =>
      intro i v hd hv hva
      have hi : i < q.2.length := by omega
      have hp := h.2.2 _ (List.getElem_mem hi)
      have hov : okp (q.1, v) := ⟨h.1, by show v.length ≤ 8; omega, hva⟩
      rw [h_X5_thinned_17, cF (nI_ge hi (by omega)), ush1 o (by omega), bn, s_X5_symbolAt h (by omega), ci_s, sy_in h hi, gD hi, s_X5_extended hov hp, List.drop_eq_getElem_cons hi, nI_add]
      simp only [thn]
      cases bt o i with
      | true => rw [cond_true, if_pos rfl]; exact ih (i + 1) v (by omega) (by omega) hva
      | false =>
        rw [cond_false, if_neg (by decide), cl_s]
        unfold ext
        rw [if_pos (show (q.1, v).2.length < 8 from by show v.length < 8; omega)]
        have := ih (i + 1) (v ++ [q.2[i]]) (by omega) (by simp; omega) (fun a ha => by
          rcases List.mem_append.mp ha with ha | ha
          · exact hva a ha
          · rw [List.mem_singleton] at ha; rw [ha]; exact hp)
        rw [List.append_assoc] at this
        exact this
  rw [e_X5_thinned, s_X5_left h, ci_s, s_X5_withoutRight h.1, cl_s, s_X5_length h, ci_s]
  exact key q.2.length 0 [] (by omega) (by simp) (fun a ha => by cases ha)
/-- another symbol for each occurrence of one from a place on -/
def rnm (t f z : Nat) : Nat → List Nat → List Nat
  | _, [] => []
  | i, a :: w => (if f ≤ i ∧ a = t then z else a) :: rnm t f z (i + 1) w
theorem rnm_len (t f z : Nat) : ∀ (w : List Nat) (i : Nat), (rnm t f z i w).length = w.length := by
  intro w
  induction w with
  | nil => intro i; rfl
  | cons a w ih => intro i; simp [rnm, ih]
theorem rnm_mem (t f z : Nat) : ∀ (w : List Nat) (i : Nat) (a : Nat), a ∈ rnm t f z i w → a ∈ w ∨ a = z := by
  intro w
  induction w with
  | nil => intro i a h; simp [rnm] at h
  | cons b w ih =>
    intro i a h
    simp only [rnm] at h
    rcases List.mem_cons.mp h with e | e
    · split at e
      · exact Or.inr e
      · exact Or.inl (by rw [e]; exact List.mem_cons_self ..)
    · rcases ih _ _ e with e | e
      · exact Or.inl (List.mem_cons_of_mem _ e)
      · exact Or.inr e
theorem okp_rnm {q : PR} (h : okp q) (t f : Nat) {z : Nat} (hz : 1 ≤ z ∧ z ≤ 24) : okp (q.1, rnm t f z 0 q.2) := ⟨h.1, by rw [rnm_len]; exact h.2.1, fun a ha => by
  rcases rnm_mem t f z _ _ a ha with e | e
  · exact h.2.2 a e
  · rw [e]; exact hz⟩
theorem s_X5_renamed {q : PR} (h : okp q) {t f z : Nat} (ht : 1 ≤ t ∧ t ≤ 24) (hf : f < 2 ^ 31) (hz : 1 ≤ z ∧ z ≤ 24) (σ : si_M) : si_sc gP nX5_renamed [.long (lN (en q)), .int (nI (t - 1)), .int (nI f), .int (nI (z - 1))] σ = some (some (.long (lN (en (q.1, rnm t f z 0 q.2)))), σ) := by
  have hw := h.2.1
  have key : ∀ (d i : Nat) (v : List Nat), i + d = q.2.length → v.length = i → (∀ a ∈ v, 1 ≤ a ∧ a ≤ 24) → si_sem gP nX5_renamed 18 [.long (lN (en q)), si_U, .int (nI (t - 1)), .int (nI f), .int (nI (z - 1)), .long (lN (en (q.1, v))), si_U, .int (nI q.2.length), .int (nI i), si_U] [] σ = some (some (.long (lN (en (q.1, v ++ rnm t f z i (q.2.drop i))))), σ) := by
    intro d
    induction d with
    | zero =>
      intro i v hd _ _
      rw [h_X5_renamed_18, cT (nI_le (show q.2.length ≤ i by omega) (by omega)), List.drop_eq_nil_of_le (by omega)]
      simp [rnm]
    | succ d ih =>
      intro i v hd hv hva
      have hi : i < q.2.length := by omega
      have hp := h.2.2 _ (List.getElem_mem hi)
      have hov : okp (q.1, v) := ⟨h.1, by show v.length ≤ 8; omega, hva⟩
      have go : ∀ b, 1 ≤ b ∧ b ≤ 24 → b = (if f ≤ i ∧ q.2[i] = t then z else q.2[i]) → (si_cl (some (some (Value.long (pv (ext (q.1, v) b))), σ)) fun r σ => si_sem gP nX5_renamed 18 [.long (lN (en q)), si_U, .int (nI (t - 1)), .int (nI f), .int (nI (z - 1)), .long r, si_U, .int (nI q.2.length), .int (nI (i + 1)), si_U] [] σ) = some (some (.long (lN (en (q.1, v ++ rnm t f z i (q.2[i] :: q.2.drop (i + 1)))))), σ) := by
        intro b hb he
        rw [cl_s]
        unfold ext
        rw [if_pos (show (q.1, v).2.length < 8 from by show v.length < 8; omega)]
        have := ih (i + 1) (v ++ [b]) (by omega) (by simp; omega) (fun a ha => by
          rcases List.mem_append.mp ha with ha | ha
          · exact hva a ha
          · rw [List.mem_singleton] at ha; rw [ha]; exact hb)
        rw [List.append_assoc] at this
        simp only [rnm]
        rw [← he]
        exact this
      rw [h_X5_renamed_18, cF (nI_ge hi (by omega)), s_X5_symbolAt h (by omega), ci_s, sy_in h hi, gD hi, s_X5_extended hov hp, s_X5_extended hov hz, List.drop_eq_getElem_cons hi, nI_add]
      by_cases hfi : f ≤ i
      · rw [cF (nI_nlt hfi (by omega))]
        by_cases hat : q.2[i] = t
        · rw [nF (by rw [hat]), go z hz (by rw [if_pos ⟨hfi, hat⟩])]
        · rw [nT (nI_eqF (by omega) (by omega) (by omega)), go _ hp (by rw [if_neg (fun hh => hat hh.2)])]
      · rw [cT (nI_lt (by omega) (by omega)), go _ hp (by rw [if_neg (fun hh => hfi hh.1)])]
  rw [e_X5_renamed, s_X5_left h, ci_s, s_X5_withoutRight h.1, cl_s, s_X5_length h, ci_s]
  exact key q.2.length 0 [] (by omega) (by simp) (fun a ha => by cases ha)
theorem m1_ne {a : Nat} (ha : a < 2 ^ 31) : ¬ (-1 : Int32) = nI a := by
  intro hh
  have := congrArg Int32.toInt hh
  rw [nI_toInt ha] at this
  have h9 : ((-1 : Int32)).toInt = -1 := by decide
  rw [h9] at this
  omega
def bgB (q : PR) (l a : Nat) : Bool := decide (q.1 = l) && decide (q.2.getD 0 0 = a + 1)
theorem s_X5_begins {q : PR} (h : okp q) {l a : Nat} (hl : l < 16) (ha : a < 24) (σ : si_M) : si_sc gP nX5_begins [.long (lN (en q)), .int (nI l), .int (nI a)] σ = some (some (.int (bI (bgB q l a))), σ) := by
  have hle := h.1
  rw [e_X5_begins, s_X5_left h, ci_s]
  unfold bgB
  by_cases e : q.1 = l
  · rw [nF (by rw [e]), decide_eq_true e, s_X5_symbolAt h (by decide), ci_s, Bool.true_and]
    by_cases hn : 0 < q.2.length
    · have := getD_pos h.2 hn
      rw [sy_in h hn]
      by_cases e2 : q.2.getD 0 0 = a + 1
      · rw [nF (by rw [e2]; rfl), decide_eq_true e2]; rfl
      · rw [nT (nI_eqF (by omega) (by omega) (by omega)), decide_eq_false e2]; rfl
    · rw [sy_out (by omega), getD_out (by omega), decide_eq_false (show ¬ 0 = a + 1 by omega), nT (m1_ne (by omega))]
      rfl
  · rw [nT (nI_eqF e (by omega) (by omega)), decide_eq_false e]; rfl
