/-! PLAIN FACTS, and productions as pairs: a left side (0 to 15) and a list of symbols (1 to 24) -/
theorem cT {α : Type} {p : Prop} [Decidable p] (h : p) (a b : α) : cond (decide p) a b = a := by simp [h]
theorem cF {α : Type} {p : Prop} [Decidable p] (h : ¬ p) (a b : α) : cond (decide p) a b = b := by simp [h]
theorem nT {α : Type} {p : Prop} [Decidable p] (h : ¬ p) (a b : α) : cond (!decide p) a b = a := by simp [h]
theorem nF {α : Type} {p : Prop} [Decidable p] (h : p) (a b : α) : cond (!decide p) a b = b := by simp [h]
theorem inI {i n : Nat} (h : i < n) (hn : n < 2 ^ 31) : si_in (nI i) n = true := by
  unfold si_in
  rw [nI_clamp (by omega), decide_eq_true (nI_pos' (by omega)), decide_eq_true h]
  rfl
theorem inT {α : Type} {i n : Nat} (h : i < n) (hn : n < 2 ^ 31) (a b : α) : cond (si_in (nI i) n) a b = a := by rw [inI h hn]; rfl
theorem ci_s (v : Int32) (σ : si_M) (k : Int32 → si_M → Option si_O) : si_ci (some (some (.int v), σ)) k = k v σ := rfl
theorem cl_s (v : Int64) (σ : si_M) (k : Int64 → si_M → Option si_O) : si_cl (some (some (.long v), σ)) k = k v σ := rfl
theorem cv_s (σ : si_M) (k : si_M → Option si_O) : si_cv (some (none, σ)) k = k σ := rfl
def ew : Nat → List Nat → Nat
  | 0, _ => 0
  | _ + 1, [] => 0
  | n + 1, a :: w => a * 32 ^ n + ew n w
def en (q : Nat × List Nat) : Nat := q.1 * 1099511627776 + ew 8 q.2
def okw (w : List Nat) : Prop := w.length ≤ 8 ∧ ∀ a ∈ w, 1 ≤ a ∧ a ≤ 24
def okp (q : Nat × List Nat) : Prop := q.1 < 16 ∧ okw q.2
theorem ew_lt : ∀ (n : Nat) (w : List Nat), (∀ a ∈ w, a < 32) → ew n w < 32 ^ n := by
  intro n
  induction n with
  | zero => intro w _; simp [ew]
  | succ n ih =>
    intro w h
    cases w with
    | nil => simp only [ew]; exact Nat.pow_pos (by decide)
    | cons a w =>
      simp only [ew]
      have h1 := ih w (fun b hb => h b (List.mem_cons_of_mem _ hb))
      have h2 := h a List.mem_cons_self
      rw [Nat.pow_succ]
      have h3 : a * 32 ^ n + 32 ^ n ≤ 32 ^ n * 32 := by
        have : (a + 1) * 32 ^ n ≤ 32 * 32 ^ n := Nat.mul_le_mul_right _ (by omega)
        rw [Nat.mul_comm (32 ^ n) 32]
        rw [Nat.add_mul, Nat.one_mul] at this
        exact this
      omega
theorem ew_dig : ∀ (n : Nat) (w : List Nat) (k : Nat), (∀ a ∈ w, a < 32) → k < n → ew n w / 32 ^ (n - 1 - k) % 32 = w.getD k 0 := by
  intro n
  induction n with
  | zero => intro w k _ hk; omega
  | succ n ih =>
    intro w k h hk
    cases w with
    | nil => simp [ew]
    | cons a w =>
      have hw := fun b hb => h b (List.mem_cons_of_mem a hb)
      have h1 := ew_lt n w hw
      have ha := h a List.mem_cons_self
      simp only [ew]
      cases k with
      | zero =>
        have e : n + 1 - 1 - 0 = n := by omega
        rw [e, Nat.mul_comm, Nat.mul_add_div (Nat.pow_pos (by decide)), Nat.div_eq_of_lt h1]
        simp
        omega
      | succ k =>
        have e : n + 1 - 1 - (k + 1) = n - 1 - k := by omega
        have hkn : k < n := by omega
        have h2 := ih w k hw hkn
        rw [e]
        have e2 : 32 ^ n = 32 ^ (n - 1 - k) * (32 * 32 ^ k) := by
          rw [← Nat.mul_assoc, ← Nat.pow_succ, ← Nat.pow_add]
          congr 1
          omega
        have e3 : a * 32 ^ n + ew n w = 32 ^ (n - 1 - k) * (32 * (a * 32 ^ k)) + ew n w := by
          rw [e2]
          congr 1
          rw [Nat.mul_left_comm, Nat.mul_left_comm a 32]
        rw [e3, Nat.mul_add_div (Nat.pow_pos (by decide))]
        rw [Nat.mul_add_mod]
        rw [h2]
        simp
theorem okw.lt {w : List Nat} (h : okw w) : ∀ a ∈ w, a < 32 := fun a ha => by have := h.2 a ha; omega
theorem en_lt {q : Nat × List Nat} (h : okp q) : en q < 17592186044416 := by
  have h1 := ew_lt 8 q.2 h.2.lt
  have h2 := h.1
  have e : (32 : Nat) ^ 8 = 1099511627776 := by decide
  rw [e] at h1
  unfold en
  omega
theorem en_left {q : Nat × List Nat} (h : okp q) : en q / 1099511627776 = q.1 := by
  have h1 := ew_lt 8 q.2 h.2.lt
  have e : (32 : Nat) ^ 8 = 1099511627776 := by decide
  rw [e] at h1
  unfold en
  omega
theorem en_dig {q : Nat × List Nat} (h : okp q) {k : Nat} (hk : k < 8) : en q / 2 ^ (35 - 5 * k) % 32 = q.2.getD k 0 := by
  have h1 := ew_dig 8 q.2 k h.2.lt hk
  have e : (2 : Nat) ^ (35 - 5 * k) = 32 ^ (8 - 1 - k) := by
    have : (32 : Nat) = 2 ^ 5 := by decide
    rw [this, ← Nat.pow_mul]
    congr 1
    omega
  rw [e, ← h1]
  unfold en
  have e2 : (1099511627776 : Nat) = 32 ^ (8 - 1 - k) * (32 * 32 ^ k) := by
    rw [← Nat.mul_assoc, ← Nat.pow_succ, ← Nat.pow_add]
    have : 8 - 1 - k + 1 + k = 8 := by omega
    rw [this]
  have e3 : q.1 * 1099511627776 + ew 8 q.2 = 32 ^ (8 - 1 - k) * (32 * (q.1 * 32 ^ k)) + ew 8 q.2 := by
    rw [e2]
    congr 1
    rw [Nat.mul_left_comm, Nat.mul_left_comm q.1 32]
  rw [e3, Nat.mul_add_div (Nat.pow_pos (by decide)), Nat.mul_add_mod]
theorem getD_pos {w : List Nat} (h : okw w) {k : Nat} (hk : k < w.length) : 1 ≤ w.getD k 0 ∧ w.getD k 0 ≤ 24 := by
  have e : w.getD k 0 = w[k] := by simp [List.getD, hk]
  rw [e]
  exact h.2 _ (List.getElem_mem hk)
theorem getD_out {w : List Nat} {k : Nat} (hk : w.length ≤ k) : w.getD k 0 = 0 := by simp [List.getD, List.getElem?_eq_none hk]
/-- shifts of longs that are numbers -/
theorem lush {n k : Nat} (hn : n < 2 ^ 64) (hk : k < 64) : si_lushr (lN n) (nI k) = lN (n / 2 ^ k) := wb_shr hn hk
theorem lshr' {n k : Nat} (hn : n < 2 ^ 62) (hk : k < 64) : si_lshr (lN n) (nI k) = lN (n / 2 ^ k) := by
  unfold si_lshr
  rw [wb_c k hk]
  refine pf_shr ?_ hn
  have h1 := wb_sm k hk
  rw [wb_tb, h1]
  simp
  omega
theorem lshl' {n k : Nat} (hk : k < 64) : si_lshl (lN n) (nI k) = lN (n * 2 ^ k) := wb_shl n hk
theorem sh35 {k : Nat} (hk : k < 8) : nI 40 - nI 5 * (nI k + nI 1) = nI (35 - 5 * k) := by
  have e1 : nI 5 * (nI k + nI 1) = nI (5 * (k + 1)) := by
    rw [nI_add]
    exact pk_mul 5 (k + 1)
  rw [e1]
  have e2 := pk_sub (a := 40) (b := 5 * (k + 1)) (by omega)
  have e3 : 40 - 5 * (k + 1) = 35 - 5 * k := by omega
  rw [e3] at e2
  exact e2
theorem sh35' {k : Nat} (hk : k < 8) : nI 35 - nI 5 * nI k = nI (35 - 5 * k) := by
  have e1 : nI 5 * nI k = nI (5 * k) := pk_mul 5 k
  rw [e1]
  exact pk_sub (a := 35) (b := 5 * k) (by omega)
theorem dig_l {q : Nat × List Nat} (h : okp q) {k : Nat} (hk : k < 8) : si_lushr (lN (en q)) (nI 40 - nI 5 * (nI k + nI 1)) &&& lN 31 = lN (q.2.getD k 0) := by
  have h1 := en_lt h
  rw [sh35 hk, lush (by omega) (by omega)]
  have e := wb_mask (n := en q / 2 ^ (35 - 5 * k)) (k := 5) (Nat.lt_of_le_of_lt (Nat.div_le_self _ _) (by omega)) (by decide)
  have e2 : lN (2 ^ 5 - 1) = lN 31 := rfl
  rw [e2] at e
  rw [e, show (2 : Nat) ^ 5 = 32 from rfl, en_dig h hk]
theorem dig_i {q : Nat × List Nat} (h : okp q) {k : Nat} (hk : k < 8) : (si_lshr (lN (en q)) (nI 35 - nI 5 * nI k)).toInt32 &&& nI 31 = nI (q.2.getD k 0) := by
  have h1 := en_lt h
  rw [sh35' hk, lshr' (by omega) (by omega), lN_i]
  have e := fa_mask (en q / 2 ^ (35 - 5 * k)) 5
  have e2 : nI (2 ^ 5 - 1) = nI 31 := rfl
  rw [e2] at e
  rw [e, show (2 : Nat) ^ 5 = 32 from rfl, en_dig h hk]
theorem lcmp0 {a : Nat} (ha : a < 2 ^ 63) : lg_cmp (lN a) (lN 0) = nI 0 ↔ a = 0 := (lg_cmp_eq _ _).trans (pk_lEQ ha (by decide))
theorem lcmp_m1 {a : Nat} (ha : a < 2 ^ 63) : ¬ lg_cmp (lN a) (-1 : Int64) = nI 0 := by
  intro h
  unfold lg_cmp at h
  split at h
  · exact absurd h (by decide)
  · split at h
    · rename_i _ e
      have e2 := congrArg Int64.toInt e
      rw [pk_lT ha] at e2
      have : (-1 : Int64).toInt = -1 := by decide
      rw [this] at e2
      omega
    · exact absurd h (by decide)
