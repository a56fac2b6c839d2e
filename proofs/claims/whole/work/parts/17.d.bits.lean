/-! Long.bitCount -/
def rep (c : Nat) : Nat → Nat
  | 0 => 0
  | k + 1 => 256 * rep c k + c
def bm (f : Nat → Nat) : Nat → Nat → Nat
  | 0, _ => 0
  | k + 1, n => 256 * bm f k (n / 256) + f (n % 256)
theorem tb256 (m d i : Nat) (hd : d < 256) : (256 * m + d).testBit i = if i < 8 then d.testBit i else m.testBit (i - 8) := Nat.testBit_two_pow_mul_add (i := 8) m hd i
theorem and256 {m d M c : Nat} (hd : d < 256) (hc : c < 256) : (256 * m + d) &&& (256 * M + c) = 256 * (m &&& M) + (d &&& c) := by
  have h1 : d &&& c < 256 := Nat.lt_of_le_of_lt Nat.and_le_left hd
  apply Nat.eq_of_testBit_eq
  intro i
  rw [Nat.testBit_and, tb256 _ _ _ hd, tb256 _ _ _ hc, tb256 _ _ _ h1]
  split
  · rw [Nat.testBit_and]
  · rw [Nat.testBit_and]
theorem shr256 {m d M c s : Nat} (hd : d < 256) (hc : c < 2 ^ (8 - s)) (hs : s ≤ 8) : ((256 * m + d) / 2 ^ s) &&& (256 * M + c) = 256 * ((m / 2 ^ s) &&& M) + ((d / 2 ^ s) &&& c) := by
  have hc2 : c < 256 := Nat.lt_of_lt_of_le hc (Nat.pow_le_pow_right (by decide) (by omega : 8 - s ≤ 8))
  have h1 : (d / 2 ^ s) &&& c < 256 := Nat.lt_of_le_of_lt Nat.and_le_right hc2
  apply Nat.eq_of_testBit_eq
  intro i
  rw [Nat.testBit_and, Nat.testBit_div_two_pow, tb256 _ _ _ hd, tb256 _ _ _ hc2, tb256 _ _ _ h1]
  by_cases hi : i < 8
  · rw [if_pos hi, if_pos hi, Nat.testBit_and, Nat.testBit_div_two_pow]
    by_cases h8 : s + i < 8
    · rw [if_pos (by omega)]
    · have : c.testBit i = false := Nat.testBit_lt_two_pow (Nat.lt_of_lt_of_le hc (Nat.pow_le_pow_right (by decide) (by omega : 8 - s ≤ i)))
      rw [this, Bool.and_false, Bool.and_false]
  · rw [if_neg hi, if_neg hi, if_neg (by omega), Nat.testBit_and, Nat.testBit_div_two_pow]
    congr 2
    omega
def f1 (d : Nat) : Nat := d - ((d / 2) &&& 85)
def f2 (d : Nat) : Nat := (d &&& 51) + ((d / 4) &&& 51)
def f3 (d : Nat) : Nat := (d + d / 16) % 16
theorem st1 : ∀ (k n : Nat), n < 256 ^ k → ((n / 2) &&& rep 85 k) ≤ n ∧ n - ((n / 2) &&& rep 85 k) = bm f1 k n := by
  intro k
  induction k with
  | zero => intro n h; rw [Nat.pow_zero] at h; have : n = 0 := by omega
            subst this; exact ⟨by decide, by decide⟩
  | succ k ih =>
    intro n h
    rw [Nat.pow_succ] at h
    obtain ⟨i1, i2⟩ := ih (n / 256) (by omega)
    have hd : n % 256 < 256 := Nat.mod_lt _ (by decide)
    have e := shr256 (m := n / 256) (d := n % 256) (M := rep 85 k) (c := 85) (s := 1) hd (by decide) (by decide)
    rw [show 256 * (n / 256) + n % 256 = n by omega, show (2 : Nat) ^ 1 = 2 from rfl] at e
    have hb : ((n % 256) / 2 &&& 85) ≤ n % 256 := Nat.le_trans Nat.and_le_left (by omega)
    simp only [rep, bm]
    rw [e, ← i2]
    unfold f1
    omega
theorem st2 : ∀ (k n : Nat), n < 256 ^ k → (n &&& rep 51 k) + ((n / 4) &&& rep 51 k) = bm f2 k n := by
  intro k
  induction k with
  | zero => intro n h; rw [Nat.pow_zero] at h; have : n = 0 := by omega
            subst this; decide
  | succ k ih =>
    intro n h
    rw [Nat.pow_succ] at h
    have i1 := ih (n / 256) (by omega)
    have hd : n % 256 < 256 := Nat.mod_lt _ (by decide)
    have e := shr256 (m := n / 256) (d := n % 256) (M := rep 51 k) (c := 51) (s := 2) hd (by decide) (by decide)
    have e2 := and256 (m := n / 256) (d := n % 256) (M := rep 51 k) (c := 51) hd (by decide)
    rw [show 256 * (n / 256) + n % 256 = n by omega] at e e2
    rw [show (2 : Nat) ^ 2 = 4 from rfl] at e
    simp only [rep, bm]
    rw [e, e2, ← i1]
    unfold f2
    omega
theorem bm_c {f g : Nat → Nat} : ∀ (k n : Nat), (∀ d, d < 256 → f d = g d) → bm f k n = bm g k n := by
  intro k
  induction k with
  | zero => intro n _; rfl
  | succ k ih => intro n h; simp only [bm]; rw [ih _ h, h _ (Nat.mod_lt _ (by decide))]
theorem bm_lt {f : Nat → Nat} (hf : ∀ d, d < 256 → f d < 256) : ∀ (k n : Nat), bm f k n < 256 ^ k := by
  intro k
  induction k with
  | zero => intro n; exact Nat.one_pos
  | succ k ih =>
    intro n
    have h1 := ih (n / 256)
    have h2 := hf (n % 256) (Nat.mod_lt _ (by decide))
    simp only [bm]
    rw [Nat.pow_succ]
    omega
theorem bm_bm {f g : Nat → Nat} (hg : ∀ d, d < 256 → g d < 256) : ∀ (k n : Nat), bm f k (bm g k n) = bm (fun d => f (g d)) k n := by
  intro k
  induction k with
  | zero => intro n; rfl
  | succ k ih =>
    intro n
    have h2 := hg (n % 256) (Nat.mod_lt _ (by decide))
    simp only [bm]
    rw [show (256 * bm g k (n / 256) + g (n % 256)) / 256 = bm g k (n / 256) by omega, show (256 * bm g k (n / 256) + g (n % 256)) % 256 = g (n % 256) by omega, ih]
theorem st3 {g : Nat → Nat} (hg : ∀ d, d < 256 → g d ≤ 68 ∧ g d % 16 ≤ 4) : ∀ (k n : Nat), ((bm g k n + bm g k n / 16) &&& rep 15 k) = bm (fun d => f3 (g d)) k n := by
  intro k
  induction k with
  | zero => intro n; simp [bm, rep]
  | succ k ih =>
    intro n
    have h1 := hg (n % 256) (Nat.mod_lt _ (by decide))
    have i1 := ih (n / 256)
    have hm : bm g k (n / 256) % 16 ≤ 4 := by
      cases k with
      | zero => show 0 % 16 ≤ 4; decide
      | succ k =>
        have := (hg ((n / 256) % 256) (Nat.mod_lt _ (by decide))).2
        simp only [bm]
        omega
    simp only [bm, rep]
    generalize bm g k (n / 256) = m at i1 hm ⊢
    generalize g (n % 256) = d at h1 ⊢
    have e1 : 256 * m + d + (256 * m + d) / 16 = 256 * (m + m / 16) + (16 * (m % 16) + d + d / 16) := by omega
    have hs : 16 * (m % 16) + d + d / 16 < 256 := by omega
    rw [e1, and256 hs (by decide), i1]
    congr 1
    have : (16 * (m % 16) + d + d / 16) &&& 15 = (16 * (m % 16) + d + d / 16) % 16 := Nat.and_two_pow_sub_one_eq_mod _ 4
    rw [this]
    unfold f3
    omega
theorem tab1 : ∀ d : Fin 256, f1 d.1 < 256 := by decide +kernel
theorem tab2 : ∀ d : Fin 256, f2 (f1 d.1) ≤ 68 ∧ f2 (f1 d.1) % 16 ≤ 4 := by decide +kernel
theorem tab3 : ∀ d : Fin 256, f3 (f2 (f1 d.1)) = pcR 8 d.1 ∧ pcR 8 d.1 ≤ 8 := by decide +kernel
def pS : Nat → Nat → Nat
  | 0, _ => 0
  | k + 1, n => pcR 8 (n % 256) + pS k (n / 256)
def lc1 (a : Int64) : Int64 := a - ((si_lushr a (nI 1)) &&& (lN 6148914691236517205))
def lc2 (a : Int64) : Int64 := (a &&& (lN 3689348814741910323)) + ((si_lushr a (nI 2)) &&& (lN 3689348814741910323))
def lc3 (a : Int64) : Int64 := (a + (si_lushr a (nI 4))) &&& (lN 1085102592571150095)
def lc4 (a : Int64) : Int64 := a + (si_lushr a (nI 8))
def lc5 (a : Int64) : Int64 := a + (si_lushr a (nI 16))
def lc6 (a : Int64) : Int64 := a + (si_lushr a (nI 32))
theorem rep8 : rep 85 8 = 6148914691236517205 ∧ rep 51 8 = 3689348814741910323 ∧ rep 15 8 = 1085102592571150095 := by decide
theorem p256 : (256 : Nat) ^ 8 = 2 ^ 64 := by decide
def B8 (q0 q1 q2 q3 q4 q5 q6 q7 : Nat) : Nat := q0 + 256 * (q1 + 256 * (q2 + 256 * (q3 + 256 * (q4 + 256 * (q5 + 256 * (q6 + 256 * q7))))))
theorem B8_lt {q0 q1 q2 q3 q4 q5 q6 q7 : Nat} (h0 : q0 < 256) (h1 : q1 < 256) (h2 : q2 < 256) (h3 : q3 < 256) (h4 : q4 < 256) (h5 : q5 < 256) (h6 : q6 < 256) (h7 : q7 < 256) : B8 q0 q1 q2 q3 q4 q5 q6 q7 < 2 ^ 64 := by
  unfold B8
  omega
theorem B8_1 {q0 q1 q2 q3 q4 q5 q6 q7 : Nat} (h0 : q0 < 256) : B8 q0 q1 q2 q3 q4 q5 q6 q7 / 2 ^ 8 = B8 q1 q2 q3 q4 q5 q6 q7 0 := by
  unfold B8
  generalize q1 + 256 * (q2 + 256 * (q3 + 256 * (q4 + 256 * (q5 + 256 * (q6 + 256 * q7))))) = m
  omega
theorem B8_2 {q0 q1 q2 q3 q4 q5 q6 q7 : Nat} (h0 : q0 < 256) (h1 : q1 < 256) : B8 q0 q1 q2 q3 q4 q5 q6 q7 / 2 ^ 16 = B8 q2 q3 q4 q5 q6 q7 0 0 := by
  unfold B8
  generalize q2 + 256 * (q3 + 256 * (q4 + 256 * (q5 + 256 * (q6 + 256 * q7)))) = m
  omega
theorem B8_4 {q0 q1 q2 q3 q4 q5 q6 q7 : Nat} (h0 : q0 < 256) (h1 : q1 < 256) (h2 : q2 < 256) (h3 : q3 < 256) : B8 q0 q1 q2 q3 q4 q5 q6 q7 / 2 ^ 32 = B8 q4 q5 q6 q7 0 0 0 0 := by
  unfold B8
  generalize q4 + 256 * (q5 + 256 * (q6 + 256 * q7)) = m
  omega
theorem B8_add (a0 a1 a2 a3 a4 a5 a6 a7 b0 b1 b2 b3 b4 b5 b6 b7 : Nat) : B8 a0 a1 a2 a3 a4 a5 a6 a7 + B8 b0 b1 b2 b3 b4 b5 b6 b7 = B8 (a0 + b0) (a1 + b1) (a2 + b2) (a3 + b3) (a4 + b4) (a5 + b5) (a6 + b6) (a7 + b7) := by
  unfold B8
  omega
theorem bc_sum {p0 p1 p2 p3 p4 p5 p6 p7 : Nat} (h0 : p0 ≤ 8) (h1 : p1 ≤ 8) (h2 : p2 ≤ 8) (h3 : p3 ≤ 8) (h4 : p4 ≤ 8) (h5 : p5 ≤ 8) (h6 : p6 ≤ 8) (h7 : p7 ≤ 8) : ∃ m, lc6 (lc5 (lc4 (lN (B8 p0 p1 p2 p3 p4 p5 p6 p7)))) = lN (p0 + p1 + p2 + p3 + p4 + p5 + p6 + p7 + 256 * m) := by
  unfold lc6 lc5 lc4
  rw [lush (B8_lt (by omega) (by omega) (by omega) (by omega) (by omega) (by omega) (by omega) (by omega)) (by decide), lN_add, B8_1 (by omega), B8_add]
  rw [lush (B8_lt (by omega) (by omega) (by omega) (by omega) (by omega) (by omega) (by omega) (by omega)) (by decide), lN_add, B8_2 (by omega) (by omega), B8_add]
  rw [lush (B8_lt (by omega) (by omega) (by omega) (by omega) (by omega) (by omega) (by omega) (by omega)) (by decide), lN_add, B8_4 (by omega) (by omega) (by omega) (by omega), B8_add]
  unfold B8
  refine ⟨_, congrArg lN (congr (congrArg HAdd.hAdd ?_) rfl)⟩
  omega
theorem bmS (f : Nat → Nat) (k n : Nat) : bm f (k + 1) n = f (n % 256) + 256 * bm f k (n / 256) := by
  simp only [bm]
  exact Nat.add_comm _ _
theorem pSS (k n : Nat) : pS (k + 1) n = pcR 8 (n % 256) + pS k (n / 256) := rfl
theorem bc_bytes (n : Nat) : ∃ p0 p1 p2 p3 p4 p5 p6 p7, (p0 ≤ 8 ∧ p1 ≤ 8 ∧ p2 ≤ 8 ∧ p3 ≤ 8 ∧ p4 ≤ 8 ∧ p5 ≤ 8 ∧ p6 ≤ 8 ∧ p7 ≤ 8) ∧ bm (pcR 8) 8 n = B8 p0 p1 p2 p3 p4 p5 p6 p7 ∧ pS 8 n = p0 + p1 + p2 + p3 + p4 + p5 + p6 + p7 := by
  have q : ∀ m, pcR 8 (m % 256) ≤ 8 := fun m => (tab3 ⟨m % 256, Nat.mod_lt _ (by decide)⟩).2
  refine ⟨_, _, _, _, _, _, _, _, ⟨q n, q (n / 256), q (n / 256 / 256), q (n / 256 / 256 / 256), q (n / 256 / 256 / 256 / 256), q (n / 256 / 256 / 256 / 256 / 256), q (n / 256 / 256 / 256 / 256 / 256 / 256), q (n / 256 / 256 / 256 / 256 / 256 / 256 / 256)⟩, ?_, ?_⟩
  · rw [bmS, bmS, bmS, bmS, bmS, bmS, bmS, bmS, show bm (pcR 8) 0 (n / 256 / 256 / 256 / 256 / 256 / 256 / 256 / 256) = 0 from rfl, Nat.mul_zero, Nat.add_zero]
    rfl
  · rw [pSS, pSS, pSS, pSS, pSS, pSS, pSS, pSS, show pS 0 (n / 256 / 256 / 256 / 256 / 256 / 256 / 256 / 256) = 0 from rfl]
    omega
theorem bc_1 {n : Nat} (hn : n < 2 ^ 64) : lc1 (lN n) = lN (bm f1 8 n) ∧ bm f1 8 n < 2 ^ 64 := by
  have t1 : ∀ d, d < 256 → f1 d < 256 := fun d hd => tab1 ⟨d, hd⟩
  obtain ⟨a1, a2⟩ := st1 8 n (by rw [p256]; exact hn)
  have b1 := bm_lt t1 8 n
  rw [rep8.1] at a1 a2
  rw [p256] at b1
  refine ⟨?_, b1⟩
  unfold lc1
  rw [lush hn (by decide), show (2 : Nat) ^ 1 = 2 from rfl, wb_and (by omega) (by decide), lN_sub a1, a2]
theorem bc_2 {n : Nat} (b1 : bm f1 8 n < 2 ^ 64) : lc2 (lN (bm f1 8 n)) = lN (bm (fun d => f2 (f1 d)) 8 n) := by
  have t1 : ∀ d, d < 256 → f1 d < 256 := fun d hd => tab1 ⟨d, hd⟩
  have b2 := st2 8 (bm f1 8 n) (by rw [p256]; exact b1)
  rw [bm_bm t1, rep8.2.1] at b2
  unfold lc2
  rw [lush b1 (by decide), show (2 : Nat) ^ 2 = 4 from rfl, wb_and b1 (by decide), wb_and (by omega) (by decide), lN_add, b2]
theorem bc_3 (n : Nat) : lc3 (lN (bm (fun d => f2 (f1 d)) 8 n)) = lN (bm (pcR 8) 8 n) := by
  have t2 : ∀ d, d < 256 → f2 (f1 d) ≤ 68 ∧ f2 (f1 d) % 16 ≤ 4 := fun d hd => tab2 ⟨d, hd⟩
  have t3 : ∀ d, d < 256 → f3 (f2 (f1 d)) = pcR 8 d ∧ pcR 8 d ≤ 8 := fun d hd => tab3 ⟨d, hd⟩
  have b4 := st3 (g := fun d => f2 (f1 d)) t2 8 n
  rw [rep8.2.2, bm_c (g := pcR 8) 8 n (fun d hd => (t3 d hd).1)] at b4
  have key : ∀ k n, bm (fun d => f2 (f1 d)) k n ≤ rep 68 k := by
    intro k
    induction k with
    | zero => intro n; exact Nat.le_refl _
    | succ k ih =>
      intro n
      have h1 := ih (n / 256)
      have h2 := (t2 (n % 256) (Nat.mod_lt _ (by decide))).1
      simp only [bm, rep]
      omega
  have h8 := key 8 n
  rw [show rep 68 8 = 4919131752989213764 by decide] at h8
  generalize bm (fun d => f2 (f1 d)) 8 n = b at b4 h8 ⊢
  unfold lc3
  rw [lush (by omega) (by decide), show (2 : Nat) ^ 4 = 16 from rfl, lN_add, wb_and (by omega) (by decide), b4]
theorem bc_all (n : Nat) (hn : n < 2 ^ 64) : (lc6 (lc5 (lc4 (lc3 (lc2 (lc1 (lN n))))))).toInt32 &&& nI 127 = nI (pS 8 n) := by
  obtain ⟨e1, b1⟩ := bc_1 hn
  obtain ⟨p0, p1, p2, p3, p4, p5, p6, p7, ⟨h0, h1, h2, h3, h4, h5, h6, h7⟩, eb, ep⟩ := bc_bytes n
  obtain ⟨m, hs⟩ := bc_sum h0 h1 h2 h3 h4 h5 h6 h7
  rw [e1, bc_2 b1, bc_3, eb, hs, lN_i, ep, show nI 127 = nI (2 ^ 7 - 1) from rfl, fa_mask]
  congr 1
  omega
