/-! Long.bitCount -/
def rep (c : Nat) : Nat → Nat
  | 0 => 0
  | k + 1 => 256 * rep c k + c
def bm (f : Nat → Nat) : Nat → Nat → Nat
  | 0, _ => 0
  | k + 1, n => 256 * bm f k (n / 256) + f (n % 256)
theorem tb256 (m d i : Nat) (hd : d < 256) : (256 * m + d).testBit i = if i < 8 then d.testBit i else m.testBit (i - 8) := Nat.testBit_two_pow_mul_add (i := 8) m hd i
theorem and256 {m d M c : Nat} (hd : d < 256) (hc : c < 256) : (256 * m + d) &&& (256 * M + c) = 256 * (m &&& M) + (d &&& c) := by
  have h1 : d &&& c < 256 := Nat.lt_of_le_of_lt Nat.and_le_left hd
  apply Nat.eq_of_testBit_eq
  intro i
  rw [Nat.testBit_and, tb256 _ _ _ hd, tb256 _ _ _ hc, tb256 _ _ _ h1]
  split
  · rw [Nat.testBit_and]
  · rw [Nat.testBit_and]
theorem shr256 {m d M c s : Nat} (hd : d < 256) (hc : c < 2 ^ (8 - s)) (hs : s ≤ 8) : ((256 * m + d) / 2 ^ s) &&& (256 * M + c) = 256 * ((m / 2 ^ s) &&& M) + ((d / 2 ^ s) &&& c) := by
  have hc2 : c < 256 := Nat.lt_of_lt_of_le hc (Nat.pow_le_pow_right (by decide) (by omega : 8 - s ≤ 8))
  have h1 : (d / 2 ^ s) &&& c < 256 := Nat.lt_of_le_of_lt Nat.and_le_right hc2
  apply Nat.eq_of_testBit_eq
  intro i
  rw [Nat.testBit_and, Nat.testBit_div_two_pow, tb256 _ _ _ hd, tb256 _ _ _ hc2, tb256 _ _ _ h1]
  by_cases hi : i < 8
  · rw [if_pos hi, if_pos hi, Nat.testBit_and, Nat.testBit_div_two_pow]
    by_cases h8 : s + i < 8
    · rw [if_pos (by omega)]
    · have : c.testBit i = false := Nat.testBit_lt_two_pow (Nat.lt_of_lt_of_le hc (Nat.pow_le_pow_right (by decide) (by omega : 8 - s ≤ i)))
      rw [this, Bool.and_false, Bool.and_false]
  · rw [if_neg hi, if_neg hi, if_neg (by omega), Nat.testBit_and, Nat.testBit_div_two_pow]
    congr 2
    omega
def f1 (d : Nat) : Nat := d - ((d / 2) &&& 85)
def f2 (d : Nat) : Nat := (d &&& 51) + ((d / 4) &&& 51)
def f3 (d : Nat) : Nat := (d + d / 16) % 16
theorem st1 : ∀ (k n : Nat), n < 256 ^ k → ((n / 2) &&& rep 85 k) ≤ n ∧ n - ((n / 2) &&& rep 85 k) = bm f1 k n := by
  intro k
  induction k with
  | zero => intro n h; rw [Nat.pow_zero] at h; have : n = 0 := by omega
            subst this; exact ⟨by decide, by decide⟩
  | succ k ih =>
    intro n h
    rw [Nat.pow_succ] at h
    obtain ⟨i1, i2⟩ := ih (n / 256) (by omega)
    have hd : n % 256 < 256 := Nat.mod_lt _ (by decide)
    have e := shr256 (m := n / 256) (d := n % 256) (M := rep 85 k) (c := 85) (s := 1) hd (by decide) (by decide)
    rw [show 256 * (n / 256) + n % 256 = n by omega, show (2 : Nat) ^ 1 = 2 from rfl] at e
    have hb : ((n % 256) / 2 &&& 85) ≤ n % 256 := Nat.le_trans Nat.and_le_left (by omega)
    simp only [rep, bm]
    rw [e, ← i2]
    unfold f1
    omega
theorem st2 : ∀ (k n : Nat), n < 256 ^ k → (n &&& rep 51 k) + ((n / 4) &&& rep 51 k) = bm f2 k n := by
  intro k
  induction k with
  | zero => intro n h; rw [Nat.pow_zero] at h; have : n = 0 := by omega
            subst this; decide
  | succ k ih =>
    intro n h
    rw [Nat.pow_succ] at h
    have i1 := ih (n / 256) (by omega)
    have hd : n % 256 < 256 := Nat.mod_lt _ (by decide)
    have e := shr256 (m := n / 256) (d := n % 256) (M := rep 51 k) (c := 51) (s := 2) hd (by decide) (by decide)
    have e2 := and256 (m := n / 256) (d := n % 256) (M := rep 51 k) (c := 51) hd (by decide)
    rw [show 256 * (n / 256) + n % 256 = n by omega] at e e2
    rw [show (2 : Nat) ^ 2 = 4 from rfl] at e
    simp only [rep, bm]
    rw [e, e2, ← i1]
    unfold f2
    omega
theorem bm_c {f g : Nat → Nat} : ∀ (k n : Nat), (∀ d, d < 256 → f d = g d) → bm f k n = bm g k n := by
  intro k
  induction k with
  | zero => intro n _; rfl
  | succ k ih => intro n h; simp only [bm]; rw [ih _ h, h _ (Nat.mod_lt _ (by decide))]
theorem bm_lt {f : Nat → Nat} (hf : ∀ d, d < 256 → f d < 256) : ∀ (k n : Nat), bm f k n < 256 ^ k := by
  intro k
  induction k with
  | zero => intro n; exact Nat.one_pos
  | succ k ih =>
    intro n
    have h1 := ih (n / 256)
    have h2 := hf (n % 256) (Nat.mod_lt _ (by decide))
    simp only [bm]
    rw [Nat.pow_succ]
    omega
theorem bm_bm {f g : Nat → Nat} (hg : ∀ d, d < 256 → g d < 256) : ∀ (k n : Nat), bm f k (bm g k n) = bm (fun d => f (g d)) k n := by
  intro k
  induction k with
  | zero => intro n; rfl
  | succ k ih =>
    intro n
    have h2 := hg (n % 256) (Nat.mod_lt _ (by decide))
    simp only [bm]
    rw [show (256 * bm g k (n / 256) + g (n % 256)) / 256 = bm g k (n / 256) by omega, show (256 * bm g k (n / 256) + g (n % 256)) % 256 = g (n % 256) by omega, ih]
theorem st3 {g : Nat → Nat} (hg : ∀ d, d < 256 → g d ≤ 68 ∧ g d % 16 ≤ 4) : ∀ (k n : Nat), ((bm g k n + bm g k n / 16) &&& rep 15 k) = bm (fun d => f3 (g d)) k n := by
  intro k
  induction k with
  | zero => intro n; decide
  | succ k ih =>
    intro n
    have h1 := hg (n % 256) (Nat.mod_lt _ (by decide))
    have i1 := ih (n / 256)
    have hm : bm g k (n / 256) % 16 ≤ 4 := by
      cases k with
      | zero => show 0 % 16 ≤ 4; decide
      | succ k =>
        have := (hg ((n / 256) % 256) (Nat.mod_lt _ (by decide))).2
        simp only [bm]
        omega
    simp only [bm, rep]
    generalize bm g k (n / 256) = m at i1 hm ⊢
    generalize g (n % 256) = d at h1 ⊢
    have e1 : 256 * m + d + (256 * m + d) / 16 = 256 * (m + m / 16) + (16 * (m % 16) + d + d / 16) := by omega
    have hs : 16 * (m % 16) + d + d / 16 < 256 := by omega
    rw [e1, and256 hs (by decide), i1]
    congr 1
    have : (16 * (m % 16) + d + d / 16) &&& 15 = (16 * (m % 16) + d + d / 16) % 16 := Nat.and_two_pow_sub_one_eq_mod _ 4
    rw [this]
    unfold f3
    omega
theorem tab1 : ∀ d : Fin 256, f1 d.1 < 256 := by decide +kernel
theorem tab2 : ∀ d : Fin 256, f2 (f1 d.1) ≤ 68 ∧ f2 (f1 d.1) % 16 ≤ 4 := by decide +kernel
theorem tab3 : ∀ d : Fin 256, f3 (f2 (f1 d.1)) = pcR 8 d.1 ∧ pcR 8 d.1 ≤ 8 := by decide +kernel
def pS : Nat → Nat → Nat
  | 0, _ => 0
  | k + 1, n => pcR 8 (n % 256) + pS k (n / 256)
def lc1 (a : Int64) : Int64 := a - ((si_lushr a (nI 1)) &&& (lN 6148914691236517205))
def lc2 (a : Int64) : Int64 := (a &&& (lN 3689348814741910323)) + ((si_lushr a (nI 2)) &&& (lN 3689348814741910323))
def lc3 (a : Int64) : Int64 := (a + (si_lushr a (nI 4))) &&& (lN 1085102592571150095)
def lc4 (a : Int64) : Int64 := a + (si_lushr a (nI 8))
def lc5 (a : Int64) : Int64 := a + (si_lushr a (nI 16))
def lc6 (a : Int64) : Int64 := a + (si_lushr a (nI 32))
theorem rep8 : rep 85 8 = 6148914691236517205 ∧ rep 51 8 = 3689348814741910323 ∧ rep 15 8 = 1085102592571150095 := by decide
theorem p256 : (256 : Nat) ^ 8 = 2 ^ 64 := by decide
theorem bc_sum {p0 p1 p2 p3 p4 p5 p6 p7 : Nat} (h0 : p0 ≤ 8) (h1 : p1 ≤ 8) (h2 : p2 ≤ 8) (h3 : p3 ≤ 8) (h4 : p4 ≤ 8) (h5 : p5 ≤ 8) (h6 : p6 ≤ 8) (h7 : p7 ≤ 8) : lc6 (lc5 (lc4 (lN (256 * (256 * (256 * (256 * (256 * (256 * (256 * p7 + p6) + p5) + p4) + p3) + p2) + p1) + p0)))) = lN (p0 + p1 + p2 + p3 + p4 + p5 + p6 + p7 + 256 * ((p1 + p2 + p3 + p4 + p5 + p6 + p7) + 256 * ((p2 + p3 + p4 + p5 + p6 + p7) + 256 * ((p3 + p4 + p5 + p6 + p7) + 256 * ((p4 + p5 + p6 + p7) + 256 * ((p5 + p6 + p7) + 256 * ((p6 + p7) + 256 * p7))))))) := by
  unfold lc6 lc5 lc4
  rw [lush (by omega) (by decide), lN_add, lush (by omega) (by decide), lN_add, lush (by omega) (by decide), lN_add]
  congr 1
  omega
theorem bc_all (n : Nat) (hn : n < 2 ^ 64) : (lc6 (lc5 (lc4 (lc3 (lc2 (lc1 (lN n))))))).toInt32 &&& nI 127 = nI (pS 8 n) := by
  have t1 : ∀ d, d < 256 → f1 d < 256 := fun d hd => tab1 ⟨d, hd⟩
  have t2 : ∀ d, d < 256 → f2 (f1 d) ≤ 68 ∧ f2 (f1 d) % 16 ≤ 4 := fun d hd => tab2 ⟨d, hd⟩
  have t3 : ∀ d, d < 256 → f3 (f2 (f1 d)) = pcR 8 d ∧ pcR 8 d ≤ 8 := fun d hd => tab3 ⟨d, hd⟩
  have hn8 : n < 256 ^ 8 := by rw [p256]; exact hn
  obtain ⟨a1, a2⟩ := st1 8 n hn8
  have b1 := bm_lt t1 8 n
  have b2 := st2 8 (bm f1 8 n) b1
  rw [bm_bm t1] at b2
  have b3 := bm_lt (f := fun d => f2 (f1 d)) (fun d hd => by have := (t2 d hd).1; omega) 8 n
  have b4 := st3 (g := fun d => f2 (f1 d)) t2 8 n
  rw [rep8.1] at a1 a2
  rw [rep8.2.1] at b2
  rw [rep8.2.2, bm_c (g := pcR 8) 8 n (fun d hd => (t3 d hd).1)] at b4
  rw [p256] at b1 b3
  have e1 : lc1 (lN n) = lN (bm f1 8 n) := by
    unfold lc1
    rw [lush hn (by decide), show (2 : Nat) ^ 1 = 2 from rfl, wb_and (by omega) (by decide), lN_sub a1, a2]
  have e2 : lc2 (lN (bm f1 8 n)) = lN (bm (fun d => f2 (f1 d)) 8 n) := by
    unfold lc2
    rw [lush b1 (by decide), show (2 : Nat) ^ 2 = 4 from rfl, wb_and b1 (by decide), wb_and (by omega) (by decide), lN_add, b2]
  have hb68 : bm (fun d => f2 (f1 d)) 8 n + bm (fun d => f2 (f1 d)) 8 n / 16 < 2 ^ 64 := by
    have : bm (fun d => f2 (f1 d)) 8 n ≤ rep 68 8 := by
      have key : ∀ k n, bm (fun d => f2 (f1 d)) k n ≤ rep 68 k := by
        intro k
        induction k with
        | zero => intro n; exact Nat.le_refl _
        | succ k ih =>
          intro n
          have h1 := ih (n / 256)
          have h2 := (t2 (n % 256) (Nat.mod_lt _ (by decide))).1
          simp only [bm, rep]
          omega
      exact key 8 n
    have h9 : rep 68 8 = 4919131752989213764 := by decide
    omega
  have e3 : lc3 (lN (bm (fun d => f2 (f1 d)) 8 n)) = lN (bm (pcR 8) 8 n) := by
    unfold lc3
    rw [lush b3 (by decide), show (2 : Nat) ^ 4 = 16 from rfl, lN_add, wb_and hb68 (by decide), b4]
  rw [e1, e2, e3]
  have q : ∀ m, pcR 8 (m % 256) ≤ 8 := fun m => (t3 (m % 256) (Nat.mod_lt _ (by decide))).2
  have hs := bc_sum (q n) (q (n / 256)) (q (n / 256 / 256)) (q (n / 256 / 256 / 256)) (q (n / 256 / 256 / 256 / 256)) (q (n / 256 / 256 / 256 / 256 / 256)) (q (n / 256 / 256 / 256 / 256 / 256 / 256)) (q (n / 256 / 256 / 256 / 256 / 256 / 256 / 256))
  have eb : bm (pcR 8) 8 n = 256 * (256 * (256 * (256 * (256 * (256 * (256 * pcR 8 (n / 256 / 256 / 256 / 256 / 256 / 256 / 256 % 256) + pcR 8 (n / 256 / 256 / 256 / 256 / 256 / 256 % 256)) + pcR 8 (n / 256 / 256 / 256 / 256 / 256 % 256)) + pcR 8 (n / 256 / 256 / 256 / 256 % 256)) + pcR 8 (n / 256 / 256 / 256 % 256)) + pcR 8 (n / 256 / 256 % 256)) + pcR 8 (n / 256 % 256)) + pcR 8 (n % 256) := by
    simp only [bm]
    omega
  have ep : pS 8 n = pcR 8 (n % 256) + pcR 8 (n / 256 % 256) + pcR 8 (n / 256 / 256 % 256) + pcR 8 (n / 256 / 256 / 256 % 256) + pcR 8 (n / 256 / 256 / 256 / 256 % 256) + pcR 8 (n / 256 / 256 / 256 / 256 / 256 % 256) + pcR 8 (n / 256 / 256 / 256 / 256 / 256 / 256 % 256) + pcR 8 (n / 256 / 256 / 256 / 256 / 256 / 256 / 256 % 256) := by
    simp only [pS]
    omega
  rw [eb, hs, lN_i, ep]
  have em := fa_mask
  rw [show nI 127 = nI (2 ^ 7 - 1) from rfl, fa_mask]
  congr 1
  have := q n
  have := q (n / 256)
  have := q (n / 256 / 256)
  have := q (n / 256 / 256 / 256)
  have := q (n / 256 / 256 / 256 / 256)
  have := q (n / 256 / 256 / 256 / 256 / 256)
  have := q (n / 256 / 256 / 256 / 256 / 256 / 256)
  have := q (n / 256 / 256 / 256 / 256 / 256 / 256 / 256)
  omega
