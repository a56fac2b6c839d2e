/-! removeEmpty -/
theorem d00 : decide (nI 0 = nI 0) = true := rfl
theorem d10 : decide (nI 1 = nI 0) = false := by decide
theorem bt_nI (n : Nat) {k : Nat} (hk : k < 32) : bt (nI n) k = n.testBit k := by
  show (BitVec.ofNat 32 n).getLsbD k = _
  rw [BitVec.getLsbD_ofNat, decide_eq_true hk, Bool.true_and]
theorem tb_dm (n k : Nat) : n.testBit k = decide (n / 2 ^ k % 2 = 1) := Nat.testBit_eq_decide_div_mod_eq
/-- a symbol that may go -/
def nul (x : Int32) (a : Nat) : Bool := decide (a ≤ 16) && bt x (a - 1)
theorem nul_low {x : Int32} (hx : low x) {a : Nat} (ha : 1 ≤ a) : bt x (a - 1) = nul x a := by
  unfold nul
  by_cases h : a ≤ 16
  · rw [decide_eq_true h, Bool.true_and]
  · rw [decide_eq_false h, Bool.false_and, hx _ (by omega)]
/-- the right sides without some of the symbols that may go -/
def del (x : Int32) : List Nat → List (List Nat)
  | [] => [[]]
  | a :: w => (if nul x a then del x w else []) ++ (del x w).map (fun v => a :: v)
def thN : Nat → List Nat → List Nat
  | _, [] => []
  | o, a :: w => if o % 2 = 1 then thN (o / 2) w else a :: thN (o / 2) w
theorem thn_N (o : Nat) : ∀ (w : List Nat) (i : Nat), i + w.length ≤ 32 → thn (nI o) i w = thN (o / 2 ^ i) w := by
  intro w
  induction w with
  | nil => intro i _; rfl
  | cons a w ih =>
    intro i hi
    rw [List.length_cons] at hi
    simp only [thn, thN]
    rw [ih (i + 1) (by omega), bt_nI o (by omega), tb_dm, Nat.div_div_eq_div_mul, ← Nat.pow_succ]
    by_cases h : o / 2 ^ i % 2 = 1
    · rw [if_pos h, if_pos (decide_eq_true h)]
    · rw [if_neg h, if_neg (fun e => h (of_decide_eq_true e))]
/-- how many of the lowest bits are set -/
def pcR : Nat → Nat → Nat
  | 0, _ => 0
  | n + 1, o => o % 2 + pcR n (o / 2)
theorem pcR_0 : ∀ n, pcR n 0 = 0 := by
  intro n
  induction n with
  | zero => rfl
  | succ n ih => show 0 % 2 + pcR n (0 / 2) = 0; rw [Nat.zero_div, ih]
theorem pcR_up : ∀ (n k o : Nat), o < 2 ^ n → pcR (n + k) o = pcR n o := by
  intro n
  induction n with
  | zero =>
    intro k o h
    rw [Nat.pow_zero] at h
    have : o = 0 := by omega
    subst this
    rw [pcR_0, pcR_0]
  | succ n ih =>
    intro k o h
    rw [Nat.pow_succ] at h
    rw [show n + 1 + k = (n + k) + 1 by omega]
    simp only [pcR]
    rw [ih k (o / 2) (by omega)]
theorem thN_len : ∀ (w : List Nat) (o : Nat), (thN o w).length + pcR w.length o = w.length := by
  intro w
  induction w with
  | nil => intro o; rfl
  | cons a w ih =>
    intro o
    have := ih (o / 2)
    simp only [thN, List.length_cons, pcR]
    split
    · omega
    · rw [List.length_cons]; omega
def sbs (x : Int32) (w : List Nat) (o : Nat) : Prop := ∀ i, o.testBit i = true → ∃ h : i < w.length, nul x w[i] = true
theorem sbs_tail {x : Int32} {a : Nat} {w : List Nat} {o : Nat} (h : sbs x (a :: w) o) : sbs x w (o / 2) := by
  intro i hi
  rw [← Nat.testBit_add_one] at hi
  obtain ⟨h1, h2⟩ := h (i + 1) hi
  exact ⟨by simpa using h1, by simpa using h2⟩
theorem sbs_lt {x : Int32} {w : List Nat} {o : Nat} (h : sbs x w o) : o < 2 ^ w.length := Nat.lt_pow_two_of_testBit o (fun i hi => by
  cases hb : o.testBit i with
  | false => rfl
  | true =>
    obtain ⟨h1, _⟩ := h i hb
    omega)
theorem thN_del (x : Int32) : ∀ (w : List Nat) (o : Nat), sbs x w o → thN o w ∈ del x w := by
  intro w
  induction w with
  | nil => intro o _; simp [thN, del]
  | cons a w ih =>
    intro o h
    have h2 := ih (o / 2) (sbs_tail h)
    simp only [thN, del]
    by_cases e : o % 2 = 1
    · rw [if_pos e]
      obtain ⟨_, h4⟩ := h 0 (by rw [Nat.testBit_zero]; exact decide_eq_true e)
      have h5 : nul x a = true := h4
      rw [if_pos h5]
      exact List.mem_append_left _ h2
    · rw [if_neg e]
      exact List.mem_append_right _ (List.mem_map.mpr ⟨_, h2, rfl⟩)
theorem del_thN (x : Int32) : ∀ (w : List Nat) (v : List Nat), v ∈ del x w → ∃ o, sbs x w o ∧ thN o w = v := by
  intro w
  induction w with
  | nil =>
    intro v h
    refine ⟨0, fun i hi => by simp at hi, ?_⟩
    simp [del] at h
    rw [h]
    rfl
  | cons a w ih =>
    intro v h
    simp only [del] at h
    rcases List.mem_append.mp h with h | h
    · split at h
      · rename_i hn
        obtain ⟨o, h2, h3⟩ := ih v h
        refine ⟨2 * o + 1, fun i hi => ?_, ?_⟩
        · cases i with
          | zero => exact ⟨by simp, hn⟩
          | succ i =>
            rw [Nat.testBit_add_one, show (2 * o + 1) / 2 = o by omega] at hi
            obtain ⟨h4, h5⟩ := h2 i hi
            exact ⟨by simpa using h4, by simpa using h5⟩
        · simp only [thN]
          rw [if_pos (by omega), show (2 * o + 1) / 2 = o by omega, h3]
      · cases h
    · obtain ⟨u, h0, rfl⟩ := List.mem_map.mp h
      obtain ⟨o, h2, h3⟩ := ih u h0
      refine ⟨2 * o, fun i hi => ?_, ?_⟩
      · cases i with
        | zero =>
          rw [Nat.testBit_zero] at hi
          have := of_decide_eq_true hi
          omega
        | succ i =>
          rw [Nat.testBit_add_one, show (2 * o) / 2 = o by omega] at hi
          obtain ⟨h4, h5⟩ := h2 i hi
          exact ⟨by simpa using h4, by simpa using h5⟩
      · simp only [thN]
        rw [if_neg (by omega), show (2 * o) / 2 = o by omega, h3]
def wdN (x : Int32) : Nat → List Nat → List Nat
  | _, [] => []
  | g, a :: w => if nul x a then (if g % 2 = 1 then wdN x (g / 2) w else a :: wdN x (g / 2) w) else a :: wdN x g w
theorem wdN_del (x : Int32) : ∀ (w : List Nat) (g : Nat), wdN x g w ∈ del x w := by
  intro w
  induction w with
  | nil => intro g; simp [wdN, del]
  | cons a w ih =>
    intro g
    simp only [wdN, del]
    split
    · split
      · exact List.mem_append_left _ (ih _)
      · exact List.mem_append_right _ (List.mem_map.mpr ⟨_, ih _, rfl⟩)
    · exact List.mem_append_right _ (List.mem_map.mpr ⟨_, ih _, rfl⟩)
theorem del_wdN (x : Int32) : ∀ (w : List Nat) (v : List Nat), v ∈ del x w → ∃ g, g < 2 ^ w.countP (nul x) ∧ wdN x g w = v := by
  intro w
  induction w with
  | nil =>
    intro v h
    simp [del] at h
    exact ⟨0, by simp, by rw [h]; rfl⟩
  | cons a w ih =>
    intro v h
    simp only [del] at h
    cases hn : nul x a with
    | true =>
      rw [hn, if_pos rfl] at h
      rw [List.countP_cons_of_pos hn]
      rcases List.mem_append.mp h with h | h
      · obtain ⟨g, h1, h2⟩ := ih v h
        refine ⟨2 * g + 1, by rw [Nat.pow_succ]; omega, ?_⟩
        simp only [wdN]
        rw [if_pos hn, if_pos (by omega), show (2 * g + 1) / 2 = g by omega, h2]
      · obtain ⟨u, h0, rfl⟩ := List.mem_map.mp h
        obtain ⟨g, h1, h2⟩ := ih u h0
        refine ⟨2 * g, by rw [Nat.pow_succ]; omega, ?_⟩
        simp only [wdN]
        rw [if_pos hn, if_neg (by omega), show (2 * g) / 2 = g by omega, h2]
    | false =>
      rw [hn, if_neg (by decide), List.nil_append] at h
      rw [List.countP_cons_of_neg (by rw [hn]; decide)]
      obtain ⟨u, h0, rfl⟩ := List.mem_map.mp h
      obtain ⟨g, h1, h2⟩ := ih u h0
      refine ⟨g, h1, ?_⟩
      simp only [wdN]
      rw [if_neg (by rw [hn]; decide), h2]
theorem del_mem (x : Int32) : ∀ (w v : List Nat), v ∈ del x w → v.length ≤ w.length ∧ ∀ a ∈ v, a ∈ w := by
  intro w
  induction w with
  | nil => intro v h; simp [del] at h; subst h; simp
  | cons b w ih =>
    intro v h
    simp only [del] at h
    rcases List.mem_append.mp h with h | h
    · split at h
      · obtain ⟨h1, h2⟩ := ih v h
        exact ⟨by rw [List.length_cons]; omega, fun a ha => List.mem_cons_of_mem _ (h2 a ha)⟩
      · cases h
    · obtain ⟨u, h0, rfl⟩ := List.mem_map.mp h
      obtain ⟨h1, h2⟩ := ih u h0
      refine ⟨by rw [List.length_cons, List.length_cons]; omega, fun a ha => ?_⟩
      rcases List.mem_cons.mp ha with e | e
      · rw [e]; exact List.mem_cons_self ..
      · exact List.mem_cons_of_mem _ (h2 a e)
theorem fold_addall {β : Type} {f : (List PR × Bool) → β → (List PR × Bool)} {L : β → List (Option PR)} (hf : ∀ S b, f S b = addall (L b) S) : ∀ (l : List β) (S : List PR × Bool), l.foldl f S = addall (l.flatMap L) S := by
  intro l
  induction l with
  | nil => intro S; rfl
  | cons b l ih => intro S; rw [List.foldl_cons, ih, List.flatMap_cons, addall_app, hf]
/-- what comes out of one production -/
def emL (x : Int32) (q : PR) : List (Option PR) := ((del x q.2).filter (fun v => !decide (v = []))).map (fun v => some (q.1, v))
theorem emL_in {x : Int32} {q : PR} {o : Option PR} : o ∈ emL x q ↔ ∃ v, v ∈ del x q.2 ∧ v ≠ [] ∧ o = some (q.1, v) := by
  unfold emL
  rw [List.mem_map]
  constructor
  · rintro ⟨v, h1, h2⟩
    obtain ⟨h3, h4⟩ := List.mem_filter.mp h1
    exact ⟨v, h3, by simpa using h4, h2.symm⟩
  · rintro ⟨v, h1, h2, h3⟩
    exact ⟨v, List.mem_filter.mpr ⟨h1, by simpa using h2⟩, h3.symm⟩
def emF (G : List PR) : List PR × Bool := addall (G.flatMap (emL (clo false G))) ([], false)
theorem emL_ok {x : Int32} {G : List PR} (hG : Oks G) : Ook (G.flatMap (emL x)) := by
  intro o ho p hp
  obtain ⟨q, hq, h1⟩ := List.mem_flatMap.mp ho
  obtain ⟨v, h2, h3, h4⟩ := emL_in.mp h1
  rw [hp] at h4
  rw [Option.some.inj h4]
  have hok := hG q hq
  have := del_mem x q.2 v h2
  exact ⟨hok.1, Nat.le_trans this.1 hok.2.1, fun a ha => hok.2.2 a (this.2 a ha)⟩
theorem emF_ok {G : List PR} (hG : Oks G) : Gok (emF G).1 := addall_ok _ (emL_ok hG) Gok.nil
theorem em_req {x : Int32} {G : List PR} (hG : Oks G) {L : PR → List (Option PR)} (hL : ∀ q ∈ G, ∀ o, o ∈ L q ↔ o ∈ emL x q) : Req (addall (G.flatMap L) ([], false)) (addall (G.flatMap (emL x)) ([], false)) := by
  have hiff : ∀ o, o ∈ G.flatMap L ↔ o ∈ G.flatMap (emL x) := by
    intro o
    rw [List.mem_flatMap, List.mem_flatMap]
    constructor
    · rintro ⟨q, hq, h⟩; exact ⟨q, hq, (hL q hq o).mp h⟩
    · rintro ⟨q, hq, h⟩; exact ⟨q, hq, (hL q hq o).mpr h⟩
  refine add_conf (fun o ho => emL_ok hG o ((hiff o).mp ho)) (emL_ok hG) Gok.nil Gok.nil rfl rfl (fun o => ?_)
  rw [hiff o]
-- the class
def bc1 (a : Int32) : Int32 := a - ((si_iushr a (nI 1)) &&& (nI 1431655765))
def bc2 (a : Int32) : Int32 := (a &&& (nI 858993459)) + ((si_iushr a (nI 2)) &&& (nI 858993459))
def bc3 (a : Int32) : Int32 := (a + (si_iushr a (nI 4))) &&& (nI 252645135)
def bc4 (a : Int32) : Int32 := a + (si_iushr a (nI 8))
def bc5 (a : Int32) : Int32 := a + (si_iushr a (nI 16))
def bcE (a : Int32) : Int32 := bc5 (bc4 (bc3 (bc2 (bc1 a)))) &&& (nI 63)
theorem bcE_t : ∀ o : Fin 256, bcE (nI o.1) = nI (pcR 8 o.1) := by decide +kernel
theorem s_J6_bitCount {o : Nat} (h : o < 256) (σ : si_M) : si_sc gP nJ6_bitCount_0f7a4 [.int (nI o)] σ = some (some (.int (nI (pcR 8 o))), σ) := by
  have e : si_sc gP nJ6_bitCount_0f7a4 [.int (nI o)] σ = some (some (.int (bcE (nI o))), σ) := e_J6_bitCount_0f7a4 (nI o) σ
  rw [e, bcE_t ⟨o, h⟩]
def cnd (P : Int32) (n : Nat) (o : Nat) : Bool := decide (nI o &&& (P ^^^ (-1)) = nI 0) && decide (pcR 8 o < n)
def emC (P : Int32) (q : PR) (o : Nat) : List (Option PR) := if cnd P q.2.length o then [some (q.1, thN o q.2)] else []
/-- the places of the symbols that may go -/
def plc (x : Int32) (q : PR) (P : Int32) : Prop := ∀ i, i < 32 → bt P i = (decide (i < q.2.length) && nul x (q.2.getD i 0))
theorem sub_pl {x : Int32} {q : PR} {P : Int32} (hP : plc x q P) {o : Nat} (ho : o < 256) : nI o &&& (P ^^^ (-1)) = nI 0 ↔ sbs x q.2 o := by
  constructor
  · intro h i hi
    have hi8 : i < 8 := by
      rcases Nat.lt_or_ge i 8 with h8 | h8
      · exact h8
      · have := Nat.testBit_lt_two_pow (x := o) (i := i) (Nat.lt_of_lt_of_le ho (Nat.pow_le_pow_right (n := 2) (by decide) h8 : 2 ^ 8 ≤ 2 ^ i))
        rw [this] at hi; cases hi
    have h1 : bt (nI o &&& (P ^^^ (-1))) i = false := by rw [h]; exact b_0 i
    rw [b_and, b_xor, bt_nI o (by omega), hi, Bool.true_and, b_m1 i (by omega), hP i (by omega)] at h1
    by_cases hl : i < q.2.length
    · rw [decide_eq_true hl, Bool.true_and, gD hl] at h1
      refine ⟨hl, ?_⟩
      cases hn : nul x q.2[i] with
      | true => rfl
      | false => rw [hn] at h1; cases h1
    · rw [decide_eq_false hl] at h1; cases h1
  · intro h
    apply b_ext
    intro i hi
    rw [b_and, b_xor, bt_nI o hi, b_m1 i hi, hP i hi, show bt (nI 0) i = false from b_0 i]
    cases hb : o.testBit i with
    | false => rfl
    | true =>
      obtain ⟨h1, h2⟩ := h i hb
      rw [decide_eq_true h1, gD h1, h2]
      rfl
theorem emC_in {x : Int32} {q : PR} (hq : okp q) {P : Int32} (hP : plc x q P) (o : Option PR) : o ∈ (List.range 256).flatMap (emC P q) ↔ o ∈ emL x q := by
  have hw := hq.2.1
  rw [List.mem_flatMap, emL_in]
  have hlen : ∀ g, sbs x q.2 g → (pcR 8 g < q.2.length ↔ thN g q.2 ≠ []) := by
    intro g hg
    have h1 := thN_len q.2 g
    have h2 := pcR_up q.2.length (8 - q.2.length) g (sbs_lt hg)
    rw [show q.2.length + (8 - q.2.length) = 8 by omega] at h2
    rw [h2]
    constructor
    · intro h e
      rw [e] at h1
      simp at h1
      omega
    · intro h
      have : 0 < (thN g q.2).length := List.length_pos_iff.mpr h
      omega
  constructor
  · rintro ⟨g, hg, h⟩
    have hg : g < 256 := List.mem_range.mp hg
    unfold emC at h
    split at h
    · rename_i hc
      unfold cnd at hc
      simp only [Bool.and_eq_true, decide_eq_true_eq] at hc
      have hs := (sub_pl hP hg).mp hc.1
      exact ⟨_, thN_del x q.2 g hs, (hlen g hs).mp hc.2, List.mem_singleton.mp h⟩
    · cases h
  · rintro ⟨v, h1, h2, h3⟩
    obtain ⟨g, hs, rfl⟩ := del_thN x q.2 v h1
    have hg : g < 256 := by
      have := sbs_lt hs
      have h9 : 2 ^ q.2.length ≤ 2 ^ 8 := Nat.pow_le_pow_right (by decide) hw
      omega
    refine ⟨g, List.mem_range.mpr hg, ?_⟩
    unfold emC cnd
    rw [decide_eq_true ((sub_pl hP hg).mpr hs), decide_eq_true ((hlen g hs).mpr h2), Bool.true_and, if_pos rfl, h3]
    exact List.mem_singleton.mpr rfl
theorem Req.eq {S T : List PR × Bool} (h : Req S T) (hf : T.2 = false) : S = T := Prod.ext (h.2 (h.1.trans hf)) h.1
theorem s_X7_addThinned {q : PR} (hq : okp q) {x : Int32} (hx : low x) {σ : si_M} {S T : List PR × Bool} (hb : Gm σ 27 T) (hm : Gm σ 25 S) (hS : Gok S.1) : ∃ τ S' P, si_sc gP nX7_addThinned [.ref 24, .long (lN (en q)), .int x] σ = some (none, τ) ∧ plc x q P ∧ Gm τ 25 S' ∧ Gm τ 27 T ∧ Gok S'.1 ∧ Req S' (addall ((List.range 256).flatMap (emC P q)) S) ∧ Keep csc σ τ := by
  have hw := hq.2.1
  have key : ∀ (d j : Nat) (s : Int32), j + d = q.2.length → (∀ i, i < 32 → bt s i = (decide (i < j) && nul x (q.2.getD i 0))) → ∃ P, plc x q P ∧ si_sem gP nX7_addThinned 12 [.ref 24, .long (lN (en q)), si_U, .int x, .int s, .int (nI q.2.length), .int (nI j)] [] σ = si_sem gP nX7_addThinned 50 [.ref 24, .long (lN (en q)), si_U, si_U, .int P, .int (nI q.2.length), .int (nI 0)] [] σ := by
    intro d
    induction d with
    | zero =>
      intro j s hd hs
      refine ⟨s, ?_, ?_⟩
      · have e : j = q.2.length := by omega
        rw [e] at hs
        exact hs
      · rw [h_X7_addThinned_12, cT (nI_le (show q.2.length ≤ j by omega) (by omega))]
    | succ d ih =>
      intro j s hd hs
      have hi : j < q.2.length := by omega
      have hp := hq.2.2 _ (List.getElem_mem hi)
      rw [h_X7_addThinned_12, cF (nI_ge hi (by omega)), s_X5_symbolAt hq (by omega), ci_s, s_X8_isIn_sy hq x hi, ci_s, bz, nI_add, nul_low hx hp.1]
      cases hn : nul x q.2[j] with
      | false =>
        rw [cond_false]
        refine ih (j + 1) s (by omega) (fun i hi32 => ?_)
        rw [hs i hi32]
        by_cases e : i = j
        · rw [e, decide_eq_false (show ¬ j < j by omega), gD hi, hn, Bool.false_and, Bool.and_false]
        · by_cases h1 : i < j
          · rw [decide_eq_true h1, decide_eq_true (show i < j + 1 by omega)]
          · rw [decide_eq_false h1, decide_eq_false (show ¬ i < j + 1 by omega)]
      | true =>
        rw [cond_true]
        refine ih (j + 1) _ (by omega) (fun i hi32 => ?_)
        rw [b_or, hs i hi32, bt_sh (by omega) hi32]
        by_cases e : i = j
        · rw [e, decide_eq_true (show j < j + 1 by omega), decide_eq_true rfl, gD hi, hn, Bool.or_true]
          rfl
        · rw [decide_eq_false e, Bool.or_false]
          by_cases h1 : i < j
          · rw [decide_eq_true h1, decide_eq_true (show i < j + 1 by omega)]
          · rw [decide_eq_false h1, decide_eq_false (show ¬ i < j + 1 by omega)]
  obtain ⟨P, hP, e0⟩ := key q.2.length 0 (nI 0) (by omega) (fun i _ => by rw [show bt (nI 0) i = false from b_0 i, decide_eq_false (show ¬ i < 0 by omega), Bool.false_and])
  rw [e_X7_addThinned, s_X5_length hq, ci_s, e0]
  obtain ⟨τ, S', c1, c2, c3⟩ := lp_cap (F := fun i τ => si_sem gP nX7_addThinned 50 [.ref 24, .long (lN (en q)), si_U, si_U, .int P, .int (nI q.2.length), .int (nI i)] [] τ) (G := List.range 256) (f := fun S o => addall (emC P q o) S) (R := fun τ S => Gm τ 27 T ∧ Gm τ 25 S ∧ Gok S.1 ∧ Keep csc σ τ) (fun S o h => addall_fl _ h) (fun i τ S hi hR hf => by
    obtain ⟨r1, r2, r3, r4⟩ := hR
    have hi : i < 256 := by simpa using hi
    have hpc : pcR 8 i ≤ 8 := by
      have := thN_len (List.replicate 8 0) i
      simp only [List.length_replicate] at this
      omega
    rw [List.getElem_range]
    try dsimp only
    rw [h_X7_addThinned_50, cF (nI_ge hi (by decide)), s_X2_isTooLarge r2, ci_s, bn, hf, cond_false, s_J6_bitCount hi, ci_s, s_X5_thinned hq, cl_s, nI_add, thn_N i q.2 0 (by omega), Nat.pow_zero, Nat.div_one]
    unfold emC cnd
    by_cases hc : nI i &&& (P ^^^ (-1)) = nI 0
    · rw [nF hc, decide_eq_true hc, Bool.true_and]
      by_cases hc2 : pcR 8 i < q.2.length
      · have hs := (sub_pl hP hi).mp hc
        have hdm := del_mem x q.2 _ (thN_del x q.2 i hs)
        have hok : okp (q.1, thN i q.2) := ⟨hq.1, Nat.le_trans hdm.1 hw, fun a ha => hq.2.2 a (hdm.2 a ha)⟩
        obtain ⟨τ', a1, a2, a3, a4⟩ := s_X2_add25 r2 r1 r3 (o := some (q.1, thN i q.2)) (fun p hp => by cases hp; exact hok)
        rw [cF (nI_ge hc2 (by omega)), decide_eq_true hc2, if_pos rfl, show lN (en (q.1, thN i q.2)) = pv (some (q.1, thN i q.2)) from rfl, a1, cv_s]
        exact ⟨τ', rfl, a3, a2, cadd_some_ok r3 hok, r4.tr a4⟩
      · rw [cT (nI_le (show q.2.length ≤ pcR 8 i by omega) (by omega)), decide_eq_false hc2, if_neg (by decide)]
        exact ⟨τ, rfl, r1, r2, r3, r4⟩
    · rw [nT hc, decide_eq_false hc, Bool.false_and, if_neg (by decide)]
      exact ⟨τ, rfl, r1, r2, r3, r4⟩) (fun i τ S hi hR ht => by
    obtain ⟨r1, r2, r3, r4⟩ := hR
    have hi : i < 256 := by simpa using hi
    try dsimp only
    rw [h_X7_addThinned_50, cF (nI_ge hi (by decide)), s_X2_isTooLarge r2, ci_s, bn, ht, cond_true]) (fun τ S hR => by
    try dsimp only
    rw [List.length_range, h_X7_addThinned_50, cT (nI_le (Nat.le_refl _) (by decide))]) σ S ⟨hb, hm, hS, Keep.rf⟩
  obtain ⟨r1, r2, r3, r4⟩ := c2
  rw [fold_addall (L := emC P q) (fun S o => rfl)] at c3
  exact ⟨τ, S', P, c1, hP, r2, r1, r3, c3, r4⟩
