/-! accepts: where symbols may end -/
def em (k : Nat) (σ : si_M) (E : Nat → Int32) : si_M := wI σ k (fx 176 (σ.1 k) E)
theorem em_at {k : Nat} {σ : si_M} {E : Nat → Int32} {j : Nat} (h : j < 176) : (em k σ E).1 k j = E j := by unfold em; rw [wI_same, fx_at h]
theorem em_ne {k a : Nat} {σ : si_M} {E : Nat → Int32} (h : a ≠ k) : (em k σ E).1 a = σ.1 a := wI_ne σ _ h
theorem em_2 {k : Nat} {σ : si_M} {E : Nat → Int32} : (em k σ E).2 = σ.2 := rfl
theorem em_sI {k : Nat} {σ : si_M} {E : Nat → Int32} {j : Nat} (h : j < 176) (v : Int32) : si_sI (em k σ E) k j v = em k σ (upd E j v) := by unfold em; rw [wI_sI, fx_upd h]
theorem em_Keep (k : Nat) (σ : si_M) (E : Nat → Int32) : Keep [k] σ (em k σ E) := wI_Keep σ k _
def Wok (W : List Nat) : Prop := W.length ≤ 10 ∧ ∀ a ∈ W, 17 ≤ a ∧ a ≤ 24
/-- where a symbol that begins at p ends -/
def gs (W : List Nat) (E : Nat → Int32) (a p : Nat) : Int32 := if a ≤ 16 then E (11 * (a - 1) + p) else if W.getD p 0 = a then si_ishl (nI 1) (nI (p + 1)) else nI 0
def go (W : List Nat) (E : Nat → Int32) (a : Nat) (P : Int32) : Int32 := (List.range (W.length + 1)).foldl (fun t p => if bt P p then t ||| gs W E a p else t) (nI 0)
def eo (W : List Nat) (E : Nat → Int32) (w : List Nat) (P : Int32) : Int32 := w.foldl (fun P a => go W E a P) P
theorem go_0 (W : List Nat) (E : Nat → Int32) (a : Nat) : go W E a (nI 0) = nI 0 := by
  unfold go
  refine fold_inv (P := fun t => t = nI 0) _ _ (fun t p _ h => ?_) rfl
  rw [show bt (nI 0) p = false from b_0 p, if_neg (by decide)]
  exact h
theorem eo_0 (W : List Nat) (E : Nat → Int32) (w : List Nat) : eo W E w (nI 0) = nI 0 := by
  unfold eo
  refine fold_inv (P := fun t => t = nI 0) _ _ (fun t a _ h => ?_) rfl
  rw [h, go_0]
def aw (W : List Nat) (q : PR) (E : Nat → Int32) (st : Nat) : Int32 := eo W E q.2 (si_ishl (nI 1) (nI st))
def a1 (W : List Nat) (q : PR) (E : Nat → Int32) (st : Nat) : Nat → Int32 := upd E (11 * q.1 + st) (E (11 * q.1 + st) ||| aw W q E st)
def ap (W : List Nat) (q : PR) (E : Nat → Int32) (st : Nat) : Bool := !decide (E (11 * q.1 + st) ||| aw W q E st = E (11 * q.1 + st))
def adp (W : List Nat) (s : (Nat → Int32) × Bool) (q : PR) : (Nat → Int32) × Bool := (List.range (W.length + 1)).foldl (fun (s : (Nat → Int32) × Bool) st => (a1 W q s.1 st, s.2 || ap W q s.1 st)) s
def ad (W : List Nat) (E : Nat → Int32) (q : PR) : Nat → Int32 := (List.range (W.length + 1)).foldl (a1 W q) E
def adf (W : List Nat) (E : Nat → Int32) (q : PR) : Bool := (adp W (E, false) q).2
def rd (W : List Nat) (G : List PR) (E : Nat → Int32) : Nat → Int32 := G.foldl (ad W) E
theorem ap_f {W : List Nat} {q : PR} {E : Nat → Int32} {st : Nat} (h : ap W q E st = false) : a1 W q E st = E := by
  unfold ap at h
  have e : E (11 * q.1 + st) ||| aw W q E st = E (11 * q.1 + st) := of_decide_eq_true (by simpa using h)
  unfold a1
  rw [e, upd_self]
theorem fold_pc {α β : Type} (f : α → β → α) (p : α → β → Bool) : ∀ (l : List β) (a : α) (c : Bool), l.foldl (fun (s : α × Bool) b => (f s.1 b, s.2 || p s.1 b)) (a, c) = (l.foldl f a, c || (l.foldl (fun (s : α × Bool) b => (f s.1 b, s.2 || p s.1 b)) (a, false)).2) := by
  intro l
  induction l with
  | nil => intro a c; simp
  | cons b l ih =>
    intro a c
    rw [List.foldl_cons, List.foldl_cons, List.foldl_cons]
    try dsimp only
    rw [ih (f a b) (c || p a b), ih (f a b) (false || p a b), Bool.false_or, Bool.or_assoc]
theorem adp_eq (W : List Nat) (s : (Nat → Int32) × Bool) (q : PR) : adp W s q = (ad W s.1 q, s.2 || adf W s.1 q) := fold_pc (a1 W q) (ap W q) _ s.1 s.2
theorem adf_f {W : List Nat} {E : Nat → Int32} {q : PR} (h : adf W E q = false) : ad W E q = E := ((fold_pair (a1 W q) (ap W q) (fun a b h => ap_f h) (List.range (W.length + 1)) E false).2 h).2
/-- pointwise more -/
def Es (E F : Nat → Int32) : Prop := ∀ c, sub (E c) (F c)
theorem Es_rf (E : Nat → Int32) : Es E E := fun _ => sub_rf _
theorem Es_tr {E F H : Nat → Int32} (h1 : Es E F) (h2 : Es F H) : Es E H := fun c => sub_tr (h1 c) (h2 c)
theorem Es_an {E F : Nat → Int32} (h1 : Es E F) (h2 : Es F E) : E = F := funext fun c => sub_an (h1 c) (h2 c)
theorem Es_upd (E : Nat → Int32) (k : Nat) (v : Int32) : Es E (upd E k (E k ||| v)) := by
  intro c
  unfold upd
  by_cases h : c = k
  · simp only [h, if_true]; exact sub_or
  · simp only [h, if_false]; exact sub_rf _
theorem a1_Es (W : List Nat) (q : PR) (E : Nat → Int32) (st : Nat) : Es E (a1 W q E st) := Es_upd E _ _
theorem ad_Es (W : List Nat) (E : Nat → Int32) (q : PR) : Es E (ad W E q) := fold_inv (P := Es E) _ _ (fun a st _ h => Es_tr h (a1_Es W q a st)) (Es_rf E)
theorem rd_Es (W : List Nat) (G : List PR) (E : Nat → Int32) : Es E (rd W G E) := fold_inv (P := Es E) _ _ (fun a q _ h => Es_tr h (ad_Es W a q)) (Es_rf E)
/-- nothing has grown where nothing has changed -/
theorem fold_pn {α β : Type} {f : α → β → α} {p : α → β → Bool} (hp : ∀ a b, p a b = true → f a b ≠ a) : ∀ (l : List β) (a : α), (∀ b ∈ l, f a b = a) → (l.foldl (fun (s : α × Bool) b => (f s.1 b, s.2 || p s.1 b)) (a, false)).2 = false := by
  intro l
  induction l with
  | nil => intro a _; rfl
  | cons b l ih =>
    intro a h
    have hb := h b (List.mem_cons_self ..)
    have hpf : p a b = false := by
      cases hx : p a b with
      | false => rfl
      | true => exact absurd hb (hp a b hx)
    rw [List.foldl_cons]
    try dsimp only
    rw [hpf, hb]
    exact ih a (fun c hc => h c (List.mem_cons_of_mem _ hc))
theorem ap_t {W : List Nat} {q : PR} {E : Nat → Int32} {st : Nat} (h : ap W q E st = true) : a1 W q E st ≠ E := by
  intro e
  have h2 : a1 W q E st (11 * q.1 + st) = E (11 * q.1 + st) := by rw [e]
  unfold a1 at h2
  rw [upd_at] at h2
  unfold ap at h
  rw [decide_eq_true h2] at h
  cases h
theorem adf_t {W : List Nat} {E : Nat → Int32} {q : PR} (h : adf W E q = true) : ad W E q ≠ E := by
  intro e
  have h2 := fold_fix Es (fun _ _ _ => Es_tr) Es_rf (fun _ _ => Es_an) (a1_Es W q) (List.range (W.length + 1)) E e
  have h3 := fold_pn (f := a1 W q) (p := ap W q) (fun a b h => ap_t h) (List.range (W.length + 1)) E h2
  have h4 : adf W E q = false := h3
  rw [h4] at h
  cases h
def rdf2 (W : List Nat) (G : List PR) (E : Nat → Int32) : Bool := (G.foldl (fun (s : (Nat → Int32) × Bool) q => (ad W s.1 q, s.2 || adf W s.1 q)) (E, false)).2
theorem rd_pair (W : List Nat) (G : List PR) (E : Nat → Int32) (c : Bool) : G.foldl (adp W) (E, c) = (rd W G E, c || rdf2 W G E) := by
  have e : (adp W) = (fun (s : (Nat → Int32) × Bool) q => (ad W s.1 q, s.2 || adf W s.1 q)) := funext fun s => funext fun q => adp_eq W s q
  rw [e]
  exact fold_pc (ad W) (adf W) G E c
theorem rdf_f {W : List Nat} {G : List PR} {E : Nat → Int32} (h : rdf2 W G E = false) : rd W G E = E := ((fold_pair (ad W) (adf W) (fun a b h => adf_f h) G E false).2 h).2
theorem rdf_t {W : List Nat} {G : List PR} {E : Nat → Int32} (h : rdf2 W G E = true) : rd W G E ≠ E := by
  intro e
  have h2 := fold_fix Es (fun _ _ _ => Es_tr) Es_rf (fun _ _ => Es_an) (ad_Es W) G E e
  have h3 : rdf2 W G E = false := fold_pn (f := ad W) (p := adf W) (fun a b h => adf_t h) G E h2
  rw [h3] at h
  cases h
-- only eleven places
def l11 (x : Int32) : Prop := ∀ i, 11 ≤ i → bt x i = false
theorem l11_0 : l11 (nI 0) := fun i _ => b_0 i
theorem l11_or {x y : Int32} (hx : l11 x) (hy : l11 y) : l11 (x ||| y) := fun i hi => by rw [b_or, hx i hi, hy i hi]; rfl
theorem l11_sh {n : Nat} (hn : n < 11) : l11 (si_ishl (nI 1) (nI n)) := fun i hi => by
  by_cases h : i < 32
  · rw [bt_sh (by omega) h, decide_eq_false (by omega)]
  · exact b_big (by omega)
def L11 (E : Nat → Int32) : Prop := ∀ c, l11 (E c)
theorem gs_l {W : List Nat} (hW : Wok W) {E : Nat → Int32} (hE : L11 E) (a p : Nat) : l11 (gs W E a p) := by
  unfold gs
  split
  · exact hE _
  · rename_i h16
    split
    · rename_i h
      have hp : p < W.length := by
        rcases Nat.lt_or_ge p W.length with h2 | h2
        · exact h2
        · rw [getD_out h2] at h; omega
      exact l11_sh (by have := hW.1; omega)
    · exact l11_0
theorem go_l {W : List Nat} (hW : Wok W) {E : Nat → Int32} (hE : L11 E) (a : Nat) (P : Int32) : l11 (go W E a P) := fold_inv (P := l11) _ _ (fun t p _ h => by
  split
  · exact l11_or h (gs_l hW hE a p)
  · exact h) l11_0
theorem eo_l {W : List Nat} (hW : Wok W) {E : Nat → Int32} (hE : L11 E) (w : List Nat) {P : Int32} (hP : l11 P) : l11 (eo W E w P) := fold_inv (P := l11) _ _ (fun t a _ _ => go_l hW hE a t) hP
theorem L11_upd {E : Nat → Int32} (hE : L11 E) (k : Nat) {v : Int32} (hv : l11 v) : L11 (upd E k v) := by
  intro c
  unfold upd
  by_cases h : c = k
  · simp only [h, if_true]; exact hv
  · simp only [h, if_false]; exact hE c
theorem ad_l {W : List Nat} (hW : Wok W) {E : Nat → Int32} (hE : L11 E) (q : PR) : L11 (ad W E q) := fold_inv (P := L11) _ _ (fun a st hst h => L11_upd h _ (l11_or (h _) (eo_l hW h _ (l11_sh (by have := List.mem_range.mp hst; have := hW.1; omega))))) hE
theorem rd_l {W : List Nat} (hW : Wok W) (G : List PR) {E : Nat → Int32} (hE : L11 E) : L11 (rd W G E) := fold_inv (P := L11) _ _ (fun a q _ h => ad_l hW h q) hE
/-- only the 176 cells -/
def C176 (E F : Nat → Int32) : Prop := ∀ c, 176 ≤ c → F c = E c
theorem rd_c {W : List Nat} (hW : Wok W) {G : List PR} (hG : Oks G) (E : Nat → Int32) : C176 E (rd W G E) := fold_inv (P := C176 E) _ _ (fun a q hq h => fold_inv (P := C176 E) _ _ (fun b st hst h c hc => by
  have h1 := List.mem_range.mp hst
  have h2 := hW.1
  have h3 := (hG q hq).1
  unfold a1 upd
  rw [if_neg (by omega)]
  exact h c hc) h) (fun c _ => rfl)
def zE (E : Nat → Int32) : Nat := (List.range 1936).countP (fun k => !bt (E (k / 11)) (k % 11))
theorem zE_le (E : Nat → Int32) : zE E ≤ 1936 := by
  unfold zE
  refine Nat.le_trans (List.countP_le_length ..) ?_
  rw [List.length_range]
  exact Nat.le_refl _
theorem rd_z {W : List Nat} (hW : Wok W) {G : List PR} (hG : Oks G) {E : Nat → Int32} (hE : L11 E) : rd W G E = E ∨ zE (rd W G E) < zE E := by
  by_cases h : rd W G E = E
  · exact Or.inl h
  · right
    have hs := rd_Es W G E
    have hl := rd_l hW G hE
    have hc := rd_c hW hG E
    have : ∃ c, c < 176 ∧ ∃ i, i < 11 ∧ bt (E c) i = false ∧ bt (rd W G E c) i = true := by
      apply Classical.byContradiction
      intro hn
      apply h
      funext c
      apply b_ext
      intro i hi
      cases hb : bt (rd W G E c) i with
      | false =>
        cases hb2 : bt (E c) i with
        | false => rfl
        | true => rw [hs c i hi hb2] at hb; cases hb
      | true =>
        cases hb2 : bt (E c) i with
        | true => rfl
        | false =>
          exfalso
          rcases Nat.lt_or_ge c 176 with h1 | h1
          · rcases Nat.lt_or_ge i 11 with h2 | h2
            · exact hn ⟨c, h1, i, h2, hb2, hb⟩
            · rw [hl c i h2] at hb; cases hb
          · rw [hc c h1, hb2] at hb; cases hb
    obtain ⟨c, h1, i, h2, h3, h4⟩ := this
    unfold zE
    refine cnt_lt _ (fun k _ hk => ?_) ⟨11 * c + i, List.mem_range.mpr (by omega), ?_, ?_⟩
    · have hk2 : k % 11 < 32 := by omega
      cases hb : bt (E (k / 11)) (k % 11) with
      | false => rfl
      | true => rw [hs _ _ hk2 hb] at hk; cases hk
    · rw [show (11 * c + i) / 11 = c by omega, show (11 * c + i) % 11 = i by omega, h3]; rfl
    · rw [show (11 * c + i) / 11 = c by omega, show (11 * c + i) % 11 = i by omega, h4]; rfl
def dvE (W : List Nat) (G : List PR) : Nat → Int32 := itr (rd W G) 1937 Lz
def dvB (W : List Nat) (G : List PR) : Bool := bt (dvE W G 0) W.length
theorem L11_z : L11 Lz := fun _ => l11_0
theorem dv_fix {W : List Nat} (hW : Wok W) {G : List PR} (hG : Oks G) : rd W G (dvE W G) = dvE W G := itr_stab L11 (fun a ha => rd_l hW G ha) zE (fun a ha => rd_z hW hG ha) 1937 _ L11_z (Nat.le_trans (zE_le _) (by decide))
-- the class
def WC (τ : si_M) (W : List Nat) : Prop := τ.1 12 1 = nI W.length ∧ ∀ j (hj : j < W.length), τ.1 13 j = nI (W[j] - 1)
theorem s_X4_endsFrom {σ : si_M} {W : List Nat} (hW : Wok W) (hc : WC σ W) {E : Nat → Int32} {a : Nat} (ha : 1 ≤ a ∧ a ≤ 24) (P : Int32) : si_sc gP nX4_endsFrom [.ref 12, .int P, .int (nI (a - 1))] (em 14 σ E) = some (some (.int (go W E a P)), em 14 σ E) := by
  have hn := hW.1
  have h12 : (em 14 σ E).1 12 1 = nI W.length := by rw [em_ne (by decide)]; exact hc.1
  rw [e_X4_endsFrom]
  refine (lp_fold' (F := fun p t => si_sem gP nX4_endsFrom 5 [.ref 12, .int P, .int (nI (a - 1)), .int t, .int (nI p)] [] (em 14 σ E)) (G := List.range (W.length + 1)) (f := fun t p => if bt P p then t ||| gs W E a p else t) (fun p t hp => ?_) (nI 0)).trans ?_
  · have hp : p < W.length + 1 := by simpa using hp
    rw [List.getElem_range]
    try dsimp only
    rw [h_X4_endsFrom_5, h12, cF (nI_nlt (show p ≤ W.length by omega) (by omega)), ush1 P (show p < 32 by omega), bn, nI_add]
    cases hb : bt P p with
    | false => rw [cond_false]; rfl
    | true =>
      rw [cond_true, if_pos rfl, s_X8_isNonterminal (show a - 1 < 2 ^ 31 by omega), ci_s, bz]
      unfold gs
      by_cases h16 : a ≤ 16
      · rw [decide_eq_true (show a - 1 < 16 by omega), cond_true, if_pos h16, nI_mul, nI_add, inT (show (a - 1) * 11 + p < 176 by omega) (by decide), nI_clamp (by omega), em_at (by omega), Nat.mul_comm (a - 1) 11]
      · rw [decide_eq_false (show ¬ a - 1 < 16 by omega), cond_false, if_neg h16, e_X4_stands, cF (nI_nlt (Nat.zero_le p) (by omega)), h12]
        by_cases hpl : p < W.length
        · have hwp := hW.2 _ (List.getElem_mem hpl)
          rw [cF (nI_ge hpl (by omega)), inT (show p < 10 by omega) (by decide), nI_clamp (by omega), em_ne (by decide), hc.2 p hpl, gD hpl]
          by_cases e : W[p] = a
          · rw [nF (by rw [e]), if_pos e]; rfl
          · rw [nT (nI_eqF (by omega) (by omega) (by omega)), if_neg e, or0']; rfl
        · rw [cT (nI_le (show W.length ≤ p by omega) (by omega)), getD_out (by omega), if_neg (by omega), or0']; rfl
  · try dsimp only
    rw [List.length_range, h_X4_endsFrom_5, h12, cT (nI_lt (Nat.lt_succ_self _) (by omega))]
    rfl
theorem s_X4_endsOf {σ : si_M} {W : List Nat} (hW : Wok W) (hc : WC σ W) {E : Nat → Int32} {q : PR} (hq : okp q) (st : Int32) : si_sc gP nX4_endsOf [.ref 12, .long (lN (en q)), .int st] (em 14 σ E) = some (some (.int (eo W E q.2 (si_ishl (nI 1) st))), em 14 σ E) := by
  have hl := hq.2.1
  rw [e_X4_endsOf, s_X5_length hq, ci_s]
  have key : ∀ (d i : Nat) (P : Int32), i + d = q.2.length → si_sem gP nX4_endsOf 14 [.ref 12, .long (lN (en q)), si_U, si_U, .int P, .int (nI q.2.length), .int (nI i)] [] (em 14 σ E) = some (some (.int (eo W E (q.2.drop i) P)), em 14 σ E) := by
    intro d
    induction d with
    | zero =>
      intro i P hd
      rw [h_X4_endsOf_14, List.drop_eq_nil_of_le (by omega), cT (nI_le (show q.2.length ≤ i by omega) (by omega))]
      cases decide (P = nI 0) <;> rfl
    | succ d ih =>
      intro i P hd
      have hi : i < q.2.length := by omega
      have hp := hq.2.2 _ (List.getElem_mem hi)
      rw [h_X4_endsOf_14]
      by_cases h0 : P = nI 0
      · rw [cT h0, h0, eo_0]
      · rw [cF h0, cF (nI_ge hi (by omega)), s_X5_symbolAt hq (by omega), ci_s, sy_in hq hi, gD hi, s_X4_endsFrom hW hc hp, ci_s, nI_add, ih (i + 1) _ (by omega), List.drop_eq_getElem_cons hi]
        rfl
  rw [key q.2.length 0 _ (by omega), List.drop_zero]
theorem s_X4_addEnds {σ : si_M} {W : List Nat} (hW : Wok W) (hc : WC σ W) (E : Nat → Int32) {q : PR} (hq : okp q) : si_sc gP nX4_addEnds [.ref 12, .long (lN (en q))] (em 14 σ E) = some (some (.int (bI (adf W E q))), em 14 σ (ad W E q)) := by
  have hn := hW.1
  have hq1 := hq.1
  have h12 : ∀ E, (em 14 σ E).1 12 1 = nI W.length := fun E => by rw [em_ne (by decide)]; exact hc.1
  rw [e_X4_addEnds, s_X5_left hq, ci_s, nI_mul]
  have key := lp_fold' (F := fun i (s : (Nat → Int32) × Bool) => si_sem gP nX4_addEnds 14 [.ref 12, .long (lN (en q)), si_U, .int (bI s.2), .int (nI (q.1 * 11)), .int (nI i), si_U] [] (em 14 σ s.1)) (G := List.range (W.length + 1)) (f := fun (s : (Nat → Int32) × Bool) st => (a1 W q s.1 st, s.2 || ap W q s.1 st)) (fun i s hi => by
    have hi : i < W.length + 1 := by simpa using hi
    rw [List.getElem_range]
    try dsimp only
    rw [h_X4_addEnds_14, h12, cF (nI_nlt (show i ≤ W.length by omega) (by omega)), nI_add, nI_add, inT (show q.1 * 11 + i < 176 by omega) (by decide), s_X4_endsOf hW hc hq, ci_s, inT (show q.1 * 11 + i < 176 by omega) (by decide), inT (show q.1 * 11 + i < 176 by omega) (by decide), nI_clamp (by omega), em_at (by omega), em_sI (by omega), em_at (by omega), upd_at, Nat.mul_comm q.1 11]
    unfold ap a1 aw
    by_cases e : s.1 (11 * q.1 + i) ||| eo W s.1 q.2 (si_ishl (nI 1) (nI i)) = s.1 (11 * q.1 + i)
    · rw [cT e, decide_eq_true e, or0', Bool.not_true, Bool.or_false]
    · rw [cF e, decide_eq_false e, show nI 1 = bI true from rfl, bI_or, Bool.not_false]) (E, false)
  refine Eq.trans key ?_
  try dsimp only
  rw [List.length_range, h_X4_addEnds_14, h12, cT (nI_lt (Nat.lt_succ_self _) (by omega)), bI_and]
  have := adp_eq W (E, false) q
  unfold adp at this
  rw [this]
  rfl
theorem s_X4_derives {σ : si_M} {S : List PR × Bool} (hm : Gm σ 3 S) (hG : Gok S.1) {W : List Nat} (hW : Wok W) (hc : WC σ W) : ∃ τ, si_sc gP nX4_derives [.ref 12, .ref 3] σ = some (some (.int (bI (dvB W S.1))), τ) ∧ Keep [14] σ τ := by
  have hl := hG.1
  have hn := hW.1
  have hmL : ∀ E, Gm (em 14 σ E) 3 S := fun E => hm.keep (em_Keep 14 σ E) (by decide) (by decide)
  have h12 : ∀ E, (em 14 σ E).1 12 1 = nI W.length := fun E => by rw [em_ne (by decide)]; exact hc.1
  have inner : ∀ (r : Int32) (E : Nat → Int32), si_sem gP nX4_derives 28 [.ref 12, .ref 3, .int (nI 0), .int r, .int (nI 0)] [] (em 14 σ E) = si_sem gP nX4_derives 28 [.ref 12, .ref 3, .int (bI (rdf2 W S.1 E)), .int r, .int (nI S.1.length)] [] (em 14 σ (rd W S.1 E)) := by
    intro r E
    have := lp_fold' (F := fun i (s : (Nat → Int32) × Bool) => si_sem gP nX4_derives 28 [.ref 12, .ref 3, .int (bI s.2), .int r, .int (nI i)] [] (em 14 σ s.1)) (G := S.1) (f := adp W) (fun i s hi => by
      have hok := hG.2.1.at hi
      try dsimp only
      rw [h_X4_derives_28, e_X2_count 3 (by decide), ci_s, (hmL _).1, cF (nI_ge hi (by omega)), s_X2_at (by decide) (hmL _) hl hi, cl_s, s_X4_addEnds hW hc s.1 hok, ci_s, bI_or, nI_add, adp_eq]) (E, false)
    rw [rd_pair, Bool.false_or] at this
    exact this
  have fin : ∀ (E : Nat → Int32), cond (si_in (nI 0) 176) (cond (decide (((si_iushr ((em 14 σ E).1 14 (nI 0).toNatClampNeg) ((em 14 σ E).1 12 1)) &&& (nI 1)) = (nI 0))) (some (some (Value.int (nI 0)), em 14 σ E)) (some (some (.int (nI 1)), em 14 σ E))) none = some (some (.int (bI (bt (E 0) W.length))), em 14 σ E) := by
    intro E
    rw [inT (by decide) (by decide), clamp0, em_at (by decide), h12, ush1 _ (by omega), bz]
    cases bt (E 0) W.length <;> rfl
  have key : ∀ (n r : Nat) (E : Nat → Int32) (b : Bool), r + n = 1937 → (b = false → rd W S.1 E = E) → si_sem gP nX4_derives 12 [.ref 12, .ref 3, .int (bI b), .int (nI r), si_U] [] (em 14 σ E) = some (some (.int (bI (bt (itr (rd W S.1) n E 0) W.length))), em 14 σ (itr (rd W S.1) n E)) := by
    intro n
    induction n with
    | zero =>
      intro r E b hr _
      rw [h_X4_derives_12, cT (nI_le (show 1937 ≤ r by omega) (by omega)), fin]
      cases decide (bI b = nI 0) <;> rfl
    | succ n ih =>
      intro r E b hr hb
      cases b with
      | false => rw [h_X4_derives_12, cT (show bI false = nI 0 from rfl), fin, itr_fix (hb rfl)]
      | true =>
        rw [h_X4_derives_12, cF (show ¬ bI true = nI 0 by decide), cF (nI_ge (show r < 1937 by omega) (by omega)), inner (nI r) E, h_X4_derives_28, e_X2_count 3 (by decide), ci_s, (hmL _).1, cT (nI_le (Nat.le_refl _) (by omega)), nI_add]
        refine ih (r + 1) _ _ (by omega) (fun hf => ?_)
        rw [rdf_f hf, rdf_f hf]
  rw [e_X4_derives, show si_sc gP nJ7_fill_53178 [.ref 14, .int (nI 0)] σ = some (none, em 14 σ Lz) from s_fillI (by decide) (nI 0) σ, cv_s, show nI 1 = bI true from rfl, key 1937 0 Lz true (by omega) (fun h => by cases h)]
  exact ⟨_, rfl, em_Keep 14 σ _⟩
