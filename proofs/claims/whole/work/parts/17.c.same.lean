/-! short words: both ways derive the same -/
theorem mm_or {A B : LT} (v : List Nat) : mm (orL A B) v = true ↔ mm A v = true ∨ mm B v = true := by
  match v with
  | [] =>
    show (!decide (A.1 ||| B.1 = lN 0)) = true ↔ (!decide (A.1 = lN 0)) = true ∨ (!decide (B.1 = lN 0)) = true
    have := l_or0 A.1 B.1
    by_cases h1 : A.1 = lN 0 <;> by_cases h2 : B.1 = lN 0 <;> simp_all
  | [a] => show lb (A.2.1 ||| B.2.1) _ = true ↔ _; rw [lb_or, Bool.or_eq_true]; rfl
  | [a, b] => show lb (A.2.2 ||| B.2.2) _ = true ↔ _; rw [lb_or, Bool.or_eq_true]; rfl
  | a :: b :: c :: v => simp [mm]
def sg (W : List Nat) (i j : Nat) : List Nat := (W.drop i).take (j - i)
theorem sg_nil (W : List Nat) (i : Nat) : sg W i i = [] := by unfold sg; rw [Nat.sub_self, List.take_zero]
theorem sg_len {W : List Nat} {i j : Nat} (h1 : i ≤ j) (h2 : j ≤ W.length) : (sg W i j).length = j - i := by unfold sg; rw [List.length_take, List.length_drop]; omega
theorem sg_app {W : List Nat} {i m j : Nat} (h1 : i ≤ m) (h2 : m ≤ j) : sg W i m ++ sg W m j = sg W i j := by
  unfold sg
  have e : W.drop m = (W.drop i).drop (m - i) := by rw [List.drop_drop]; congr 1; omega
  rw [e, show j - i = (m - i) + (j - m) by omega, List.take_add]
theorem sg_one {W : List Nat} {p : Nat} (hp : p < W.length) : sg W p (p + 1) = [W[p]] := by
  unfold sg
  rw [List.drop_eq_getElem_cons hp, show p + 1 - p = 1 by omega]
  rfl
theorem sg_wT {W : List Nat} (hW : wT W) (i j : Nat) : wT (sg W i j) := fun a ha => hW a (List.mem_of_mem_drop (List.mem_of_mem_take ha))
theorem go_bt {W : List Nat} {E : Nat → Int32} {a : Nat} {P : Int32} {m : Nat} : bt (go W E a P) m = true ↔ ∃ p, p ≤ W.length ∧ bt P p = true ∧ bt (gs W E a p) m = true := by
  have key : ∀ (l : List Nat) (s : Int32), bt (l.foldl (fun t p => if bt P p then t ||| gs W E a p else t) s) m = true ↔ bt s m = true ∨ ∃ p, p ∈ l ∧ bt P p = true ∧ bt (gs W E a p) m = true := by
    intro l
    induction l with
    | nil => intro s; simp
    | cons p l ih =>
      intro s
      rw [List.foldl_cons, ih]
      cases hb : bt P p with
      | false =>
        rw [if_neg (by decide)]
        constructor
        · rintro (h | ⟨q, h1, h2⟩)
          · exact Or.inl h
          · exact Or.inr ⟨q, List.mem_cons_of_mem _ h1, h2⟩
        · rintro (h | ⟨q, h1, h2, h3⟩)
          · exact Or.inl h
          · rcases List.mem_cons.mp h1 with e | e
            · rw [e, hb] at h2; cases h2
            · exact Or.inr ⟨q, e, h2, h3⟩
      | true =>
        rw [if_pos rfl, b_or, Bool.or_eq_true]
        constructor
        · rintro ((h | h) | ⟨q, h1, h2⟩)
          · exact Or.inl h
          · exact Or.inr ⟨p, List.mem_cons_self .., hb, h⟩
          · exact Or.inr ⟨q, List.mem_cons_of_mem _ h1, h2⟩
        · rintro (h | ⟨q, h1, h2, h3⟩)
          · exact Or.inl (Or.inl h)
          · rcases List.mem_cons.mp h1 with e | e
            · rw [e] at h3; exact Or.inl (Or.inr h3)
            · exact Or.inr ⟨q, e, h2, h3⟩
  unfold go
  rw [key]
  constructor
  · rintro (h | ⟨p, h1, h2⟩)
    · rw [show bt (nI 0) m = false from b_0 m] at h; cases h
    · exact ⟨p, by have := List.mem_range.mp h1; omega, h2⟩
  · rintro ⟨p, h1, h2⟩; exact Or.inr ⟨p, List.mem_range.mpr (by omega), h2⟩
section SAME
variable {W : List Nat} {G : List PR}
def InE (W : List Nat) (L : Nat → LT) (E : Nat → Int32) : Prop := ∀ x i j, x < 16 → i ≤ W.length → bt (E (11 * x + i)) j = true → i ≤ j ∧ j ≤ W.length ∧ mm (L x) (sg W i j) = true
theorem mm_tm {L : Nat → LT} {a : Nat} (h : 17 ≤ a ∧ a ≤ 24) (v : List Nat) (hv : wT v) : mm (sL L a) v = true ↔ v = [a] := by
  unfold sL
  rw [if_neg (by omega)]
  match v with
  | [] => simp [mm]
  | [b] =>
    have hb := hv b (by simp)
    show lb (si_lshl (lN 1) (nI (a - 17))) (b - 17) = true ↔ _
    rw [lb_shl _ (by omega) (by omega), Bool.and_eq_true, decide_eq_true_eq, lb_1 (by omega), decide_eq_true_eq]
    constructor
    · rintro ⟨h1, h2⟩; rw [show b = a by omega]
    · intro h; have : b = a := by simpa using h
      omega
  | [b, c] => simp [mm, lb_0]
  | b :: c :: d :: v => simp [mm]
theorem eo_in (hW : Wok W) (h2 : W.length ≤ 2) {L : Nat → LT} {E : Nat → Int32} (hE : InE W L E) : ∀ (w : List Nat) (P : Int32) (e : Nat), (∀ a ∈ w, 1 ≤ a ∧ a ≤ 24) → (∀ s, bt P s = true → s ≤ W.length) → bt (eo W E w P) e = true → ∃ s, bt P s = true ∧ s ≤ e ∧ e ≤ W.length ∧ dW L w (sg W s e) := by
  intro w
  induction w with
  | nil =>
    intro P e _ hP h
    exact ⟨e, h, Nat.le_refl _, hP e h, sg_nil W e⟩
  | cons a w ih =>
    intro P e ha hP h
    have haa := ha a (List.mem_cons_self ..)
    have one : ∀ m, bt (go W E a P) m = true → ∃ p, bt P p = true ∧ p ≤ m ∧ m ≤ W.length ∧ mm (sL L a) (sg W p m) = true := by
      intro m hm
      obtain ⟨p, h1, h3, h4⟩ := go_bt.mp hm
      unfold gs at h4
      split at h4
      · rename_i h16
        obtain ⟨g1, g2, g3⟩ := hE (a - 1) p m (by omega) h1 h4
        refine ⟨p, h3, g1, g2, ?_⟩
        unfold sL
        rw [if_pos h16]
        exact g3
      · rename_i h16
        split at h4
        · rename_i hp
          have hpl : p < W.length := by
            rcases Nat.lt_or_ge p W.length with h | h
            · exact h
            · rw [getD_out h] at hp; omega
          have hm32 : m < 32 := by
            rcases Nat.lt_or_ge m 32 with h | h
            · exact h
            · rw [b_big h] at h4; cases h4
          rw [bt_sh (by omega) hm32] at h4
          have e1 := of_decide_eq_true h4
          rw [gD hpl] at hp
          refine ⟨p, h3, by omega, by omega, ?_⟩
          rw [e1, sg_one hpl, hp]
          exact (mm_tm ⟨by omega, haa.2⟩ [a] (fun b hb => by rw [List.mem_singleton.mp hb]; omega)).mpr rfl
        · rw [show bt (nI 0) m = false from b_0 m] at h4; cases h4
    obtain ⟨m, g1, g2, g3, g4⟩ := ih (go W E a P) e (fun b hb => ha b (List.mem_cons_of_mem _ hb)) (fun s hs => by
      obtain ⟨p, _, _, h, _⟩ := one s hs
      exact h) h
    obtain ⟨p, k1, k2, k3, k4⟩ := one m g1
    exact ⟨p, k1, by omega, g3, sg W p m, sg W m e, (sg_app k2 g2).symm, k4, g4⟩
theorem eo_out (hW : Wok W) {L : Nat → LT} {E : Nat → Int32} (hL : ∀ x i j, x < 16 → i ≤ j → j ≤ W.length → mm (L x) (sg W i j) = true → bt (E (11 * x + i)) j = true) : ∀ (w : List Nat) (P : Int32) (i j : Nat), (∀ a ∈ w, 1 ≤ a ∧ a ≤ 24) → bt P i = true → i ≤ j → j ≤ W.length → dW L w (sg W i j) → bt (eo W E w P) j = true := by
  intro w
  have hn := hW.1
  induction w with
  | nil =>
    intro P i j _ hP h1 h2 h
    have h : sg W i j = [] := h
    have := congrArg List.length h
    rw [sg_len h1 h2] at this
    have : i = j := by simp at this; omega
    rw [← this]
    exact hP
  | cons a w ih =>
    intro P i j ha hP h1 h2 h
    have haa := ha a (List.mem_cons_self ..)
    obtain ⟨u1, u2, e0, e1, e2⟩ := h
    have hlen := congrArg List.length e0
    rw [sg_len h1 h2, List.length_append] at hlen
    have hm : i + u1.length ≤ j := by omega
    have es : sg W i (i + u1.length) ++ sg W (i + u1.length) j = u1 ++ u2 := by rw [sg_app (by omega) hm]; exact e0
    obtain ⟨f1, f2⟩ := List.append_inj es (by rw [sg_len (by omega) (by omega)]; omega)
    have hb : bt (gs W E a i) (i + u1.length) = true := by
      unfold gs
      by_cases h16 : a ≤ 16
      · rw [if_pos h16]
        refine hL (a - 1) i (i + u1.length) (by omega) (by omega) (by omega) ?_
        rw [f1]
        unfold sL at e1
        rw [if_pos h16] at e1
        exact e1
      · have hu : u1 = [a] := by
          refine (mm_tm ⟨by omega, haa.2⟩ u1 (fun b hb => ?_)).mp e1
          rw [← f1] at hb
          exact sg_wT hW.2 _ _ b hb
        have hil : i < W.length := by rw [hu] at hlen; simp at hlen; omega
        have hwi : W[i] = a := by
          rw [hu, show i + [a].length = i + 1 from rfl, sg_one hil] at f1
          simpa using f1
        rw [if_neg h16, gD hil, if_pos hwi, hu, show i + [a].length = i + 1 from rfl, bt_sh (by omega) (by omega), decide_eq_true rfl]
    exact ih (go W E a P) (i + u1.length) j (fun b hb => ha b (List.mem_cons_of_mem _ hb)) (go_bt.mpr ⟨i, by omega, hP, hb⟩) hm h2 (by rw [f2]; exact e2)
theorem dv_mm (hW : Wok W) (h2 : W.length ≤ 2) (hG : Oks G) : dvB W G = mm (shW G 0) W := by
  have hsg : sg W 0 W.length = W := by unfold sg; rw [List.drop_zero, Nat.sub_zero, List.take_length]
  have hLok := sh_ok hG
  have hlen : ∀ i j, i ≤ j → j ≤ W.length → (sg W i j).length ≤ 2 := fun i j h1 h3 => by rw [sg_len h1 h3]; omega
  have hcl : ∀ q ∈ G, ∀ v, wT v → v.length ≤ 2 → dW (shW G) q.2 v → mm (shW G q.1) v = true := by
    intro q hq v hv hl hd
    have h1 := fold_fix Ls (fun _ _ _ => Ls_tr) Ls_rf (fun _ _ => Ls_an) k1_s G (shW G) (sh_fix hG) q hq
    have h3 : k1L (shW G) q q.1 = shW G q.1 := by rw [h1]
    unfold k1L at h3
    rw [if_pos rfl] at h3
    rw [← h3]
    exact (mm_or v).mpr (Or.inr ((rW_dW hLok (fun a ha => ((hG q hq).2.2 a ha).2) hv hl).mpr hd))
  have hE : InE W (shW G) (dvE W G) := by
    refine itr_inv (P := InE W (shW G)) (fun E hE => ?_) 1937 _ (fun x i j _ _ h => by rw [show bt (Lz (11 * x + i)) j = false from b_0 j] at h; cases h)
    refine fold_inv (P := InE W (shW G)) _ _ (fun E q hq hE => ?_) hE
    refine fold_inv (P := InE W (shW G)) _ _ (fun E st hst hE => ?_) hE
    intro x i j hx hi h
    have hst : st ≤ W.length := by have := List.mem_range.mp hst; omega
    unfold a1 upd at h
    split at h
    · rename_i hc
      have hxi : x = q.1 ∧ i = st := by omega
      rw [b_or, Bool.or_eq_true] at h
      rcases h with h | h
      · rw [← hc] at h; exact hE x i j hx hi h
      · obtain ⟨s, g1, g2, g3, g4⟩ := eo_in hW h2 hE q.2 _ j (hG q hq).2.2 (fun s hs => by
          have hs32 : s < 32 := by
            rcases Nat.lt_or_ge s 32 with h | h
            · exact h
            · rw [b_big h] at hs; cases hs
          rw [bt_sh (by omega) hs32] at hs
          have := of_decide_eq_true hs
          omega) h
        have hs32 : s < 32 := by omega
        rw [bt_sh (by omega) hs32] at g1
        have e1 := of_decide_eq_true g1
        subst e1
        rw [hxi.1, hxi.2]
        exact ⟨g2, g3, hcl q hq _ (sg_wT hW.2 _ _) (hlen _ _ g2 g3) g4⟩
    · exact hE x i j hx hi h
  have hEc : ∀ q ∈ G, ∀ st, st ≤ W.length → sub (eo W (dvE W G) q.2 (si_ishl (nI 1) (nI st))) (dvE W G (11 * q.1 + st)) := by
    intro q hq st hst
    have h1 := fold_fix Es (fun _ _ _ => Es_tr) Es_rf (fun _ _ => Es_an) (ad_Es W) G (dvE W G) (dv_fix hW hG) q hq
    have h3 := fold_fix Es (fun _ _ _ => Es_tr) Es_rf (fun _ _ => Es_an) (a1_Es W q) (List.range (W.length + 1)) (dvE W G) h1 st (List.mem_range.mpr (by omega))
    have h4 : a1 W q (dvE W G) st (11 * q.1 + st) = dvE W G (11 * q.1 + st) := by rw [h3]
    unfold a1 at h4
    rw [upd_at] at h4
    intro i hi hb
    rw [← h4, b_or, show aw W q (dvE W G) st = eo W (dvE W G) q.2 (si_ishl (nI 1) (nI st)) from rfl, hb, Bool.or_true]
  have hn := hW.1
  have hL : LLok (shW G) ∧ ∀ x i j, x < 16 → i ≤ j → j ≤ W.length → mm (shW G x) (sg W i j) = true → bt (dvE W G (11 * x + i)) j = true := by
    refine itr_inv (P := fun M : Nat → LT => LLok M ∧ ∀ x i j, x < 16 → i ≤ j → j ≤ W.length → mm (M x) (sg W i j) = true → bt (dvE W G (11 * x + i)) j = true) (fun M hM => ?_) 1169 _ ⟨z3_ok, fun x i j _ h1 h3 h => ?_⟩
    · refine fold_inv (P := fun M : Nat → LT => LLok M ∧ ∀ x i j, x < 16 → i ≤ j → j ≤ W.length → mm (M x) (sg W i j) = true → bt (dvE W G (11 * x + i)) j = true) _ _ (fun M q hq hM => ⟨k1_ok hM.1 (hG q hq), fun x i j hx h1 h3 h => ?_⟩) hM
      unfold k1L at h
      split at h
      · rename_i hxq
        rcases (mm_or _).mp h with h | h
        · rw [← hxq] at h; exact hM.2 x i j hx h1 h3 h
        · have hd := (rW_dW hM.1 (fun a ha => ((hG q hq).2.2 a ha).2) (sg_wT hW.2 _ _) (hlen _ _ h1 h3)).mp h
          have := eo_out hW hM.2 q.2 (si_ishl (nI 1) (nI i)) i j (hG q hq).2.2 (by rw [bt_sh (by omega) (by omega), decide_eq_true rfl]) h1 h3 hd
          rw [hxq]
          exact hEc q hq i (by omega) j (by omega) this
      · exact hM.2 x i j hx h1 h3 h
    · exfalso
      have : ∀ v, mm (z3 x) v = false := fun v => by
        match v with
        | [] => simp [mm, z3]
        | [a] => simp [mm, z3, lb_0]
        | [a, b] => simp [mm, z3, lb_0]
        | a :: b :: c :: v => simp [mm]
      rw [this] at h
      cases h
  unfold dvB
  rw [Bool.eq_iff_iff]
  constructor
  · intro h
    have := (hE 0 0 W.length (by decide) (Nat.zero_le _) (by simpa using h)).2.2
    rw [hsg] at this
    exact this
  · intro h
    have := hL.2 0 0 W.length (by decide) (Nat.zero_le _) (Nat.le_refl _) (by rw [hsg]; exact h)
    simpa using this
end SAME
