/-! toGreibach: fewer than a million steps -/
def cG (G : List PR) (y : Nat) : Nat := ((SX y G).filter ntB).length
theorem cG_le (G : List PR) (y : Nat) : cG G y ≤ (G.filter (fun q => decide (q.1 = y))).length := by
  unfold cG SX
  refine Nat.le_trans (List.length_filter_le ..) ?_
  rw [List.length_map]
  exact Nat.le_refl _
/-- the letters share the productions out -/
theorem parts_le : ∀ (G : List PR) (l : List Nat), l.Nodup → sU (fun y => (G.filter (fun q => decide (q.1 = y))).length) l ≤ G.length := by
  intro G
  induction G with
  | nil =>
    intro l _
    have : sU (fun y => (([] : List PR).filter (fun q => decide (q.1 = y))).length) l ≤ l.length * 0 := sU_le (fun y _ => Nat.le_refl _)
    omega
  | cons q G ih =>
    intro l hl
    have h1 := ih l hl
    have key : ∀ l : List Nat, l.Nodup → sU (fun y => ((q :: G).filter (fun q => decide (q.1 = y))).length) l ≤ sU (fun y => (G.filter (fun q => decide (q.1 = y))).length) l + (if q.1 ∈ l then 1 else 0) := by
      intro l
      induction l with
      | nil => intro _; exact Nat.le_refl _
      | cons y l ih2 =>
        intro hn
        have hn' := List.nodup_cons.mp hn
        have h2 := ih2 hn'.2
        simp only [sU]
        rw [List.filter_cons]
        by_cases hq : q.1 = y
        · have hnl : q.1 ∉ l := hq ▸ hn'.1
          rw [if_neg hnl] at h2
          rw [if_pos (decide_eq_true hq), List.length_cons, if_pos (by rw [hq]; exact List.mem_cons_self ..)]
          omega
        · rw [if_neg (by simpa using hq)]
          by_cases hl2 : q.1 ∈ l
          · rw [if_pos hl2] at h2
            rw [if_pos (List.mem_cons_of_mem _ hl2)]
            omega
          · rw [if_neg hl2] at h2
            rw [if_neg (fun h => by
              rcases List.mem_cons.mp h with e | e
              · exact hq e
              · exact hl2 e)]
            omega
    have h2 := key l hl
    rw [List.length_cons]
    split at h2 <;> omega
def Qm (e : Nat) : Nat := if e ≤ 30 then 2 * e * (60 - e) else 1800
theorem Qm_tab : ∀ e : Fin 61, ∀ f : Fin 61, f.1 ≤ e.1 → (60 - f.1) * (2 * f.1) ≤ Qm e.1 := by decide +kernel
theorem Qm_le {a L f e : Nat} (h1 : a ≤ 60 - f) (h2 : L ≤ 2 * f) (h3 : f ≤ e) (h4 : e ≤ 60) : a * L ≤ Qm e := Nat.le_trans (Nat.mul_le_mul h1 h2) (Qm_tab ⟨e, by omega⟩ ⟨f, by omega⟩ h3)
section TOT
variable {Zs : List Nat} {G1 : List PR}
def Stt (G1 : List PR) (X : Nat) (G : List PR) : Prop := Gok G ∧ (∀ q ∈ G, q.2 ≠ []) ∧ (∀ q ∈ G, q.1 < X → ntB q.2 = false) ∧ ∀ q : PR, X ≤ q.1 → (q ∈ G ↔ q ∈ G1)
def eM (Zs : List Nat) (G1 : List PR) : Nat := sU (cG G1) ((List.range 16).filter (fun y => decide (y ∉ Zs)))
theorem eMZ (hH : HZ Zs G1) (hG : Gok G1) : eM Zs G1 + sU (cG G1) Zs ≤ 60 := by
  have hnd : ((List.range 16).filter (fun y => decide (y ∉ Zs)) ++ Zs).Nodup := by
    refine List.nodup_append.mpr ⟨List.nodup_range.filter _, hH.2.1, fun y hy z hz e => ?_⟩
    have := of_decide_eq_true (List.mem_filter.mp hy).2
    exact this (e ▸ hz)
  have h1 := parts_le G1 _ hnd
  have h2 : sU (cG G1) ((List.range 16).filter (fun y => decide (y ∉ Zs)) ++ Zs) ≤ sU (fun y => (G1.filter (fun q => decide (q.1 = y))).length) ((List.range 16).filter (fun y => decide (y ∉ Zs)) ++ Zs) := sU_mono (fun y _ => cG_le G1 y)
  rw [sU_app] at h2
  have := hG.1
  unfold eM
  omega
theorem cn_cG {X : Nat} {G : List PR} (hG1 : Gok G1) (hS : Stt G1 X G) (y : Nat) : cn (NX X G) y ≤ cG G1 y := by
  obtain ⟨s1, s2, s3, s4⟩ := hS
  unfold cn
  rcases Nat.lt_trichotomy y X with h | h | h
  · have : (NX X G y).filter ntB = [] := List.filter_eq_nil_iff.mpr (fun u hu => by
      have := s3 _ (NX_mem.mp hu).2 h
      have this : ntB u = false := this
      rw [this]; decide)
    rw [this]
    exact Nat.zero_le _
  · unfold NX
    rw [if_pos h]
    exact Nat.zero_le _
  · unfold NX cG SX
    rw [if_neg (by omega), s1.eq_of hG1 (fun q => decide (q.1 = y)) (fun q hq => s4 q (by rw [of_decide_eq_true hq]; omega))]
    exact Nat.le_refl _
theorem sx_cG {X : Nat} {G : List PR} (hG1 : Gok G1) (hS : Stt G1 X G) : ((SX X G).filter ntB).length = cG G1 X := by
  obtain ⟨s1, s2, s3, s4⟩ := hS
  unfold cG SX
  rw [s1.eq_of hG1 (fun q => decide (q.1 = X)) (fun q hq => s4 q (by rw [of_decide_eq_true hq]; exact Nat.le_refl _))]
theorem eL_eM {X : Nat} {G : List PR} (hG1 : Gok G1) (hS : Stt G1 X G) : eL Zs (NX X G) ≤ eM Zs G1 := by
  unfold eL eM
  generalize List.range 16 = l
  induction l with
  | nil => exact Nat.le_refl _
  | cons y l ih =>
    rw [List.filter_cons]
    simp only [sU]
    cases hm : mL Zs (NX X G) y with
    | false =>
      rw [if_neg (by decide)]
      split
      · simp only [sU]; omega
      · omega
    | true =>
      rw [if_pos rfl, if_pos (decide_eq_true (mL_nZ hm))]
      have := cn_cG hG1 hS y
      simp only [sU]
      omega
theorem eL_a {X : Nat} {G : List PR} (hG : Gok G) : aX X G ≤ 60 - eL Zs (NX X G) := by
  have h1 := parts_le (G.filter (fun q => !decide (q.1 = X))) (List.range 16) List.nodup_range
  have h2 : eL Zs (NX X G) ≤ sU (fun y => ((G.filter (fun q => !decide (q.1 = X))).filter (fun q => decide (q.1 = y))).length) (List.range 16) := by
    unfold eL
    refine sU_mono (fun y _ => ?_)
    split
    · unfold cn
      refine Nat.le_trans (List.length_filter_le ..) ?_
      unfold NX
      split
      · exact Nat.zero_le _
      · rename_i hy
        rw [List.length_map, List.filter_filter]
        refine Nat.le_of_eq (congrArg List.length (List.filter_congr (fun q _ => ?_)))
        by_cases e : q.1 = y
        · rw [decide_eq_true e, decide_eq_false (by rw [e]; exact hy)]; rfl
        · rw [decide_eq_false e]; rfl
    · exact Nat.zero_le _
  unfold aX
  omega
theorem XH_of {X : Nat} {G : List PR} (hH : HZ Zs G1) (hS : Stt G1 X G) (hX : ∃ w, (X, w) ∈ G1) : XH Zs X (NX X G) := by
  obtain ⟨g1, g2, g3, g4, g5, g6, g7⟩ := hH
  obtain ⟨s1, s2, s3, s4⟩ := hS
  have up : ∀ {y w}, (y, w) ∈ G → ntB w = true → y ≠ X → X < y ∧ (y, w) ∈ G1 := by
    intro y w hm hb hy
    have : X < y := by
      rcases Nat.lt_trichotomy X y with h | h | h
      · exact h
      · exact absurd h.symm hy
      · have := s3 _ hm h
        have this : ntB w = false := this
        rw [this] at hb; cases hb
    exact ⟨this, (s4 (y, w) (Nat.le_of_lt this)).mp hm⟩
  refine ⟨fun y u hu => s2 _ (NX_mem.mp hu).2, by unfold NX; rw [if_pos rfl], g2, g3, ?_, ?_, ?_, ?_⟩
  · intro y y' v hy hu hy'
    obtain ⟨a1, a2⟩ := NX_mem.mp hu
    obtain ⟨b1, b2⟩ := up a2 (by rw [nt_cons]; exact decide_eq_true hy') a1
    obtain ⟨e1, e2⟩ := g5 y y' v b2 hy hy'
    refine ⟨e1, ?_, ?_⟩
    · intro e
      rcases e2 with e2 | e2
      · omega
      · obtain ⟨w, hw⟩ := hX
        exact e2 w (e ▸ hw)
    · rcases e2 with e2 | e2
      · exact Or.inl e2
      · right
        intro u hu'
        obtain ⟨c1, c2⟩ := NX_mem.mp hu'
        cases hb : ntB u with
        | false => rfl
        | true => exact absurd (up c2 hb c1).2 (e2 u)
  · intro z y v hz hu hy
    obtain ⟨a1, a2⟩ := NX_mem.mp hu
    obtain ⟨b1, b2⟩ := up a2 (by rw [nt_cons]; exact decide_eq_true (g3 y hy)) a1
    exact ⟨g4 z y v hz b2 hy, g6 z y v b2 hz hy⟩
  · intro z w hz hlt hw
    obtain ⟨a1, a2⟩ := NX_mem.mp hw
    have b2 := (s4 (z, w) (Nat.le_of_lt hlt)).mp a2
    rcases g7 z w b2 hz with ⟨w', e1, e2, e3⟩ | e
    · exact Or.inl ⟨w', e1, e2, NX_mem.mpr ⟨a1, (s4 (z, w') (Nat.le_of_lt hlt)).mpr e3⟩⟩
    · exact Or.inr (NX_mem.mpr ⟨a1, (s4 (z, w ++ [z + 1]) (Nat.le_of_lt hlt)).mpr e⟩)
  · intro y u hlt hu
    exact s3 _ (NX_mem.mp hu).2 hlt
/-- the steps of a left side made by turning, beyond what every left side takes -/
def BZ (Zs : List Nat) (G1 : List PR) (Q W : Nat) (x : Nat) : Nat := cG G1 x * (1 + Q) + cG G1 x * mxs (cG G1) (old Zs x) * (1 + Q) + cG G1 x * P2 (cG G1) (old Zs x) * W
def BX (Zs : List Nat) (G1 : List PR) (Q W : Nat) (x : Nat) : Nat := 60 + Q + (if x ∈ Zs then BZ Zs G1 Q W x else 0)
theorem one_le (hH : HZ Zs G1) (hG1 : Gok G1) {X : Nat} {G : List PR} (hS : Stt G1 X G) {n : Nat} (hr : RX (NX X G) (aX X G) n (SX X G)) : n ≤ BX Zs G1 (Qm (eM Zs G1)) (25 + 2 * eM Zs G1) X := by
  by_cases hX : ∃ w, (X, w) ∈ G1
  · have hXH := XH_of hH hS hX
    have hl := SX_len X hS.1
    have h8 : ∀ w ∈ SX X G, w.length ≤ 8 := fun w hw => (hS.1.2.1 _ (SX_mem.mp hw)).2.1
    have he := eL_eM (Zs := Zs) hG1 hS
    have he60 : eM Zs G1 ≤ 60 := by have := eMZ hH hG1; omega
    have hq := Qm_le (eL_a (Zs := Zs) (X := X) hS.1) (LL_2e (Zs := Zs) (N := NX X G)) he he60
    have ha60 : aX X G ≤ 60 := by unfold aX; omega
    have raw : ∀ w, w ∈ SX X G ↔ (X, w) ∈ G1 := fun w => by rw [SX_mem]; exact hS.2.2.2 (X, w) (Nat.le_refl _)
    unfold BX
    by_cases hZ : X ∈ Zs
    · rw [if_pos hZ]
      have hSH : SH Zs X (SX X G) := ⟨hZ, fun y v hv hy => ⟨hH.2.2.2.1 X y v hZ ((raw _).mp hv) hy, hH.2.2.2.2.2.1 X y v ((raw _).mp hv) hZ hy⟩, fun w hw => by
        rcases hH.2.2.2.2.2.2 X w ((raw _).mp hw) hZ with ⟨w', e1, e2, e3⟩ | e
        · exact Or.inl ⟨w', e1, e2, (raw _).mpr e3⟩
        · exact Or.inr ((raw _).mpr e)⟩
      have := one_z hXH (NX_nodup X hS.1) hSH hr hl h8
      rw [sx_cG hG1 hS] at this
      generalize aX X G * LL Zs (NX X G) = q at hq this
      have hc1 : c1 Zs (NX X G) (SX X G) ≤ mxs (cG G1) (old Zs X) := by
        rcases c1_at (Zs := Zs) (N := NX X G) (S := SX X G) with e | ⟨y, e1, e2, e3⟩
        · rw [e]; exact Nat.zero_le _
        · rw [e3]
          exact Nat.le_trans (cn_cG hG1 hS y) (mxs_ge _ (r1_old hSH e1))
      have hc2 : c1 Zs (NX X G) (SX X G) * c2 Zs (NX X G) (SX X G) ≤ P2 (cG G1) (old Zs X) := by
        rcases c1_at (Zs := Zs) (N := NX X G) (S := SX X G) with e | ⟨y, e1, e2, e3⟩
        · rw [e, Nat.zero_mul]; exact Nat.zero_le _
        · rcases c2_at (Zs := Zs) (N := NX X G) (S := SX X G) with f | ⟨t, f1, f2⟩
          · rw [f, Nat.mul_zero]; exact Nat.zero_le _
          · rw [e3, f2]
            refine Nat.le_trans (Nat.mul_le_mul (cn_cG hG1 hS y) (cn_cG hG1 hS t)) (P2_ge _ (r1_old hSH e1) (r2_old hXH hSH f1).1 (fun e => ?_))
            rw [e, f1] at e2
            cases e2
      have hW1 : W1 Zs (NX X G) (SX X G) q ≤ (1 + Qm (eM Zs G1)) + mxs (cG G1) (old Zs X) * (1 + Qm (eM Zs G1)) + P2 (cG G1) (old Zs X) * (25 + 2 * eM Zs G1) := by
        unfold W1 W2 W3
        rw [Nat.mul_add, ← Nat.mul_assoc]
        have i1 : c1 Zs (NX X G) (SX X G) * (1 + q) ≤ mxs (cG G1) (old Zs X) * (1 + Qm (eM Zs G1)) := Nat.mul_le_mul hc1 (by omega)
        have i2 : c1 Zs (NX X G) (SX X G) * c2 Zs (NX X G) (SX X G) * (25 + 2 * eL Zs (NX X G)) ≤ P2 (cG G1) (old Zs X) * (25 + 2 * eM Zs G1) := Nat.mul_le_mul hc2 (by omega)
        omega
      have := Nat.le_trans this (Nat.add_le_add_right (Nat.mul_le_mul_left (cG G1 X) hW1) q)
      unfold BZ
      rw [Nat.mul_add, Nat.mul_add, ← Nat.mul_assoc, ← Nat.mul_assoc] at this
      omega
    · rw [if_neg hZ]
      have := one_m hXH hr hl (fun y v hv hy => by
        obtain ⟨e1, e2⟩ := hH.2.2.2.2.1 X y v ((raw _).mp hv) hZ hy
        refine ⟨e1, fun e => ?_⟩
        rcases e2 with e2 | e2
        · omega
        · obtain ⟨w, hw⟩ := hX
          exact e2 w (e ▸ hw))
      omega
  · have hS0 : ∀ w, w ∉ SX X G := fun w hw => hX ⟨w, (hS.2.2.2 (X, w) (Nat.le_refl _)).mp (SX_mem.mp hw)⟩
    cases n with
    | zero => exact Nat.zero_le _
    | succ n =>
      obtain ⟨y, v, S', _, h2, _⟩ := hr
      exact absurd h2 (hS0 _)
theorem run_le (hH : HZ Zs G1) (hG1 : Gok G1) : ∀ (d X n : Nat) (G : List PR), X + d = 16 → Stt G1 X G → Run n G → n ≤ sU (BX Zs G1 (Qm (eM Zs G1)) (25 + 2 * eM Zs G1)) (List.range' X d) := by
  intro d
  induction d with
  | zero =>
    intro X n G hX hS hr
    cases n with
    | zero => exact Nat.zero_le _
    | succ n =>
      exact absurd (fN_of (fun q hq => hS.2.2.1 q hq (by have := (hS.1.2.1 q hq).1; omega))) hr.1
  | succ d ih =>
    intro X n G hX hS hr
    by_cases hXe : ∃ w, (X, w) ∈ G1
    · have hXH := XH_of hH hS hXe
      obtain ⟨x1, x2, x3, x4, x5, x6, x7, x8⟩ := hXH
      have zX : ∀ y, y ∈ old Zs X → y ≠ X := fun y h e => by
        have := old_len x3 h
        rw [e] at this
        omega
      obtain ⟨n1, n2, G2, e1, e2, e3, e4, e5, e6, e7⟩ := ext_run (X := X) (Fr := fun y => y ≠ X ∧ (X ∈ Zs → y ∈ Zs → y ∈ old Zs X) ∧ (X ∉ Zs → y ∉ Zs)) (fun y hy => hy.1) n G hS.1 hS.2.1 hr hS.2.2.1 (fun y v hm hy => by
        have hm1 := (hS.2.2.2 _ (Nat.le_refl _)).mp hm
        by_cases hZ : X ∈ Zs
        · by_cases hy2 : y ∈ Zs
          · have := hH.2.2.2.1 X y v hZ hm1 hy2
            exact ⟨zX y this, fun _ _ => this, fun h => absurd hZ h⟩
          · exact ⟨fun e => hy2 (e ▸ hZ), fun _ h => absurd h hy2, fun h => absurd hZ h⟩
        · obtain ⟨g1, g2⟩ := hH.2.2.2.2.1 X y v hm1 hZ hy
          refine ⟨fun e => ?_, fun h => absurd h hZ, fun _ => g1⟩
          rcases g2 with g2 | g2
          · omega
          · obtain ⟨w, hw⟩ := hXe
            exact g2 w (e ▸ hw)) (fun y hy u hu y' v' e hy' => by
        rw [e] at hu
        by_cases hyz : y ∈ Zs
        · have hZ : X ∈ Zs := by
            by_cases hZ : X ∈ Zs
            · exact hZ
            · exact absurd hyz (hy.2.2 hZ)
          by_cases hz' : y' ∈ Zs
          · have := old_tr x3 (hy.2.1 hZ hyz) (x6 y y' v' hyz hu hz').1
            exact ⟨zX y' this, fun _ _ => this, fun h => absurd hZ h⟩
          · exact ⟨fun e => hz' (e ▸ hZ), fun _ h => absurd h hz', fun h => absurd hZ h⟩
        · obtain ⟨g1, g2, _⟩ := x5 y y' v' hyz hu hy'
          exact ⟨g2, fun _ h => absurd h g1, fun _ => g1⟩)
      have h1 := one_le hH hG1 hS e2
      have h2 := ih (X + 1) n2 G2 (by omega) ⟨e4, e7, fun q hq hlt => e6 q hq (by omega), fun q hq => (e5 q (by omega)).trans (hS.2.2.2 q (by omega))⟩ e3
      rw [List.range'_succ]
      simp only [sU]
      omega
    · have h2 := ih (X + 1) n G (by omega) ⟨hS.1, hS.2.1, fun q hq hlt => by
        rcases Nat.lt_or_eq_of_le (Nat.lt_succ_iff.mp hlt) with g | g
        · exact hS.2.2.1 q hq g
        · exact absurd ⟨q.2, by rw [← g]; exact (hS.2.2.2 q (by omega)).mp hq⟩ hXe, fun q hq => hS.2.2.2 q (by omega)⟩ hr
      rw [List.range'_succ]
      simp only [sU]
      omega
end TOT
