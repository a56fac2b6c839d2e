/-! toGreibach: the sums, and the number -/
def A2 (f : Nat → Nat) : List Nat → Nat
  | [] => 0
  | z :: r => f z * mxs f r + A2 f r
def A3s (f : Nat → Nat) : List Nat → Nat
  | [] => 0
  | z :: r => f z * P2 f r + A3s f r
theorem tops (f : Nat → Nat) : ∀ l : List Nat, ∃ a b k, b ≤ a ∧ a + b + k = sU f l ∧ mxs f l = a ∧ P2 f l ≤ a * b ∧ A2 f l ≤ a * (b + k) ∧ A3s f l ≤ a * b * k := by
  intro l
  induction l with
  | nil => exact ⟨0, 0, 0, Nat.le_refl _, rfl, rfl, Nat.le_refl _, Nat.le_refl _, Nat.le_refl _⟩
  | cons z r ih =>
    obtain ⟨a, b, k, h1, h2, h3, h4, h5, h6⟩ := ih
    simp only [mxs, P2, A2, A3s, sU]
    rw [h3]
    generalize f z = s
    have t3 : s * P2 f r ≤ s * (a * b) := Nat.mul_le_mul_left _ h4
    rcases Nat.lt_or_ge b s with hs | hs
    · rcases Nat.lt_or_ge a s with hs2 | hs2
      · -- a new greatest
        have u1 : a * b ≤ s * a := Nat.mul_comm s a ▸ Nat.mul_le_mul_left a (by omega)
        refine ⟨s, a, b + k, by omega, by omega, Nat.max_eq_left (by omega), ?_, ?_, ?_⟩
        · exact Nat.max_le.mpr ⟨Nat.le_refl _, Nat.le_trans h4 u1⟩
        · have : a * (b + k) ≤ s * (b + k) := Nat.mul_le_mul_right _ (by omega)
          rw [Nat.mul_add s a]
          omega
        · have e1 : s * a * (b + k) = s * (a * b) + s * a * k := by rw [Nat.mul_add, Nat.mul_assoc]
          have e2 : a * b * k ≤ s * a * k := Nat.mul_le_mul_right _ u1
          omega
      · -- a new second
        have u1 : a * b ≤ a * s := Nat.mul_le_mul_left a (by omega)
        refine ⟨a, s, b + k, hs2, by omega, Nat.max_eq_right hs2, ?_, ?_, ?_⟩
        · exact Nat.max_le.mpr ⟨Nat.le_of_eq (Nat.mul_comm s a), Nat.le_trans h4 u1⟩
        · rw [Nat.mul_add a s, Nat.mul_comm s a]
          omega
        · have e1 : a * s * (b + k) = s * (a * b) + a * s * k := by
            rw [Nat.mul_add, Nat.mul_assoc a s b, Nat.mul_left_comm a s b]
          have e2 : a * b * k ≤ a * s * k := Nat.mul_le_mul_right _ u1
          omega
    · -- neither
      refine ⟨a, b, k + s, h1, by omega, Nat.max_eq_right (by omega), ?_, ?_, ?_⟩
      · refine Nat.max_le.mpr ⟨?_, h4⟩
        rw [Nat.mul_comm s a]
        exact Nat.mul_le_mul_left a hs
      · have e1 : a * (b + (k + s)) = a * (b + k) + s * a := by rw [← Nat.add_assoc, Nat.mul_add a (b + k) s, Nat.mul_comm a s]
        omega
      · have e1 : a * b * (k + s) = a * b * k + s * (a * b) := by rw [Nat.mul_add, Nat.mul_comm (a * b) s]
        omega
theorem BZ_sum (G1 : List PR) (Q W : Nat) : ∀ l : List Nat, l.Nodup → sU (BZ l G1 Q W) l ≤ sU (cG G1) l * (1 + Q) + A2 (cG G1) l * (1 + Q) + A3s (cG G1) l * W := by
  intro l
  induction l with
  | nil => intro _; exact Nat.zero_le _
  | cons z r ih =>
    intro hn
    have hn' := List.nodup_cons.mp hn
    have h1 := ih hn'.2
    have e1 : sU (BZ (z :: r) G1 Q W) r ≤ sU (BZ r G1 Q W) r := sU_mono (fun x hx => by
      have hx : x ≠ z := fun e => hn'.1 (e ▸ hx)
      have : old (z :: r) x = old r x := by
        show (if x = z then r else old r x) = old r x
        rw [if_neg hx]
      unfold BZ
      rw [this]
      exact Nat.le_refl _)
    have e2 : BZ (z :: r) G1 Q W z = cG G1 z * (1 + Q) + cG G1 z * mxs (cG G1) r * (1 + Q) + cG G1 z * P2 (cG G1) r * W := by
      have : old (z :: r) z = r := by
        show (if z = z then r else old r z) = r
        rw [if_pos rfl]
      unfold BZ
      rw [this]
    simp only [sU, A2, A3s]
    rw [e2, Nat.add_mul, Nat.add_mul, Nat.add_mul]
    omega
theorem BX_sum (G1 : List PR) (Q W : Nat) {Zs : List Nat} (hn : Zs.Nodup) : sU (BX Zs G1 Q W) (List.range 16) ≤ 16 * (60 + Q) + sU (BZ Zs G1 Q W) Zs := by
  have h1 : ∀ l : List Nat, sU (BX Zs G1 Q W) l = l.length * (60 + Q) + sU (BZ Zs G1 Q W) (l.filter (fun x => decide (x ∈ Zs))) := by
    intro l
    induction l with
    | nil => simp [sU]
    | cons x l ih =>
      simp only [sU, List.length_cons]
      rw [ih, List.filter_cons]
      unfold BX
      by_cases hx : x ∈ Zs
      · rw [if_pos hx, if_pos (decide_eq_true hx), Nat.add_mul]
        simp only [sU]
        omega
      · rw [if_neg hx, if_neg (by simpa using hx), Nat.add_mul]
        omega
  rw [h1, List.length_range]
  have := sU_sub (BZ Zs G1 Q W) (l := (List.range 16).filter (fun x => decide (x ∈ Zs))) (List.nodup_range.filter _) (m := Zs) (fun x hx => of_decide_eq_true (List.mem_filter.mp hx).2)
  exact Nat.add_le_add_left this _
def fml (e a b k : Nat) : Nat := 16 * (60 + Qm e) + (a + b + k) * (1 + Qm e) + a * (b + k) * (1 + Qm e) + a * b * k * (25 + 2 * e)
theorem fml_tab : (List.range 61).all (fun e => (List.range (61 - e)).all (fun a => (List.range (61 - e - a)).all (fun b => decide (fml e a b (60 - e - a - b) < 1000000)))) = true := by decide +kernel
theorem fml_lt {e a b k : Nat} (h : e + a + b + k ≤ 60) : fml e a b k < 1000000 := by
  have h1 := List.all_eq_true.mp fml_tab e (List.mem_range.mpr (by omega))
  have h2 := List.all_eq_true.mp h1 a (List.mem_range.mpr (by omega))
  have h3 := List.all_eq_true.mp h2 b (List.mem_range.mpr (by omega))
  have h4 := of_decide_eq_true h3
  refine Nat.lt_of_le_of_lt ?_ h4
  have hk : k ≤ 60 - e - a - b := by omega
  unfold fml
  have i1 : (a + b + k) * (1 + Qm e) ≤ (a + b + (60 - e - a - b)) * (1 + Qm e) := Nat.mul_le_mul_right _ (by omega)
  have i2 : a * (b + k) * (1 + Qm e) ≤ a * (b + (60 - e - a - b)) * (1 + Qm e) := Nat.mul_le_mul_right _ (Nat.mul_le_mul_left _ (by omega))
  have i3 : a * b * k * (25 + 2 * e) ≤ a * b * (60 - e - a - b) * (25 + 2 * e) := Nat.mul_le_mul_right _ (Nat.mul_le_mul_left _ hk)
  omega
theorem run_lt {Zs : List Nat} {G1 : List PR} (hH : HZ Zs G1) (hG1 : Gok G1) {n : Nat} (hr : Run n G1) : n < 1000000 := by
  have h1 := run_le hH hG1 16 0 n G1 rfl ⟨hG1, hH.1, fun q _ h => absurd h (Nat.not_lt_zero _), fun q _ => Iff.rfl⟩ hr
  rw [← List.range_eq_range'] at h1
  have h2 := BX_sum G1 (Qm (eM Zs G1)) (25 + 2 * eM Zs G1) hH.2.1
  have h3 := BZ_sum G1 (Qm (eM Zs G1)) (25 + 2 * eM Zs G1) Zs hH.2.1
  have h4 := eMZ hH hG1
  obtain ⟨a, b, k, k1, k2, k3, k4, k5, k6⟩ := tops (cG G1) Zs
  have h5 := fml_lt (e := eM Zs G1) (a := a) (b := b) (k := k) (by omega)
  unfold fml at h5
  rw [← k2] at h3
  have i1 : A2 (cG G1) Zs * (1 + Qm (eM Zs G1)) ≤ a * (b + k) * (1 + Qm (eM Zs G1)) := Nat.mul_le_mul_right _ k5
  have i2 : A3s (cG G1) Zs * (25 + 2 * eM Zs G1) ≤ a * b * k * (25 + 2 * eM Zs G1) := Nat.mul_le_mul_right _ k6
  omega
-- every run comes to its end
/-- n steps, and then one that makes it too large -/
def RunB : Nat → List PR → Prop
  | 0, G => fN G ≠ none ∧ (tfS G).2 = true
  | n + 1, G => fN G ≠ none ∧ (tfS G).2 = false ∧ RunB n (tfS G).1
def rnk (Zs : List Nat) (G1 : List PR) (x : Nat) : Nat := if G1.any (fun q => decide (q.1 = x)) then (if x ∈ Zs then 17 + (old Zs x).length else 16 - x) else 0
theorem rnk_lt {Zs : List Nat} {G1 : List PR} (hH : HZ Zs G1) (hG : Oks G1) {x y : Nat} {v : List Nat} (h : (x, (y + 1) :: v) ∈ G1) (hy : y < 16) : rnk Zs G1 y < rnk Zs G1 x := by
  have hx : G1.any (fun q => decide (q.1 = x)) = true := List.any_eq_true.mpr ⟨_, h, decide_eq_true rfl⟩
  have hx16 := (hG _ h).1
  have hx16 : x < 16 := hx16
  unfold rnk
  rw [if_pos hx]
  by_cases hya : G1.any (fun q => decide (q.1 = y)) = true
  · rw [if_pos hya]
    by_cases hxZ : x ∈ Zs
    · rw [if_pos hxZ]
      by_cases hyZ : y ∈ Zs
      · rw [if_pos hyZ]
        have := old_len hH.2.1 (hH.2.2.2.1 x y v hxZ h hyZ)
        omega
      · rw [if_neg hyZ]
        omega
    · rw [if_neg hxZ]
      obtain ⟨g1, g2⟩ := hH.2.2.2.2.1 x y v h hxZ hy
      rw [if_neg g1]
      rcases g2 with g2 | g2
      · omega
      · obtain ⟨q, hq, e⟩ := List.any_eq_true.mp hya
        have e : q.1 = y := of_decide_eq_true e
        exact absurd (show (y, q.2) ∈ G1 by rw [← e]; exact hq) (g2 q.2)
  · rw [if_neg hya]
    split <;> omega
theorem pow_61 {r s : Nat} (h : r < s) : 60 * 61 ^ (r + 1) < 61 ^ (s + 1) := by
  have h1 : 61 ^ (r + 1 + 1) ≤ 61 ^ (s + 1) := Nat.pow_le_pow_right (by decide) (by omega)
  have h2 : 0 < 61 ^ (r + 1) := Nat.pow_pos (by decide)
  rw [Nat.pow_succ] at h1
  omega
theorem ends_ {rk : Nat → Nat} : ∀ (m : Nat) (G : List PR), Gok G → (∀ q ∈ G, q.2 ≠ []) → (∀ x y v, (x, (y + 1) :: v) ∈ G → y < 16 → rk y < rk x) → sU (fun q : PR => dF (fun y => 61 ^ (rk y + 1)) q.2) G ≤ m → ∃ n, Run n G ∨ RunB n G := by
  intro m
  induction m with
  | zero =>
    intro G hG hne hrk hm
    cases hp : fN G with
    | none => exact ⟨0, Or.inl hp⟩
    | some p =>
      obtain ⟨k1, k2, _⟩ := fN_some hG hp
      obtain ⟨y, v, hy, ev⟩ := nt_ex k2
      have := sU_mem (fun q : PR => dF (fun y => 61 ^ (rk y + 1)) q.2) k1
      have e : dF (fun y => 61 ^ (rk y + 1)) p.2 = 61 ^ (rk y + 1) := by rw [ev, dF_cons _ hy]
      have h2 : 0 < 61 ^ (rk y + 1) := Nat.pow_pos (by decide)
      have this : dF (fun y => 61 ^ (rk y + 1)) p.2 ≤ _ := this
      omega
  | succ m ih =>
    intro G hG hne hrk hm
    cases hp : fN G with
    | none => exact ⟨0, Or.inl hp⟩
    | some p =>
      obtain ⟨k1, k2, _⟩ := fN_some hG hp
      obtain ⟨y, v, hy, ev⟩ := nt_ex k2
      have ep : p = (p.1, (y + 1) :: v) := Prod.ext rfl ev
      cases hf : (tfS G).2 with
      | true => exact ⟨0, Or.inr ⟨by rw [hp]; simp, hf⟩⟩
      | false =>
        rw [ep] at hp k1
        have hmem := tfS_mem hG hp hf
        have hG' := tfS_ok hG
        have hxy := hrk p.1 y v k1 hy
        have hne' : ∀ q ∈ (tfS G).1, q.2 ≠ [] := by
          intro q hq
          rcases (hmem q).mp hq with ⟨a, _⟩ | ⟨u, hu, e⟩
          · exact hne q a
          · rw [e]
            intro e'
            exact hne _ hu (List.append_eq_nil_iff.mp e').1
        have hrk' : ∀ x y v, (x, (y + 1) :: v) ∈ (tfS G).1 → y < 16 → rk y < rk x := by
          intro x' y' v' hm' hy'
          rcases (hmem _).mp hm' with ⟨a, _⟩ | ⟨u, hu, e⟩
          · exact hrk x' y' v' a hy'
          · have e1 : x' = p.1 := congrArg Prod.fst e
            have e2 := congrArg Prod.snd e
            match u, hu, e2 with
            | [], hu, _ => exact absurd rfl (hne _ hu)
            | b :: u', hu, e2 =>
              have eb : b = y' + 1 := by have := congrArg List.head? e2; simpa using this.symm
              rw [eb] at hu
              have := hrk y y' u' hu hy'
              rw [e1]
              omega
        have hsum : sU (fun q : PR => dF (fun y => 61 ^ (rk y + 1)) q.2) (tfS G).1 < sU (fun q : PR => dF (fun y => 61 ^ (rk y + 1)) q.2) G := by
          have e1 := sU_sub (fun q : PR => dF (fun y => 61 ^ (rk y + 1)) q.2) hG'.2.2.nodup (m := G.erase (p.1, (y + 1) :: v) ++ (SX y G).map (fun u => (p.1, u ++ v))) (fun q hq => by
            rcases (hmem q).mp hq with ⟨a, b⟩ | ⟨u, hu, e⟩
            · exact List.mem_append_left _ ((List.mem_erase_of_ne b).mpr a)
            · exact List.mem_append_right _ (List.mem_map.mpr ⟨u, SX_mem.mpr hu, e.symm⟩))
          have e2 := sU_erase (fun q : PR => dF (fun y => 61 ^ (rk y + 1)) q.2) k1
          have e3 : dF (fun y => 61 ^ (rk y + 1)) ((p.1, (y + 1) :: v) : PR).2 = 61 ^ (rk y + 1) := dF_cons _ hy v
          rw [sU_app, sU_map] at e1
          have hlen : (SX y G).length ≤ 60 := Nat.le_trans (SX_len y hG) (by unfold aX; omega)
          have e4 : sU (fun u => dF (fun y => 61 ^ (rk y + 1)) ((p.1, u ++ v) : PR).2) (SX y G) ≤ (SX y G).length * 61 ^ rk y := sU_le (fun u hu => by
            have hum := SX_mem.mp hu
            show dF (fun y => 61 ^ (rk y + 1)) (u ++ v) ≤ _
            rw [dF_app _ (hne _ hum)]
            cases hb : ntB u with
            | false => rw [dF_no _ hb]; exact Nat.zero_le _
            | true =>
              obtain ⟨y', v', hy', eu⟩ := nt_ex hb
              rw [eu] at hum ⊢
              rw [dF_cons _ hy']
              exact Nat.pow_le_pow_right (by decide) (hrk y y' v' hum hy'))
          have e5 : (SX y G).length * 61 ^ rk y ≤ 60 * 61 ^ rk y := Nat.mul_le_mul_right _ hlen
          have e6 : 60 * 61 ^ rk y < 61 ^ (rk y + 1) := by
            have : 0 < 61 ^ rk y := Nat.pow_pos (by decide)
            rw [Nat.pow_succ]
            omega
          rw [e3] at e2
          omega
        obtain ⟨n, h⟩ := ih (tfS G).1 hG' hne' hrk' (by omega)
        have hn0 : fN G ≠ none := by rw [hp]; simp
        rcases h with h | h
        · exact ⟨n + 1, Or.inl ⟨hn0, hf, h⟩⟩
        · exact ⟨n + 1, Or.inr ⟨hn0, hf, h⟩⟩
theorem run_ends {Zs : List Nat} {G1 : List PR} (hH : HZ Zs G1) (hG1 : Gok G1) : (∃ n, n < 1000000 ∧ Run n G1) ∨ ∃ n, RunB n G1 := by
  obtain ⟨n, h | h⟩ := ends_ (rk := rnk Zs G1) _ G1 hG1 hH.1 (fun x y v h hy => rnk_lt hH hG1.2.1 h hy) (Nat.le_refl _)
  · exact Or.inl ⟨n, run_lt hH hG1 h, h⟩
  · exact Or.inr ⟨n, h⟩
