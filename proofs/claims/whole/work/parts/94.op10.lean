/-! ===== operators: every text is read alike ===== -/
/-- what stands in a node, its place j counted from en -/
def kNf (en j : Nat) (x : kN) : Prop := x.1 ≤ 13 ∧ (x.1 = 0 → x.2.1 < 4) ∧ (1 ≤ x.1 → x.2.2.1 < en + j) ∧ (9 ≤ x.1 → x.1 ≤ 12 → x.2.2.2.1 < en + j) ∧ x.2.2.2.2.1 ≤ en + j ∧ (1 ≤ x.1 → x.2.2.2.2.1 ≤ x.2.2.1) ∧ (9 ≤ x.1 → x.1 ≤ 12 → x.2.2.2.2.1 ≤ x.2.2.2.1) ∧ (x.1 = 13 → kv_cx x.2.2.2.2.2.2.1 x.2.2.2.2.2.2.2 16 ∧ (∀ c, c ∈ x.2.2.2.2.2.1 → kt_vc c)) ∧ (x.1 ≠ 13 → x.2.2.2.2.2.1 = [] ∧ x.2.2.2.2.2.2.1 = []) ∧ x.2.2.2.2.2.1.length ≤ 200 ∧ x.2.2.2.2.2.2.1.length ≤ 200
/-- nodes in their order: what is below a node lies from its first on -/
def kNl (en : Nat) (nds : List kN) : Prop := ∀ j x, nds[j]? = some x → kNf en j x ∧ en ≤ x.2.2.2.2.1 ∧ ((x.1 = 13 → ∀ H0, kTk 2 H0 x.2.2.2.2.2.1 x.2.2.2.2.2.2.2) ∧ (x.1 = 8 → x.2.2.1 + 1 = en + j)) ∧ ∀ k y, nds[k]? = some y → k ≤ j → x.2.2.2.2.1 ≤ en + k → x.2.2.2.2.1 ≤ y.2.2.2.2.1
theorem kls_lt {α : Type} {l : List α} {j : Nat} {x : α} (h : l[j]? = some x) : j < l.length := by
  rcases Nat.lt_or_ge j l.length with z | z
  · exact z
  · rw [List.getElem?_eq_none z] at h; cases h
theorem kNl.app {en : Nat} {a b : List kN} (h1 : kNl en a) (h2 : kNl (en + a.length) b) : kNl en (a ++ b) := by
  intro j x hx
  rcases Nat.lt_or_ge j a.length with c | c
  · rw [List.getElem?_append_left c] at hx
    obtain ⟨y1, y2, y2', y3⟩ := h1 j x hx
    refine ⟨y1, y2, y2', fun k y hy hk => ?_⟩
    rw [List.getElem?_append_left (by omega)] at hy
    exact y3 k y hy hk
  · rw [List.getElem?_append_right c] at hx
    obtain ⟨y1, y2, y2', y3⟩ := h2 _ x hx
    have ej : en + a.length + (j - a.length) = en + j := by omega
    refine ⟨?_, by omega, ⟨y2'.1, fun z => by have := y2'.2 z; omega⟩, fun k y hy hk hbe => ?_⟩
    · unfold kNf at y1 ⊢
      rw [ej] at y1
      exact y1
    · rw [List.getElem?_append_right (by omega)] at hy
      exact y3 _ y hy (by omega) (by omega)
theorem kNl.snoc {en : Nat} {a : List kN} {x : kN} (h1 : kNl en a) (h2 : kNf en a.length x) (h3 : x.2.2.2.2.1 = en) (h4 : x.1 = 13 → ∀ H0, kTk 2 H0 x.2.2.2.2.2.1 x.2.2.2.2.2.2.2) (h5 : x.1 = 8 → x.2.2.1 + 1 = en + a.length) : kNl en (a ++ [x]) := by
  intro j y hy
  rcases Nat.lt_or_ge j a.length with c | c
  · rw [List.getElem?_append_left c] at hy
    obtain ⟨y1, y2, y2', y3⟩ := h1 j y hy
    refine ⟨y1, y2, y2', fun k z hz hk => ?_⟩
    rw [List.getElem?_append_left (by omega)] at hz
    exact y3 k z hz hk
  · rw [List.getElem?_append_right c] at hy
    have hj := kls_lt hy
    simp only [List.length_singleton] at hj
    have ej : j = a.length := by omega
    rw [ej, Nat.sub_self] at hy
    have hx' := Option.some.inj (show some x = some y from hy)
    rw [← hx', ej]
    refine ⟨h2, by omega, ⟨h4, h5⟩, fun k z hz hk _ => ?_⟩
    rcases Nat.lt_or_ge k a.length with c2 | c2
    · rw [List.getElem?_append_left c2] at hz
      rw [h3]
      exact (h1 k z hz).2.1
    · rw [List.getElem?_append_right c2, show k - a.length = 0 by omega] at hz
      have hz' := Option.some.inj (show some x = some z from hz)
      rw [← hz']
      exact Nat.le_refl _
def kXQ (n p bg en : Nat) (o : kX) : Prop := (∀ kd pl, o = .inl (kd, pl) → pl ≤ n ∧ 1 ≤ kd ∧ kd ≤ 3) ∧ ∀ p' nds, o = .inr (p', nds) → p < p' ∧ p' ≤ n ∧ 1 ≤ nds.length ∧ bg + nds.length ≤ 12 ∧ kNl en nds
theorem kXQ.P {n p bg en : Nat} {o : kX} (h : kXQ n p bg en o) : kXP n p bg en o := ⟨h.1, fun p' nds ho => ⟨(h.2 p' nds ho).1, (h.2 p' nds ho).2.1, (h.2 p' nds ho).2.2.1, (h.2 p' nds ho).2.2.2.1, fun j x hx => ((h.2 p' nds ho).2.2.2.2 j x hx).1⟩⟩
theorem kXQ_l {n p bg en kd pl : Nat} (h1 : pl ≤ n) (h2 : 1 ≤ kd) (h3 : kd ≤ 3) : kXQ n p bg en (.inl (kd, pl)) := by
  refine ⟨fun a b e => ?_, fun p' nds e => by cases e⟩
  injection e with e
  injection e with e1 e2
  omega
theorem kXQ_r {n p bg en p' : Nat} {nds : List kN} (h1 : p < p') (h2 : p' ≤ n) (h3 : 1 ≤ nds.length) (h4 : bg + nds.length ≤ 12) (h5 : kNl en nds) : kXQ n p bg en (.inr (p', nds)) := by
  refine ⟨fun a b e => (by cases e), fun p2 nds2 e => ?_⟩
  injection e with e
  injection e with e1 e2
  subst e1
  subst e2
  exact ⟨h1, h2, h3, h4, h5⟩
section O10
variable {n p bg en i : Nat} {tp : Nat → Int32}
theorem kx_tb_Q {q : Nat} (hq : q + 1 ≤ n) (hp : p ≤ q) (hb12 : bg ≤ 12) : kXQ n p bg en (kx_tb tp n bg en q) := by
  have hdl := kt_r_le kt_dg tp n (q + 1) hq
  unfold kx_tb
  split
  · exact kXQ_l (by omega) (by omega) (by omega)
  · rename_i c1
    split
    · exact kXQ_l (by omega) (by omega) (by omega)
    · split
      · exact kXQ_l (by omega) (by omega) (by omega)
      · rename_i c2 c3
        have hz : q + 1 < n := by omega
        have hdg : kt_dg (tp (q + 1)) = true := (kt_r_0 (q := kt_dg) (tp := tp) hz).mp (by omega)
        obtain ⟨ed, d1, d2⟩ := kt_dgn hdg
        have h51 : ¬ 51 < (tp (q + 1)).toInt.toNat := fun z => c1 (by
          rcases Nat.lt_or_ge 1 (kt_r kt_dg tp n (q + 1)) with y | y
          · exact Or.inl y
          · refine Or.inr ⟨by omega, ?_⟩
            rw [Int32.lt_iff_toInt_lt]
            show (51 : Int) < (tp (q + 1)).toInt
            omega)
        refine kXQ_r (by omega) (by omega) (by simp) (by simp; omega) ?_
        refine kNl.snoc (a := []) (fun j x hx => by cases hx) ?_ rfl (fun z => absurd z (show ¬ 0 = 13 by decide)) (fun z => absurd z (show ¬ 0 = 8 by decide))
        simp only [kNf]
        exact ⟨by omega, fun _ => by omega, fun z => by omega, fun z _ => by omega, Nat.le_refl _, fun z => by omega, fun z _ => by omega, fun z => by omega, fun _ => ⟨trivial, trivial⟩, Nat.zero_le _, Nat.zero_le _⟩
theorem kw_o_P {oc : Nat → kO} (hn : n ≤ 200) (hp : p ≤ n) (hoc : ∀ p', p < p' → p' ≤ n → kPd n p' 16 (oc p') ∧ kTd 2 (oc p')) : (∀ kd pl, kw_o tp n oc p = .inl (kd, pl) → pl ≤ n ∧ 1 ≤ kd ∧ kd ≤ 3) ∧ ∀ p' tk cd H, kw_o tp n oc p = .inr (p', tk, cd, H) → p < p' ∧ p' ≤ n ∧ tk.length ≤ 200 ∧ cd.length ≤ 200 ∧ kv_cx cd H 16 ∧ (∀ c, c ∈ tk → kt_vc c) ∧ ∀ H0, kTk 2 H0 tk H := by
  have hle := kt_s_le tp n p hp
  have hl : ∀ (kd pl : Nat), pl ≤ n → 1 ≤ kd → kd ≤ 3 → (∀ kd' pl', (Sum.inl (kd, pl) : kO) = .inl (kd', pl') → pl' ≤ n ∧ 1 ≤ kd' ∧ kd' ≤ 3) ∧ ∀ p' tk cd H, (Sum.inl (kd, pl) : kO) = .inr (p', tk, cd, H) → p < p' ∧ p' ≤ n ∧ tk.length ≤ 200 ∧ cd.length ≤ 200 ∧ kv_cx cd H 16 ∧ (∀ c, c ∈ tk → kt_vc c) ∧ ∀ H0, kTk 2 H0 tk H := fun kd pl h1 h2 h3 => by
    refine ⟨fun a b e => ?_, fun p' tk cd H e => by cases e⟩
    injection e with e
    injection e with e1 e2
    omega
  unfold kw_o
  split
  · obtain ⟨h1, hT1⟩ := hoc (kt_s tp n p + 1) (by omega) (by omega)
    split
    · rename_i x ho
      exact hl x.1 x.2 (h1.1 x.1 x.2 ho).1 (h1.1 x.1 x.2 ho).2.1 (h1.1 x.1 x.2 ho).2.2
    · rename_i p4 tk cd H ho
      obtain ⟨y1, y2, y3, y4, y5, y6, y7⟩ := h1.2 p4 tk cd H ho
      have hle4 := kt_s_le tp n p4 y2
      split
      · refine ⟨fun a b e => (by cases e), fun p' tk' cd' H' e => ?_⟩
        injection e with e
        injection e with e1 e2
        injection e2 with e2 e3
        injection e3 with e3 e4
        subst e1
        subst e2
        subst e3
        subst e4
        exact ⟨by omega, by omega, by omega, by omega, y6, y7, hT1 _ _ _ _ ho⟩
      · exact hl _ _ (by omega) (by omega) (by omega)
  · exact hl _ _ (by omega) (by omega) (by omega)
theorem kx_ops_Q {q : Nat} {X1 : Nat → kX} {X2 : Nat → Nat → kX} {oc : Nat → kO} (hn : n ≤ 200) (hq : q ≤ n) (hp : p ≤ q) (hb12 : bg < 12) (hi : 1 ≤ i ∧ i ≤ 13)
    (hX1 : ∀ p', q < p' → p' ≤ n → kXQ n p' (bg + 1) en (X1 p'))
    (hX2 : ∀ p' k, q < p' → p' ≤ n → bg + 1 + k ≤ 12 → kXQ n p' (bg + 1 + k) (en + k) (X2 p' k))
    (hoc : ∀ p', q < p' → p' ≤ n → kPd n p' 16 (oc p') ∧ kTd 2 (oc p')) : kXQ n p bg en (kx_ops tp n i en X1 X2 oc q) := by
  have hle := kt_s_le tp n q hq
  unfold kx_ops
  split
  · rename_i c1
    have h1 := hX1 (kt_s tp n q + 1) (by omega) (by omega)
    split
    · rename_i x ho
      exact kXQ_l (h1.1 x.1 x.2 ho).1 (h1.1 x.1 x.2 ho).2.1 (h1.1 x.1 x.2 ho).2.2
    · rename_i p2 nds1 ho
      obtain ⟨y1, y2, y3, y4, y5⟩ := h1.2 p2 nds1 ho
      have hle2 := kt_s_le tp n p2 y2
      split
      · rename_i hi13
        have hw := kw_o_P (tp := tp) (p := p2) (oc := oc) hn y2 (fun p' z1 z2 => hoc p' (by omega) z2)
        unfold kx_wh
        split
        · rename_i x ho3
          exact kXQ_l (hw.1 x.1 x.2 ho3).1 (hw.1 x.1 x.2 ho3).2.1 (hw.1 x.1 x.2 ho3).2.2
        · rename_i p4 tk cd H ho3
          obtain ⟨z1, z2, z3, z4, z5, z6, z7⟩ := hw.2 p4 tk cd H ho3
          refine kXQ_r (by omega) z2 (by simp) (by simp only [List.length_append, List.length_singleton]; omega) (y5.snoc ?_ rfl (fun _ => z7) (fun z => absurd z (show ¬ 13 = 8 by decide)))
          simp only [kNf]
          exact ⟨by omega, fun z => by omega, fun _ => by omega, fun _ z => by omega, by omega, fun _ => by omega, fun _ z => by omega, fun _ => ⟨z5, z6⟩, fun z => absurd rfl z, z3, z4⟩
      · rename_i hi13
        split
        · rename_i hi9
          unfold kx_bi
          split
          · rename_i c2
            have h2 := hX2 (kt_s tp n p2 + 1) nds1.length (by omega) (by omega) (by omega)
            split
            · rename_i x ho2
              exact kXQ_l (h2.1 x.1 x.2 ho2).1 (h2.1 x.1 x.2 ho2).2.1 (h2.1 x.1 x.2 ho2).2.2
            · rename_i p4 nds2 ho2
              obtain ⟨z1, z2, z3, z4, z5⟩ := h2.2 p4 nds2 ho2
              have hle4 := kt_s_le tp n p4 z2
              split
              · refine kXQ_r (by omega) (by omega) (by simp only [List.length_append, List.length_singleton]; omega) (by simp only [List.length_append, List.length_singleton]; omega) ((y5.app z5).snoc ?_ rfl (fun z => absurd z hi13) (fun z => absurd (show i = 8 from z) (by omega)))
                simp only [kNf, List.length_append]
                exact ⟨by omega, fun z => by omega, fun _ => by omega, fun _ _ => by omega, by omega, fun _ => by omega, fun _ _ => by omega, fun z => absurd z hi13, fun _ => ⟨trivial, trivial⟩, Nat.zero_le _, Nat.zero_le _⟩
              · exact kXQ_l (by omega) (by omega) (by omega)
          · exact kXQ_l (by omega) (by omega) (by omega)
        · rename_i hi9
          unfold kx_un
          split
          · refine kXQ_r (by omega) (by omega) (by simp) (by simp only [List.length_append, List.length_singleton]; omega) (y5.snoc ?_ rfl (fun z => absurd z hi13) (fun _ => by show en + nds1.length - 1 + 1 = en + nds1.length; omega))
            simp only [kNf]
            exact ⟨by omega, fun z => by omega, fun _ => by omega, fun z _ => by omega, by omega, fun _ => by omega, fun z _ => by omega, fun z => absurd z hi13, fun _ => ⟨trivial, trivial⟩, Nat.zero_le _, Nat.zero_le _⟩
          · exact kXQ_l (by omega) (by omega) (by omega)
  · exact kXQ_l (by omega) (by omega) (by omega)
def XM (bg : Nat) : Nat := 46 + (12 - bg)
def XC (bg : Nat) : Nat := 60 + 3 * (12 - bg)
/-- both read an operator from p on alike, for each of the six questions -/
def kXS (n : Nat) (tp : Nat → Int32) (p bg en : Nat) : Prop := ∃ o, (∀ Q, Q < 6 → kXM (XM bg) n tp Q p bg en o) ∧ kXC (XC bg) n tp p bg en o ∧ kXQ n p bg en o
theorem kXS_ex (f : Nat → Nat → Nat → Prop) (P : Nat → Nat → kX → Prop) (h : ∀ p k, f p k 0 → ∃ o, P p k o) : ∃ X : Nat → Nat → kX, ∀ p k, f p k 0 → P p k (X p k) := by
  have hex : ∀ p k, ∃ o, f p k 0 → P p k o := fun p k => by
    by_cases c : f p k 0
    · obtain ⟨o, ho⟩ := h p k c
      exact ⟨o, fun _ => ho⟩
    · exact ⟨.inl (0, 0), fun z => absurd z c⟩
  exact ⟨fun p k => Classical.choose (hex p k), fun p k => Classical.choose_spec (hex p k)⟩
/-- EVERY OPERATOR IS READ ALIKE -/
theorem kXS_all (hn : n ≤ 200) : ∀ j p, n - p = j → p ≤ n → ∀ bg en, en ≤ bg → bg ≤ 12 → kXS n tp p bg en := by
  intro j
  induction j using Nat.strongRecOn with
  | ind j ih =>
    intro p hj hp bg en hbe hb12
    have hle := kt_s_le tp n p hp
    by_cases hw0 : kt_is tp n (kt_s tp n p) (kt_wd 0)
    · have hrl := kt_r_le kt_sm tp n (kt_s tp n p) hle.2
      have hr1 : kt_r kt_sm tp n (kt_s tp n p) = 1 := hw0.1
      exact ⟨_, fun Q hQ => (kXM_tb (d := 0) hp hQ hbe hb12 hw0).le (by unfold XM; omega), (kXC_tb (d := 0) hp hbe hb12 hw0).le (by unfold XC; omega), kx_tb_Q (by omega) hle.1 hb12⟩
    · by_cases hno : ∀ i, i < 14 → ¬ kt_is tp n (kt_s tp n p) (kt_wd i)
      · exact ⟨_, fun Q hQ => (kXM_no (d := 0) hp hno).le (by unfold XM; omega), (kXC_no (d := 0) hp hno).le (by unfold XC; omega), kXQ_l (by omega) (by omega) (by omega)⟩
      · obtain ⟨i, hi⟩ := Classical.not_forall.mp hno
        obtain ⟨hi14, hw⟩ : i < 14 ∧ kt_is tp n (kt_s tp n p) (kt_wd i) := ⟨Classical.byContradiction fun z => hi fun y => absurd y z, Classical.byContradiction fun z => hi fun _ => z⟩
        have hi1 : 1 ≤ i ∧ i ≤ 13 := ⟨by
          rcases Nat.eq_zero_or_pos i with z | z
          · rw [z] at hw; exact absurd hw hw0
          · exact z, by omega⟩
        have hrl := kt_r_le kt_sm tp n (kt_s tp n p) hle.2
        have hr1 : kt_r kt_sm tp n (kt_s tp n p) = (kt_wd i).length := hw.1
        obtain ⟨X2, hX2⟩ := kXS_ex (fun p' k _ => p < p' ∧ p' ≤ n ∧ bg + 1 + k ≤ 12) (fun p' k o => (∀ Q, Q < 6 → kXM (XM (bg + 1 + k)) n tp Q p' (bg + 1 + k) (en + k) o) ∧ kXC (XC (bg + 1 + k)) n tp p' (bg + 1 + k) (en + k) o ∧ kXQ n p' (bg + 1 + k) (en + k) o) (fun p' k z => ih (n - p') (by omega) p' rfl z.2.1 (bg + 1 + k) (en + k) (by omega) z.2.2)
        have hoc : ∃ oc : Nat → kO, ∀ p', p < p' → p' ≤ n → kMd (MP 0 + 2) 178 n tp p' 0 (oc p') ∧ kCd (CP 0 + 2) 2 n tp p' 0 0 0 0 31 (oc p') ∧ kPd n p' 16 (oc p') ∧ kTd 2 (oc p') := by
          have hex : ∀ p', ∃ o : kO, p < p' → p' ≤ n → kMd (MP 0 + 2) 178 n tp p' 0 o ∧ kCd (CP 0 + 2) 2 n tp p' 0 0 0 0 31 o ∧ kPd n p' 16 o ∧ kTd 2 o := fun p' => by
            by_cases c : p < p' ∧ p' ≤ n
            · obtain ⟨o, ho⟩ := (kS_all (tp := tp) hn (n - p') p' rfl c.2 0 (by omega)).2.2
              exact ⟨o, fun _ _ => ho⟩
            · exact ⟨.inl (0, 0), fun z1 z2 => absurd ⟨z1, z2⟩ c⟩
          exact ⟨fun p' => Classical.choose (hex p'), fun p' => Classical.choose_spec (hex p')⟩
        obtain ⟨oc, hoc⟩ := hoc
        refine ⟨if bg = 12 then .inl (3, kt_s tp n p) else kx_ops tp n i en (fun p' => X2 p' 0) X2 oc (kt_s tp n p + (kt_wd i).length), fun Q hQ => ?_, ?_, ?_⟩
        · refine kXM.le (kXM_op (d := 4 + (12 - bg)) (X1 := fun p' => X2 p' 0) (X2 := X2) (oc := oc) hp hQ hbe hb12 hi1 hw (fun p' z1 z2 z3 => ?_) (fun p' k z1 z2 z3 => ?_) (fun p' z1 z2 => ⟨(hoc p' z1 z2).1, (hoc p' z1 z2).2.2.1⟩)) (by unfold XM; omega)
          · have := hX2 p' 0 ⟨z1, z2, by omega⟩
            exact ⟨(this.1 Q hQ).le (by unfold XM; omega), this.2.2.P⟩
          · have := hX2 p' k ⟨z1, z2, by omega⟩
            exact ⟨(this.1 Q hQ).le (by unfold XM; omega), this.2.2.P⟩
        · by_cases cb : bg = 12
          · refine kXC.le (kXC_op (D := 57) (X1 := fun p' => X2 p' 0) (X2 := X2) (oc := oc) hp hbe hb12 hi1 hw (by omega) (fun p' z1 z2 z3 => by omega) (fun p' k z1 z2 z3 => by omega) (fun p' z1 z2 => ⟨(hoc p' z1 z2).2.1, (hoc p' z1 z2).2.2.1⟩)) (by unfold XC; omega)
          · refine kXC.le (kXC_op (D := 60 + 3 * (11 - bg)) (X1 := fun p' => X2 p' 0) (X2 := X2) (oc := oc) hp hbe hb12 hi1 hw (by omega) (fun p' z1 z2 z3 => ?_) (fun p' k z1 z2 z3 => ?_) (fun p' z1 z2 => ⟨(hoc p' z1 z2).2.1, (hoc p' z1 z2).2.2.1⟩)) (by unfold XC; omega)
            · have := hX2 p' 0 ⟨z1, z2, by omega⟩
              exact ⟨this.2.1.le (by unfold XC; omega), this.2.2.P⟩
            · have := hX2 p' k ⟨z1, z2, by omega⟩
              exact ⟨this.2.1.le (by unfold XC; omega), this.2.2.P⟩
        · by_cases cb : bg = 12
          · rw [if_pos cb]
            exact kXQ_l (by omega) (by omega) (by omega)
          · rw [if_neg cb]
            exact kx_ops_Q hn (by omega) (by omega) (by omega) hi1 (fun p' z1 z2 => (hX2 p' 0 ⟨by omega, z2, by omega⟩).2.2) (fun p' k z1 z2 z3 => (hX2 p' k ⟨by omega, z2, z3⟩).2.2) (fun p' z1 z2 => (hoc p' (by omega) z2).2.2)
end O10
