/-! ===== shelving: what both sides keep ===== -/
theorem kKy_cg {x : kN} {f f' : Nat → Nat} (h1 : x.1 ≠ 0 → f x.2.2.1 = f' x.2.2.1) (h2 : 9 ≤ x.1 → x.1 ≤ 12 → f x.2.2.2.1 = f' x.2.2.2.1) : kKy x f = kKy x f' := by
  unfold kKy
  by_cases z : x.1 = 0
  · have z9 : ¬ (9 ≤ x.1 ∧ x.1 ≤ 12) := by omega
    simp only [if_pos z, if_neg z9]
  · rw [h1 z]
    by_cases z9 : 9 ≤ x.1 ∧ x.1 ≤ 12
    · rw [h2 z9.1 z9.2]
    · simp only [if_neg z9]
/-- a node's key, its operands on shelves below N -/
theorem kKy_w {x : kN} {f : Nat → Nat} {i N : Nat} (hx : kNf 0 i x) (hf : ∀ j, j < i → f j < N) : kKw N (kKy x f) := by
  obtain ⟨n1, n2, n3, n4, n5, n6, n7, n8, n9, n10, n11⟩ := hx
  rw [Nat.zero_add] at n3 n4
  refine ⟨⟨n1, ⟨?_, fun z => if_neg z⟩, ?_, ?_, ?_, n10⟩, fun z => ?_, fun z1 z2 => ?_, fun z => if_neg z, fun z => if_pos z⟩
  · show (if x.1 = 0 then x.2.1 else 0) < 4
    split
    · rename_i z; exact n2 z
    · omega
  · show (if x.1 = 0 then 0 else f x.2.2.1 + 1) ≤ N
    split
    · omega
    · have := hf _ (n3 (by omega)); omega
  · show (if 9 ≤ x.1 ∧ x.1 ≤ 12 then f x.2.2.2.1 + 1 else 0) ≤ N
    split
    · rename_i z; have := hf _ (n4 z.1 z.2); omega
    · omega
  · intro c hc
    by_cases z : x.1 = 13
    · exact (n8 z).2 c hc
    · have hc' : c ∈ x.2.2.2.2.2.1 := hc
      rw [(n9 z).1] at hc'
      cases hc'
  · show 1 ≤ (if x.1 = 0 then 0 else f x.2.2.1 + 1)
    have z' : ¬ x.1 = 0 := z
    rw [if_neg z']; omega
  · show 1 ≤ (if 9 ≤ x.1 ∧ x.1 ≤ 12 then f x.2.2.2.1 + 1 else 0)
    rw [if_pos ⟨z1, z2⟩]; omega
def kSvo (nds : List kN) (N0 : Nat) (ky0 : Nat → kKey) (lv : Nat → Bool) (i : Nat) : Prop := (∀ s, s < N0 → (kSv nds N0 ky0 lv i).2.1 s = ky0 s) ∧ (∀ s, s < (kSv nds N0 ky0 lv i).1 → kKw s ((kSv nds N0 ky0 lv i).2.1 s)) ∧ (∀ j x, j < i → nds[j]? = some x → (kSv nds N0 ky0 lv i).2.1 ((kSv nds N0 ky0 lv i).2.2 j) = kKy x (kSv nds N0 ky0 lv i).2.2) ∧ (∀ s, N0 ≤ s → s < (kSv nds N0 ky0 lv i).1 → ∃ j, j < i ∧ (kSv nds N0 ky0 lv i).2.2 j = s) ∧ ∀ j, j < i → lv ((kSv nds N0 ky0 lv i).2.2 j) = true ∨ N0 ≤ (kSv nds N0 ky0 lv i).2.2 j
theorem kSv_ok {nds : List kN} {N0 : Nat} {ky0 : Nat → kKey} {lv : Nat → Bool} (hNl : kNl 0 nds) (hk0 : ∀ s, s < N0 → kKw s (ky0 s)) : ∀ i, i ≤ nds.length → kSvo nds N0 ky0 lv i := by
  intro i
  induction i with
  | zero =>
    intro _
    refine ⟨fun _ _ => rfl, fun s hs => hk0 s hs, fun j x hj => absurd hj (Nat.not_lt_zero j), fun s h1 h2 => ?_, fun j hj => absurd hj (Nat.not_lt_zero j)⟩
    have h2' : s < N0 := h2
    omega
  | succ i ih =>
    intro hi
    obtain ⟨a1, a2, a3, a4, a5⟩ := ih (by omega)
    obtain ⟨b1, b2, b3⟩ := kSv_N (nds := nds) (N0 := N0) (ky0 := ky0) (lv := lv) i (by omega)
    have hx : nds[i]? = some nds[i] := List.getElem?_eq_getElem (by omega)
    generalize nds[i] = x at hx
    have hle := kSx_le (nds := nds) (N0 := N0) (ky0 := ky0) (lv := lv) (i := i) (x := x)
    have hsp := kFd_sp (fun s => (lv s || Nat.ble N0 s) && decide ((kSv nds N0 ky0 lv i).2.1 s = kKy x (kSv nds N0 ky0 lv i).2.2)) (kSv nds N0 ky0 lv i).1
    have hsx : kSx nds N0 ky0 lv i x < (kSv nds N0 ky0 lv i).1 → (lv (kSx nds N0 ky0 lv i x) || Nat.ble N0 (kSx nds N0 ky0 lv i x)) = true ∧ (kSv nds N0 ky0 lv i).2.1 (kSx nds N0 ky0 lv i x) = kKy x (kSv nds N0 ky0 lv i).2.2 := fun z => by
      have := hsp.2 z
      rw [Bool.and_eq_true] at this
      exact ⟨this.1, of_decide_eq_true this.2⟩
    have hkx : kNf 0 i x := (hNl i x hx).1
    have hfj : ∀ j y, nds[j]? = some y → kNf 0 j y := fun j y hy => (hNl j y hy).1
    unfold kSvo
    rw [kSv_s hx]
    generalize kSx nds N0 ky0 lv i x = t at hle hsx
    generalize (kSv nds N0 ky0 lv i).1 = N at a2 a4 b1 b2 b3 hle hsx
    generalize (kSv nds N0 ky0 lv i).2.1 = ky at a1 a2 a3 hsx
    generalize (kSv nds N0 ky0 lv i).2.2 = sh at a3 a4 a5 b3 hsx
    have cg : ∀ j y, j ≤ i → nds[j]? = some y → kKy y sh = kKy y (fun j => if j = i then t else sh j) := fun j y hj hy => by
      obtain ⟨n1, n2, n3, n4, -⟩ := hfj j y hy
      rw [Nat.zero_add] at n3 n4
      refine kKy_cg (fun z => ?_) (fun z1 z2 => ?_)
      · have := n3 (by omega)
        exact (if_neg (by omega)).symm
      · have := n4 z1 z2
        exact (if_neg (by omega)).symm
    refine ⟨fun s hs => ?_, fun s hs => ?_, fun j y hj hy => ?_, fun s h1 h2 => ?_, fun j hj => ?_⟩
    · show (if s = N then _ else ky s) = _
      rw [if_neg (by omega)]; exact a1 s hs
    · have hs' : s < (if t < N then N else N + 1) := hs
      show kKw s (if s = N then kKy x sh else ky s)
      by_cases z : s = N
      · rw [if_pos z, z]
        exact kKy_w hkx b3
      · rw [if_neg z]
        refine a2 s ?_
        split at hs' <;> omega
    · show (if (if j = i then t else sh j) = N then kKy x sh else ky (if j = i then t else sh j)) = _
      rw [← cg j y (by omega) hy]
      by_cases z : j = i
      · subst z
        have : x = y := Option.some.inj (hx.symm.trans hy)
        rw [if_pos rfl, ← this]
        by_cases z2 : t = N
        · rw [if_pos z2]
        · rw [if_neg z2]; exact (hsx (by omega)).2
      · have := b3 j (by omega)
        rw [if_neg z, if_neg (by omega)]
        exact a3 j y (by omega) hy
    · have h2' : s < (if t < N then N else N + 1) := h2
      rcases Nat.lt_or_ge s N with c | c
      · obtain ⟨j, j1, j2⟩ := a4 s h1 c
        exact ⟨j, by omega, (if_neg (by omega)).trans j2⟩
      · have ht : ¬ t < N := fun z => by rw [if_pos z] at h2'; omega
        rw [if_neg ht] at h2'
        exact ⟨i, by omega, (if_pos rfl).trans (by omega)⟩
    · show lv (if j = i then t else sh j) = true ∨ N0 ≤ (if j = i then t else sh j)
      by_cases z : j = i
      · rw [if_pos z]
        rcases Nat.lt_or_ge t N with c | c
        · have := (hsx c).1
          rw [Bool.or_eq_true] at this
          rcases this with u | u
          · exact Or.inl u
          · exact Or.inr (Nat.le_of_ble_eq_true u)
        · exact Or.inr (by omega)
      · rw [if_neg z]; exact a5 j (by omega)
/-- a question asked -/
noncomputable def qQu (Q : kAq) (nds : List kN) : kAq := (qQ Q + 1, (fun q => if q = qQ Q then nds else qNd Q q), (fun q => if q = qQ Q then (kSv nds (qN Q) (qKy Q) (qLv Q) nds.length).2.2 else qSh Q q), (fun q => if q = qQ Q then false else qLf Q q), (kSv nds (qN Q) (qKy Q) (qLv Q) nds.length).1, (kSv nds (qN Q) (qKy Q) (qLv Q) nds.length).2.1, (fun s => if s < qN Q then qFr Q s else qFo Q), qFo Q)
section QU
variable {Q : kAq} {nds : List kN} {c : Nat}
theorem kWq.qu (w : kWq c Q) (h6 : qQ Q < 6) (hl : 1 ≤ nds.length ∧ nds.length ≤ 12) (hNl : kNl 0 nds) : kWq c (qQu Q nds) := by
  have hok := kSv_ok (lv := qLv Q) hNl (fun s hs => (w.2.2.2.1 s hs).1) nds.length (Nat.le_refl _)
  have hN := kSv_N (nds := nds) (N0 := qN Q) (ky0 := qKy Q) (lv := qLv Q) nds.length (Nat.le_refl _)
  obtain ⟨w1, w2, w3, w4, w5⟩ := w
  refine ⟨h6, ?_, w3, fun s hs => ⟨hok.2.1 s hs, ?_⟩, fun q hq => ?_⟩
  · show (kSv nds (qN Q) (qKy Q) (qLv Q) nds.length).1 ≤ 12 * (qQ Q + 1)
    omega
  · show (if s < qN Q then qFr Q s else qFo Q) ≤ c
    split
    · rename_i z; exact (w4 s z).2
    · exact w3
  · have hq' : q < qQ Q + 1 := hq
    show (1 ≤ (if q = qQ Q then nds else qNd Q q).length ∧ (if q = qQ Q then nds else qNd Q q).length ≤ 12) ∧ kNl 0 (if q = qQ Q then nds else qNd Q q) ∧ ∀ k x, (if q = qQ Q then nds else qNd Q q)[k]? = some x → (if q = qQ Q then (kSv nds (qN Q) (qKy Q) (qLv Q) nds.length).2.2 else qSh Q q) k < (kSv nds (qN Q) (qKy Q) (qLv Q) nds.length).1 ∧ (kSv nds (qN Q) (qKy Q) (qLv Q) nds.length).2.1 ((if q = qQ Q then (kSv nds (qN Q) (qKy Q) (qLv Q) nds.length).2.2 else qSh Q q) k) = kKy x (if q = qQ Q then (kSv nds (qN Q) (qKy Q) (qLv Q) nds.length).2.2 else qSh Q q)
    by_cases z : q = qQ Q
    · simp only [if_pos z]
      exact ⟨hl, hNl, fun k x hx => ⟨hN.2.2 k (kls_lt hx), hok.2.2.1 k x (kls_lt hx) hx⟩⟩
    · simp only [if_neg z]
      obtain ⟨u1, u2, u3⟩ := w5 q (by omega)
      refine ⟨u1, u2, fun k x hx => ?_⟩
      obtain ⟨v1, v2⟩ := u3 k x hx
      exact ⟨by omega, by rw [hok.1 _ v1]; exact v2⟩
theorem qC_ge (w : kWq c Q) {s : Nat} (hs : qN Q ≤ s) : qC Q s = 0 := by
  refine (kNum_0 _).mpr (fun q hq => ?_)
  unfold qU
  have : kRp (qSh Q q) s (qNd Q q).length = false := by
    cases hr : kRp (qSh Q q) s (qNd Q q).length with
    | false => rfl
    | true =>
      obtain ⟨j, hj, e⟩ := (kRp_iff _).mp hr
      obtain ⟨x, hx⟩ := kls_at hj
      have := ((w.2.2.2.2 q hq).2.2 j x hx).1
      omega
  rw [this, Bool.and_false]
theorem qQu_C {s : Nat} : qC (qQu Q nds) s = qC Q s + (if kRp (kSv nds (qN Q) (qKy Q) (qLv Q) nds.length).2.2 s nds.length = true then 1 else 0) := by
  have h1 : qU (qQu Q nds) s (qQ Q) = kRp (kSv nds (qN Q) (qKy Q) (qLv Q) nds.length).2.2 s nds.length := by
    show (!(if qQ Q = qQ Q then false else qLf Q (qQ Q)) && kRp (if qQ Q = qQ Q then (kSv nds (qN Q) (qKy Q) (qLv Q) nds.length).2.2 else qSh Q (qQ Q)) s (if qQ Q = qQ Q then nds else qNd Q (qQ Q)).length) = _
    simp only [if_pos]
    rfl
  have h2 : kNum (qU (qQu Q nds) s) (qQ Q) = kNum (qU Q s) (qQ Q) := kNum_cg _ (fun q hq => by
    show (!(if q = qQ Q then false else qLf Q q) && kRp (if q = qQ Q then (kSv nds (qN Q) (qKy Q) (qLv Q) nds.length).2.2 else qSh Q q) s (if q = qQ Q then nds else qNd Q q).length) = _
    simp only [if_neg (show ¬ q = qQ Q by omega)]
    rfl)
  show kNum (qU (qQu Q nds) s) (qQ Q) + (if qU (qQu Q nds) s (qQ Q) = true then 1 else 0) = _
  rw [h1, h2]
  rfl
/-- which shelves are there while a question is shelved -/
theorem kSv_lv (w : kWq c Q) (hNl : kNl 0 nds) {i s : Nat} (hi : i ≤ nds.length) (hs : s < (kSv nds (qN Q) (qKy Q) (qLv Q) i).1) : 0 < qC Q s + (if kRp (kSv nds (qN Q) (qKy Q) (qLv Q) i).2.2 s i = true then 1 else 0) ↔ (qLv Q s || Nat.ble (qN Q) s) = true := by
  have hok := kSv_ok (lv := qLv Q) hNl (fun s hs => (w.2.2.2.1 s hs).1) i hi
  rw [Bool.or_eq_true]
  rcases Nat.lt_or_ge s (qN Q) with c1 | c1
  · have hb : ¬ Nat.ble (qN Q) s = true := fun z => by have := Nat.le_of_ble_eq_true z; omega
    constructor
    · intro z
      refine Or.inl (decide_eq_true ?_)
      split at z
      · rename_i u
        obtain ⟨j, j1, j2⟩ := (kRp_iff _).mp u
        rcases hok.2.2.2.2 j j1 with v | v
        · rw [j2] at v; exact of_decide_eq_true v
        · omega
      · exact z
    · intro z
      have := of_decide_eq_true (z.resolve_right hb)
      omega
  · refine ⟨fun _ => Or.inr (Nat.ble_eq_true_of_le c1), fun _ => ?_⟩
    obtain ⟨j, j1, j2⟩ := hok.2.2.2.1 s c1 hs
    rw [if_pos ((kRp_iff _).mpr ⟨j, j1, j2⟩)]
    omega
end QU
