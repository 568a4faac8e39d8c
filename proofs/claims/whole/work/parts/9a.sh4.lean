/-! ===== shelves: the class looks for one ===== -/
def ks_r (sb : Nat → Nat) (v : Nat) : Nat := if v = 0 then 0 else sb (v - 1)
/-- a shelf of the class, its five cells from b on: what never changes -/
def kSf (h : ka_H) (sb : Nat → Nat) (b num : Nat) (ky : kKey) (H : Nat → Nat → Bool) (tb : Int32) : Prop :=
  (103 ≤ b ∧ b + 5 ≤ h.1) ∧ (ka_K h b = (5, 14) ∧ ka_K h (b + 1) = (30, ky.2.2.2.2.length) ∧ ka_K h (b + 2) = (30, 256) ∧ ka_K h (b + 3) = (30, 256) ∧ ka_K h (b + 4) = (30, 16)) ∧
  (ka_P h b 1 = 1000000 + ky.1 ∧ ka_P h b 3 = b + 1 ∧ ka_P h b 4 = b + 4 ∧ ka_P h b 5 = ks_r sb ky.2.2.1 ∧ ka_P h b 6 = ks_r sb ky.2.2.2.1 ∧ ka_P h b 8 = b + 2 ∧ ka_P h b 9 = b + 3) ∧
  (ka_I h b 0 = nI num ∧ ka_I h b 2 = (if ky.1 = 0 then nI ky.2.1 else -1) ∧ ka_I h b 7 = tb) ∧ (∀ j, j < ky.2.2.2.2.length → ka_I h (b + 1) j = nI (ky.2.2.2.2.getD j 0)) ∧ (ky.1 = 13 → ∀ a c, a < 16 → c < 16 → bt (ka_I h (b + 4) a) c = H a c)
/-- a key as it may stand -/
def kKv (N : Nat) (ky : kKey) : Prop := ky.1 ≤ 13 ∧ (ky.2.1 < 4 ∧ (ky.1 ≠ 0 → ky.2.1 = 0)) ∧ ky.2.2.1 ≤ N ∧ ky.2.2.2.1 ≤ N ∧ (∀ c, c ∈ ky.2.2.2.2 → kt_vc c) ∧ ky.2.2.2.2.length ≤ 200
/-- where the shelves are -/
def kSb (N : Nat) (sb : Nat → Nat) : Prop := (∀ s, s < N → 103 ≤ sb s ∧ sb s < 1000000) ∧ ∀ s s', s < s' → s' < N → sb s + 5 ≤ sb s'
theorem kSb.inj {N : Nat} {sb : Nat → Nat} (h : kSb N sb) {s s' : Nat} (h1 : s < N) (h2 : s' < N) (e : sb s = sb s') : s = s' := by
  rcases Nat.lt_or_ge s s' with z | z
  · have := h.2 s s' z h2; omega
  · rcases Nat.eq_or_lt_of_le z with y | y
    · exact y.symm
    · have := h.2 s' s y h1; omega
theorem kSb.lt {N : Nat} {sb : Nat → Nat} (h : kSb N sb) {v : Nat} (h1 : v ≤ N) : ks_r sb v < 1000000 := by
  unfold ks_r
  split
  · omega
  · exact (h.1 (v - 1) (by omega)).2
theorem kSb.ri {N : Nat} {sb : Nat → Nat} (h : kSb N sb) {v v' : Nat} (h1 : v ≤ N) (h2 : v' ≤ N) (e : ks_r sb v = ks_r sb v') : v = v' := by
  unfold ks_r at e
  by_cases z : v = 0
  · by_cases z' : v' = 0
    · omega
    · rw [if_pos z, if_neg z'] at e
      have := (h.1 (v' - 1) (by omega)).1
      omega
  · by_cases z' : v' = 0
    · rw [if_neg z, if_pos z'] at e
      have := (h.1 (v - 1) (by omega)).1
      omega
    · rw [if_neg z, if_neg z'] at e
      have := h.inj (by omega) (by omega) e
      omega
section S4
variable {g : Nat × (Nat → Int32)} {d : Nat} {h : ka_H} {R : ka_R → ka_H → Prop} {k SC N : Nat} {x : kN} {f sb qc : Nat → Nat} {ky : Nat → kKey} {Hh : Nat → Nat → Nat → Bool} {tb : Nat → Int32}
theorem kc_alike (hf : kf g h) (hN : ka_I h 1 8 = nI N) (hN72 : N ≤ 72) (hc : kCn (ka_I h) (fun a => ka_P h a 0) k x SC) (hk : k < 12) (hSC : SC ≤ 200) (hsb : kSb N sb) (hP : ∀ s, s < N → ka_P h 68 s = sb s) (hS : ∀ s, s < N → kSf h sb (sb s) s (ky s) (Hh s) (tb s)) (hv : ∀ s, s < N → kKv N (ky s)) (vx : kKv N (kKy x f)) (hq : ∀ s, s < N → ka_I h (sb s) 11 = nI (qc s) ∧ qc s ≤ 6)
    (e1 : ∀ s, s < N → 0 < qc s → ky s = kKy x f → (∀ s', s' < s → ¬ (0 < qc s' ∧ ky s' = kKy x f)) → R (.inl (some (.ref (sb s)))) h)
    (e0 : (∀ s', s' < N → ¬ (0 < qc s' ∧ ky s' = kKy x f)) → R (.inl (some (.ref 0))) h) : kp_T (d + 2) 127 [.ref 1, .ref (39 + 2 * k), .ref (ks_r sb (kKy x f).2.2.1), .ref (ks_r sb (kKy x f).2.2.2.1)] h R := by
  have hK1 : (ka_K h 1).1 = 8 := kK hf rfl rfl
  have hK68 : (ka_K h (kq_p h 1 4)).1 = 34 := kK hf (a := 68) rfl rfl
  have hZ68 : (ka_K h (kq_p h 1 4)).2 = 72 := kZ hf (a := 68) rfl rfl
  have hKe : (ka_K h (39 + 2 * k)).1 = 3 := (kE hf hk).2.1
  have hc' := hc
  obtain ⟨c1, c2, -, -, -, -, -⟩ := hc'
  obtain ⟨v1, ⟨v2, v2'⟩, v3, v4, v5, v6⟩ := vx
  have main : ∀ m i, i + m = N → (∀ s', s' < i → ¬ (0 < qc s' ∧ ky s' = kKy x f)) → ∀ z, kd_ex g (d + 1) 127 R 3 [.ref 1, .ref (39 + 2 * k), .ref (ks_r sb (kKy x f).2.2.1), .ref (ks_r sb (kKy x f).2.2.2.1), .int (nI i), z] [] h := by
    intro m
    induction m with
    | zero =>
      intro i hi hno z
      refine kd_seg (fun p => Nat.beq p 3) 60 ⟨hK1, ?_⟩
      rw [hN]
      exact ⟨fun _ => e0 (fun s' h' => hno s' (by omega)), fun c => absurd c (nI_nlt (by omega) (by omega))⟩
    | succ m ih =>
      intro i hi hno z
      have hiN : i < N := by omega
      obtain ⟨⟨b1, b2⟩, ⟨k1, k2, -⟩, ⟨p1, p3, -, p5, p6, -⟩, ⟨-, i2, -⟩, sg, -⟩ := hS i hiN
      obtain ⟨w1, ⟨w2, w2'⟩, w3, w4, w5, w6⟩ := hv i hiN
      have hb := hsb.1 i hiN
      have hKs : (ka_K h (sb i)).1 = 5 := by rw [k1]
      have nx : ¬ (0 < qc i ∧ ky i = kKy x f) → ∀ z, kd_ex g (d + 1) 127 R 3 [.ref 1, .ref (39 + 2 * k), .ref (ks_r sb (kKy x f).2.2.1), .ref (ks_r sb (kKy x f).2.2.2.1), .int (nI i + 1), z] [] h := fun y z => by
        have := ih (i + 1) (by omega) (fun s' h' => by
          rcases Nat.lt_or_ge s' i with u | u
          · exact hno s' u
          · rw [show s' = i by omega]; exact y) z
        rw [nI_succ] at this
        exact this
      refine kd_seg (fun p => Nat.beq p 3) 60 ⟨hK1, ?_⟩
      rw [hN]
      refine ⟨fun c => absurd (nI_lt hiN (by omega)) c, fun _ => ⟨hK1, ⟨by rw [hK68]; decide, ?_⟩⟩⟩
      rw [hZ68]
      refine ⟨fun c => absurd (nI_lt (b := 72) (by omega) (by omega)) c, fun _ => ⟨hK1, ⟨⟨by rw [hK68]; decide, by rw [hK68]; decide, by rw [hZ68]; exact nI_in (N := 72) (by omega) (by omega)⟩, ?_⟩⟩⟩
      rw [nI_clamp (by omega), show ka_P h (kq_p h 1 4) i = sb i from hP i hiN]
      refine ⟨fun c => absurd c (show ¬ sb i = 0 by omega), fun _ => ⟨hKs, ?_⟩⟩
      rw [(hq i hiN).1]
      have hq6 := (hq i hiN).2
      refine ⟨fun c => nx (fun y => c (nI_lt (a := 0) y.1 (by omega))) _, fun c => ⟨hKs, ⟨hKe, ?_⟩⟩⟩
      have hqp : 0 < qc i := (nI_ltI (a := 0) (by omega) (by omega)).mp c
      rw [show kq_p h (sb i) 1 = _ from (kq_p_s hf _ _).trans p1, show kq_p h (39 + 2 * k) 0 = _ from (kq_p_s hf _ _).trans c1]
      refine ⟨⟨(show 1000000 + (ky i).1 < 1000014 by omega), (show 1000000 + x.1 < 1000014 by have : x.1 ≤ 13 := v1; omega)⟩, fun c => nx (fun y => c (by rw [y.2]; rfl)) _, fun c => ⟨hKs, ⟨hKe, ?_⟩⟩⟩
      have q1 : (ky i).1 = (kKy x f).1 := by
        have : 1000000 + (ky i).1 = 1000000 + x.1 := c
        show (ky i).1 = x.1
        omega
      have c2' : ka_I h (39 + 2 * k) 1 = (if (kKy x f).1 = 0 then nI (kKy x f).2.1 else -1) := c2.trans (by
        show _ = (if x.1 = 0 then nI (if x.1 = 0 then x.2.1 else 0) else -1)
        by_cases z : x.1 = 0
        · simp only [if_pos z]
        · simp only [if_neg z])
      rw [i2, c2']
      refine ⟨fun c => nx (fun y => c (by rw [y.2])) _, fun c => ⟨hKs, ?_⟩⟩
      have q2 : (ky i).2.1 = (kKy x f).2.1 := by
        by_cases z : (kKy x f).1 = 0
        · rw [if_pos z, if_pos (q1.trans z)] at c
          exact (nI_eq (by omega) (by omega)).mp c
        · rw [v2' z, w2' (by rw [q1]; exact z)]
      rw [show kq_p h (sb i) 5 = _ from (kq_p_s hf _ _).trans p5]
      have r1 := hsb.lt w3
      have r2 := hsb.lt v3
      have r3 := hsb.lt w4
      have r4 := hsb.lt v4
      refine ⟨⟨Nat.lt_trans r1 (by decide), Nat.lt_trans r2 (by decide)⟩, fun c => nx (fun y => c (by rw [y.2])) _, fun c => ⟨hKs, ?_⟩⟩
      have q3 := hsb.ri w3 v3 c
      rw [show kq_p h (sb i) 6 = _ from (kq_p_s hf _ _).trans p6]
      refine ⟨⟨Nat.lt_trans r3 (by decide), Nat.lt_trans r4 (by decide)⟩, fun c => nx (fun y => c (by rw [y.2])) _, fun c => ⟨hK1, ⟨hKs, ⟨kK hf (a := 11) rfl rfl, ?_⟩⟩⟩⟩
      have q4 := hsb.ri w4 v4 c
      rw [show kq_p h (sb i) 3 = _ from (kq_p_s hf _ _).trans p3]
      refine kc_hasSigns (L := (ky i).2.2.2.2) hf hc hk hSC ⟨by rw [k2], by rw [k2]⟩ w6 sg v5 w5 (fun y => ⟨hf, ⟨fun c => absurd c (by decide), fun _ => ?_⟩⟩) (fun y => ⟨hf, ⟨fun _ => nx (fun u => y (by rw [u.2]; rfl)) _, fun c => absurd rfl c⟩⟩)
      exact e1 i hiN hqp (Prod.ext q1 (Prod.ext q2 (Prod.ext q3 (Prod.ext q4 y.symm)))) hno
  refine kd_in hf rfl rfl rfl (kd_seg (fun p => Nat.beq p 3) 20 ?_)
  exact main N 0 (Nat.zero_add _) (fun s' h' => absurd h' (Nat.not_lt_zero _)) _
end S4
