/-! ===== operators: the reference's words, tables, wheres ===== -/
def kt_Wl : List Int32 := [20, 209200, 15813, 3659220, 20141, 12748404, 445780357, 441972, 409072, 343342, 1156, 398963, 81544, 24385093]
theorem kt_Wk {tp : Nat → Int32} {n p i : Nat} (hi : i < 14) : kt_w tp n p = kt_Wl.getD i 0 ↔ kt_is tp n p (kt_wd i) :=
  kt_w_is (kt_wd i) (kt_Wl.getD i 0) ((by decide : ∀ i, i < 14 → (kt_wd i).length ≤ 6) i hi) ((by decide : ∀ i, i < 14 → 1 ≤ (kt_wd i).length) i hi) ((by decide : ∀ i, i < 14 → ∀ c, c ∈ kt_wd i → 97 ≤ c ∧ c ≤ 122) i hi) ((by decide : ∀ i, i < 14 → kt_Wl.getD i 0 = nI (kt_hl ((kt_wd i).map (fun c => c - 96)) 0)) i hi)
theorem kt_kind_is {tp : Nat → Int32} {n p i : Nat} (hi : i < 14) (h : kt_is tp n p (kt_wd i)) : kt_kind (kt_w tp n p) = nI i := by
  rw [(kt_Wk hi).mpr h]
  exact (by decide : ∀ i, i < 14 → kt_kind (kt_Wl.getD i 0) = nI i) i hi
theorem kt_kind_no {tp : Nat → Int32} {n p : Nat} (h : ∀ i, i < 14 → ¬ kt_is tp n p (kt_wd i)) : kt_kind (kt_w tp n p) = -1 := by
  have h2 : ∀ i, i < 14 → ¬ kt_w tp n p = kt_Wl.getD i 0 := fun i hi z => h i hi ((kt_Wk hi).mp z)
  generalize kt_w tp n p = w at h2
  unfold kt_kind
  rw [if_neg (show ¬ w = 20 from h2 0 (by decide)), if_neg (show ¬ w = 209200 from h2 1 (by decide)), if_neg (show ¬ w = 15813 from h2 2 (by decide)), if_neg (show ¬ w = 3659220 from h2 3 (by decide)), if_neg (show ¬ w = 20141 from h2 4 (by decide)), if_neg (show ¬ w = 12748404 from h2 5 (by decide)), if_neg (show ¬ w = 445780357 from h2 6 (by decide)), if_neg (show ¬ w = 441972 from h2 7 (by decide)), if_neg (show ¬ w = 409072 from h2 8 (by decide)), if_neg (show ¬ w = 343342 from h2 9 (by decide)), if_neg (show ¬ w = 1156 from h2 10 (by decide)), if_neg (show ¬ w = 398963 from h2 11 (by decide)), if_neg (show ¬ w = 81544 from h2 12 (by decide)), if_neg (show ¬ w = 24385093 from h2 13 (by decide))]
section O2
variable {g : Nat × (Nat → Int32)} {d : Nat} {h : ka_H} {s : Nat → Nat → Int32} {R : ka_R → ka_H → Prop} {n p Q bg en : Nat} {tp : Nat → Int32}
theorem kc_expr0 (hf : kf g h) (hb : ¬ s 72 24 = -1) : kp_T (d + 2) 172 [.ref 72] (kms h s) (kp_is (.int 0) (kms h s)) := by
  refine kq_in (kms_f hf) rfl rfl rfl (kq_seg kp_no 20 ?_)
  exact kq_ci (kc_fine0 hf hb) (kms_f hf) ⟨fun c => absurd rfl c, fun _ => ⟨trivial, rfl, rfl⟩⟩
theorem kc_isNoTable (hf : kf g h) (hT : kT h n tp) (hp : s 72 23 = nI p) (hpn : p + 1 ≤ n) : kp_T (d + 2) 173 [.ref 72] (kms h s) (kp_is (.int (kp_b (1 < kt_r kt_dg tp n (p + 1) ∨ (kt_r kt_dg tp n (p + 1) = 1 ∧ 51 < tp (p + 1))))) (kms h s)) := by
  obtain ⟨hn, h200, htp, -⟩ := hT
  have hle := kt_r_le kt_dg tp n (p + 1) hpn
  have hrd : ka_I (kms h s) 72 23 = nI p := hp
  have hrn : ka_I (kms h s) 72 22 = nI n := (kms_N rfl).trans hn
  have hix : ∀ L, nI p + Int32.ofInt 1 + nI L = nI (p + 1 + L) := fun L => by rw [show nI p + Int32.ofInt 1 = nI (p + 1) from (nI_succ p).symm, nI_add]
  have j42 : kq_ex g (d + 1) 173 (kp_is (.int (kp_b (1 < kt_r kt_dg tp n (p + 1) ∨ (kt_r kt_dg tp n (p + 1) = 1 ∧ 51 < tp (p + 1))))) (kms h s)) 42 [.ref 72, .int (nI (kt_r kt_dg tp n (p + 1)))] [] (kms h s) := by
    refine kq_seg kp_no 20 ⟨fun c => ?_, fun c => ⟨fun c2 => ?_, fun c2 => ⟨?_, ?_⟩⟩⟩
    · rw [kp_bT (Or.inl ((nI_ltI (a := 1) (by omega) (by omega)).mp c))]; exact ⟨Or.inr rfl, rfl, rfl⟩
    · rw [kp_bF (fun z => by
        rcases z with z | z
        · exact c (nI_lt (a := 1) z (by omega))
        · exact c2 (by rw [z.1]; rfl))]; exact ⟨Or.inl rfl, rfl, rfl⟩
    · rw [hrd]
      have h1 : kt_r kt_dg tp n (p + 1) = 1 := (nI_eq (b := 1) (by omega) (by omega)).mp c2
      rw [show nI p + Int32.ofInt 1 = nI (p + 1) from (nI_succ p).symm]
      exact nI_in (N := 200) (by omega) (by omega)
    · have h1 : kt_r kt_dg tp n (p + 1) = 1 := (nI_eq (b := 1) (by omega) (by omega)).mp c2
      rw [hrd, show nI p + Int32.ofInt 1 = nI (p + 1) from (nI_succ p).symm, nI_clamp (by omega), show ka_I (kms h s) (kq_p (kms h s) 72 29) (p + 1) = tp (p + 1) from (kms_N (a := 89) rfl).trans (htp _ (by omega))]
      refine ⟨fun (c3 : ¬ 51 < tp (p + 1)) => ?_, fun (c3 : 51 < tp (p + 1)) => ?_⟩
      · rw [kp_bF (fun z => by
          rcases z with z | z
          · omega
          · exact c3 z.2)]; exact ⟨Or.inl rfl, rfl, rfl⟩
      · rw [kp_bT (Or.inr ⟨h1, c3⟩)]; exact ⟨Or.inr rfl, rfl, rfl⟩
  have main : ∀ k L, p + 1 + L = k → k ≤ n → L + kt_r kt_dg tp n k = kt_r kt_dg tp n (p + 1) → kq_ex g (d + 1) 173 (kp_is (.int (kp_b (1 < kt_r kt_dg tp n (p + 1) ∨ (kt_r kt_dg tp n (p + 1) = 1 ∧ 51 < tp (p + 1))))) (kms h s)) 2 [.ref 72, .int (nI L)] [] (kms h s) := by
    refine kt_r_ind (q := kt_dg) (tp := tp) (n := n) (fun k hk L hL hkn hr => ?_) (fun k hk ne L hL hkn hr => ?_) (fun k hk eq ih L hL hkn hr => ?_)
    · rw [kt_r_ge hk, Nat.add_zero] at hr
      refine kq_seg (fun p => Nat.beq p 42) 20 ⟨fun _ => by rw [hr]; exact j42, fun c => ?_⟩
      rw [hrd, hrn, hix, hL] at c
      exact absurd c (nI_nlt hk (by omega))
    · rw [kt_r_no ne, Nat.add_zero] at hr
      refine kq_seg (fun p => Nat.beq p 42) 20 ⟨fun _ => by rw [hr]; exact j42, fun c => ⟨by rw [hrd, hix, hL]; exact nI_in (N := 200) (by omega) (by omega), ?_⟩⟩
      rw [hrd, hix, hL, nI_clamp (by omega), show ka_I (kms h s) (kq_p (kms h s) 72 29) k = tp k from (kms_N (a := 89) rfl).trans (htp _ hk)]
      refine kq_ci (kc_isDigit (kms_f hf)) (kms_f hf) ?_
      rw [if_neg ne]
      exact ⟨fun _ => by rw [hr]; exact j42, fun c => absurd rfl c⟩
    · rw [kt_r_st hk eq, ← Nat.add_assoc, Nat.add_right_comm] at hr
      refine kq_seg (fun p => Nat.beq p 2) 40 ⟨fun c => ?_, fun c => ⟨by rw [hrd, hix, hL]; exact nI_in (N := 200) (by omega) (by omega), ?_⟩⟩
      · rw [hrd, hrn, hix, hL] at c
        exact absurd (nI_lt hk (by omega)) c
      · rw [hrd, hix, hL, nI_clamp (by omega), show ka_I (kms h s) (kq_p (kms h s) 72 29) k = tp k from (kms_N (a := 89) rfl).trans (htp _ hk)]
        refine kq_ci (kc_isDigit (kms_f hf)) (kms_f hf) ?_
        rw [if_pos eq]
        refine ⟨fun c => absurd c (by decide), fun _ => ?_⟩
        have := ih (L + 1) (by omega) (by omega) hr
        rw [nI_succ] at this
        exact this
  exact kq_in (kms_f hf) rfl rfl rfl (kq_seg (fun p => Nat.beq p 2) 4 (main (p + 1) 0 rfl hpn (by omega)))
theorem kc_readTable (hf : kf g h) (hT : kT h n tp) (hQ : ka_I h 72 9 = nI Q) (hQ6 : Q < 6) (hp : s 72 23 = nI p) (hpn : p ≤ n) (hb : s 72 24 = -1) (hen : s 79 Q = nI en) (h12 : en < 12)
    (e1 : ¬ (p < n ∧ kt_dg (tp p) = true) → R (kp_ri 0) (kms h (kt_bad s 1 (nI p)))) (e2 : p < n → kt_dg (tp p) = true → R (kp_ri (nI en)) (kms h (kt_nd (kt_at s (p + 1)) (12 * Q + en) Q en 0 (tp p - 48) (-1) (-1)))) : kp_T (d + 2) 174 [.ref 72] (kms h s) R := by
  obtain ⟨hn, h200, htp, -⟩ := hT
  have hrd : ka_I (kms h s) 72 23 = nI p := hp
  have hrn : ka_I (kms h s) 72 22 = nI n := (kms_N rfl).trans hn
  have j26 : ¬ (p < n ∧ kt_dg (tp p) = true) → kq_ex g (d + 1) 174 R 26 [.ref 72] [] (kms h s) := fun z => by
    refine kq_seg kp_no 10 ?_
    have hwr : kp_T (d + 1) 163 [.ref 72, .int 1, .int (ka_I (kms h s) 72 23)] (kms h s) (kp_vo (kms h (kt_bad s 1 (nI p)))) := by
      rw [hrd]
      exact kc_wrong hf hb
    exact kq_cv hwr (kms_f hf) ⟨trivial, e1 z⟩
  have j47 : p < n → kt_dg (tp p) = true → kq_ex g (d + 1) 174 R 47 [.ref 72] [] (kms h (kt_at s (p + 1))) := fun z1 z2 => by
    refine kq_seg kp_no 20 ⟨?_, ?_⟩
    · rw [show ka_I (kms h (kt_at s (p + 1))) 72 23 = nI (p + 1) from rfl, show nI (p + 1) - Int32.ofInt 1 = nI p from nI_pred p]
      exact nI_in (N := 200) (by omega) (by omega)
    · rw [show ka_I (kms h (kt_at s (p + 1))) 72 23 = nI (p + 1) from rfl, show nI (p + 1) - Int32.ofInt 1 = nI p from nI_pred p, nI_clamp (by omega), show ka_I (kms h (kt_at s (p + 1))) (kq_p (kms h (kt_at s (p + 1))) 72 29) p = tp p from (kms_N (a := 89) rfl).trans (htp _ z1)]
      exact kc_node (s := kt_at s (p + 1)) hf hQ hQ6 hen h12 ⟨kms_f hf, ⟨trivial, e2 z1 z2⟩⟩
  refine kq_in (kms_f hf) rfl rfl rfl (kq_seg (fun p => Nat.beq p 26 || Nat.beq p 47) 30 ⟨fun c => ?_, fun c => ⟨?_, ?_⟩⟩)
  · rw [hrd, hrn] at c
    exact j26 (fun z => c (nI_lt z.1 (by omega)))
  · rw [hrd, hrn] at c
    rw [hrd]
    exact nI_in (N := 200) (by have := (nI_ltI (by omega) (by omega)).mp c; omega) (by omega)
  · rw [hrd, hrn] at c
    have hlt : p < n := (nI_ltI (by omega) (by omega)).mp c
    rw [hrd, nI_clamp (by omega), show ka_I (kms h s) (kq_p (kms h s) 72 29) p = tp p from (kms_N (a := 89) rfl).trans (htp _ hlt)]
    refine kq_ci (kc_isDigit (kms_f hf)) (kms_f hf) ?_
    by_cases z : kt_dg (tp p) = true
    · rw [if_pos z]
      refine ⟨fun _ => ?_, fun c => absurd c (by decide)⟩
      have := j47 hlt z
      have ew : ka_sI (kms h s) 72 23 (s 72 23 + 1) = kms h (kt_at s (p + 1)) := by
        rw [kms_sI _ rfl, hp, ← nI_succ]
      rw [← ew] at this
      exact this
    · rw [if_neg z]
      exact ⟨fun c => absurd rfl c, fun _ => j26 (fun y => z y.2)⟩
end O2
