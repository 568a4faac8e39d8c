/-! ===== the class's worker: a line worked, a shelf refreshed ===== -/
theorem kx_in_cg {L L' : Nat → Int32} (y : Nat) (hy : y < 16) (e : ∀ a, a < 16 → L a = L' a) : ∀ k, k ≤ 16 → ∀ a, a < 16 → kx_in y L k a = kx_in y L' k a
  | 0, _, a, ha => e a ha
  | k + 1, hk, a, ha => by
    have ih := kx_in_cg y hy e k (by omega)
    show kh_u _ _ _ a = kh_u _ _ _ a
    unfold kh_u
    rw [ih k (by omega), ih y hy, ih a ha]
theorem kx_ext_cg {L L' : Nat → Int32} (e : ∀ a, a < 16 → L a = L' a) : ∀ n, n ≤ 16 → ∀ a, a < 16 → kx_ext L n a = kx_ext L' n a
  | 0, _, a, ha => e a ha
  | n + 1, hn, a, ha => kx_in_cg n (by omega) (kx_ext_cg e n (by omega)) 16 (Nat.le_refl _) a ha
/-- worked in: fresh, links, and one array of counts -/
def kW (h : ka_H) (c : Nat) (F L C : Nat → Int32) : ka_H := ka_sF (ka_sF (ka_sF h 65 F) 66 L) c C
section KW
variable {h : ka_H} {c : Nat} {F L C : Nat → Int32}
theorem kW_65 (hc : c ≠ 65) (F' : Nat → Int32) : ka_sF (kW h c F L C) 65 F' = kW h c F' L C := by
  unfold kW
  rw [ka_sF_c _ hc, ka_sF_c (ka_sF h 65 F) (by decide : (66 : Nat) ≠ 65), ka_sF_F]
theorem kW_66 (hc : c ≠ 66) (L' : Nat → Int32) : ka_sF (kW h c F L C) 66 L' = kW h c F L' C := by
  unfold kW
  rw [ka_sF_c _ hc, ka_sF_F]
theorem kW_c (C' : Nat → Int32) : ka_sF (kW h c F L C) c C' = kW h c F L C' := by
  unfold kW
  rw [ka_sF_F]
theorem kW_I65 (hc : c ≠ 65) : ka_I (kW h c F L C) 65 = F := by
  unfold kW
  rw [ka_I_Fn _ _ (Ne.symm hc), ka_I_Fn _ _ (by decide), ka_I_F]
theorem kW_I66 (hc : c ≠ 66) : ka_I (kW h c F L C) 66 = L := by
  unfold kW
  rw [ka_I_Fn _ _ (Ne.symm hc), ka_I_F]
theorem kW_Ic : ka_I (kW h c F L C) c = C := ka_I_F _ _ _
theorem kW_In {a : Nat} (h1 : a ≠ 65) (h2 : a ≠ 66) (h3 : a ≠ c) : ka_I (kW h c F L C) a = ka_I h a := by
  unfold kW
  rw [ka_I_Fn _ _ h3, ka_I_Fn _ _ h2, ka_I_Fn _ _ h1]
theorem kW_0 : kW h c (ka_I h 65) (ka_I h 66) (ka_I h c) = h := by
  unfold kW
  rw [ka_sF_eta, ka_sF_eta, ka_sF_eta]
theorem kW_f {g : Nat × (Nat → Int32)} (hf : kf g h) (hc : (ka_K h c).1 = 30) : kf g (kW h c F L C) := kf_sF (kf_F (kf_F hf 65 rfl rfl) 66 rfl rfl) hc
end KW
def kh_m (ls : Int32) (old : Nat → Int32) (V : Nat → Nat → Int32) (n : Nat) : Nat → Int32 := fun j => if j < 16 * n ∧ bt ls (j / 16) = true then V (j / 16) (j % 16) else old j
def kv_am (ls : Int32) (old : Nat → Int32) (V : Nat → Nat → Int32) : Nat → Int32
  | 0 => 0
  | a + 1 => kv_am ls old V a ||| (if bt ls a = true ∧ ¬ kv_alt (fun b => old (16 * a + b)) (V a) 16 = 0 then (1 : Int32) <<< (nI a &&& 31) else 0)
theorem b_or0 (x : Int32) : x ||| 0 = x := b_ext fun i _ => by rw [b_or, b_0, Bool.or_false]
theorem kv_alt_cg {f f' v v' : Nat → Int32} : ∀ n, (∀ b, b < n → f b = f' b) → (∀ b, b < n → v b = v' b) → kv_alt f v n = kv_alt f' v' n
  | 0, _, _ => rfl
  | n + 1, h1, h2 => by
    show kv_alt f v n ||| _ = kv_alt f' v' n ||| _
    rw [kv_alt_cg n (fun b hb => h1 b (by omega)) (fun b hb => h2 b (by omega)), h1 n (by omega), h2 n (by omega)]
theorem kh_m_no {ls : Int32} {old : Nat → Int32} {V : Nat → Nat → Int32} {a : Nat} (hb : ¬ bt ls a = true) : kh_m ls old V (a + 1) = kh_m ls old V a := by
  funext j
  unfold kh_m
  by_cases e : j / 16 = a
  · rw [if_neg (fun z => hb (by rw [← e]; exact z.2)), if_neg (fun z => hb (by rw [← e]; exact z.2))]
  · by_cases e2 : j < 16 * a ∧ bt ls (j / 16) = true
    · rw [if_pos e2, if_pos ⟨by omega, e2.2⟩]
    · rw [if_neg e2, if_neg (fun z => e2 ⟨by omega, z.2⟩)]
theorem kh_m_yes {ls : Int32} {old F : Nat → Int32} {V : Nat → Nat → Int32} {a : Nat} (hb : bt ls a = true) (hF : ∀ b, b < 16 → F b = V a b) : kh_l (kh_m ls old V a) F a 16 = kh_m ls old V (a + 1) := by
  funext j
  unfold kh_l kh_m
  by_cases e : 16 * a ≤ j ∧ j < 16 * a + 16
  · have e1 : j / 16 = a := by omega
    rw [if_pos e, if_pos ⟨by omega, by rw [e1]; exact hb⟩, hF _ (by omega), e1, show j % 16 = j - 16 * a by omega]
  · rw [if_neg e]
    by_cases e2 : j < 16 * a ∧ bt ls (j / 16) = true
    · rw [if_pos e2, if_pos ⟨by omega, e2.2⟩]
    · rw [if_neg e2, if_neg (fun z => e2 ⟨by omega, z.2⟩)]
section W5
variable {g : Nat × (Nat → Int32)} {d : Nat} {h : ka_H} {R : ka_R → ka_H → Prop}
theorem kc_workLine (hf : kf g h) {s r1 r2 q op a : Nat} (hs : (ka_K h s).1 = 5) (ho : ka_P h s 1 = 1000000 + op) (h1 : 1 ≤ op) (h13 : op ≤ 13) (hq : ka_P h s 4 = q) (hQ : kr h q 16) (hr1 : kr h r1 256) (hr2 : kr h r2 256) (n1 : r1 ≠ 65) (n2 : r2 ≠ 65) (nq : q ≠ 65) (ha : a < 16)
    (hl : op = 8 → ka_I h 66 a = kx_ext (kx_0 (ka_I h r1)) 16 a)
    (e : R (.inl none) (ka_sF h 65 (kh_o (ka_I h 65) (kv_op op (ka_I h q) (ka_I h r1) (ka_I h r2) a) 16))) : kp_T (d + 3) 64 [.ref 63, .ref s, .ref r1, .ref r2, .int (nI a)] h R := by
  have hp : kq_p h s 1 = 1000000 + op := (kq_p_s hf s 1).trans ho
  have hf5 : ∀ F, kf g (ka_sF h 65 F) := fun F => kf_F hf 65 rfl rfl
  refine kd_in hf rfl rfl rfl (kd_seg kp_no 40 ⟨hs, ?_⟩)
  rw [hp]
  refine ⟨by rw [(ko_op hf (by omega)).1], ?_⟩
  refine kq_cn (kc_ordinal hf (op := op) (by omega)) hf ⟨ko_ld hf (by omega), ?_⟩
  rw [nI_clamp (by omega), (ko_sw hf op).2]
  rcases (by omega : (op = 1 ∨ op = 2 ∨ op = 13) ∨ op = 8 ∨ op = 9 ∨ (op = 10 ∨ op = 11 ∨ op = 12) ∨ (3 ≤ op ∧ op ≤ 7)) with h3 | h3 | h3 | h3 | h3
  · have ek : kv_op op (ka_I h q) (ka_I h r1) (ka_I h r2) a = kv_take op (ka_I h q a) (ka_I h r1) a := by
      funext b
      unfold kv_op
      rw [if_pos h3]
    rw [ek] at e
    rcases h3 with h3 | h3 | h3
    · rw [show ka_swm.getD op 0 = 1 by rw [h3]; rfl]
      refine ⟨fun _ => ?_, fun c => absurd rfl c⟩
      exact ⟨kK hf rfl rfl, kc_takeOver hf hs ho (by omega) hq hQ hr1 n1 nq ha ⟨hf5 _, e⟩⟩
    · rw [show ka_swm.getD op 0 = 2 by rw [h3]; rfl]
      refine ⟨fun c => absurd c (by decide), fun _ => ⟨fun _ => ?_, fun c => absurd rfl c⟩⟩
      exact ⟨kK hf rfl rfl, kc_takeOver hf hs ho (by omega) hq hQ hr1 n1 nq ha ⟨hf5 _, e⟩⟩
    · rw [show ka_swm.getD op 0 = 3 by rw [h3]; rfl]
      refine ⟨fun c => absurd c (by decide), fun _ => ⟨fun c => absurd c (by decide), fun _ => ⟨fun _ => ?_, fun c => absurd rfl c⟩⟩⟩
      exact ⟨kK hf rfl rfl, kc_takeOver hf hs ho (by omega) hq hQ hr1 n1 nq ha ⟨hf5 _, e⟩⟩
  · rw [show ka_swm.getD op 0 = 4 by rw [h3]; rfl]
    refine ⟨fun c => absurd c (by decide), fun _ => ⟨fun c => absurd c (by decide), fun _ => ⟨fun c => absurd c (by decide), fun _ => ⟨fun _ => ⟨kK hf rfl rfl, ?_⟩, fun c => absurd rfl c⟩⟩⟩⟩
    refine ⟨kr_in (⟨kK hf rfl rfl, kZ hf rfl rfl⟩ : kr h 66 16) ha (by omega), ?_⟩
    rw [nI_clamp (by omega)]
    have ek : kh_o (ka_I h 65) (kv_op op (ka_I h q) (ka_I h r1) (ka_I h r2) a) 16 = kh_o (ka_I h 65) (fun b => ka_I h 66 a >>> (nI b &&& 31) &&& 1) 16 := kh_o_cg fun b hb => by
      rw [b_bit _ (by omega : b < 32), hl h3]
      unfold kv_op
      rw [if_neg (by omega), if_pos h3]
    rw [ek] at e
    exact ⟨kK hf rfl rfl, kq_cv (kc_spread (s := ka_I h 66 a) hf) (hf5 _) e⟩
  · rw [show ka_swm.getD op 0 = 5 by rw [h3]; rfl]
    refine ⟨fun c => absurd c (by decide), fun _ => ⟨fun c => absurd c (by decide), fun _ => ⟨fun c => absurd c (by decide), fun _ => ⟨fun c => absurd c (by decide), fun _ => ⟨fun _ => ?_, fun c => absurd rfl c⟩⟩⟩⟩⟩
    have ek : kv_op op (ka_I h q) (ka_I h r1) (ka_I h r2) a = kv_join (ka_I h r1) (ka_I h r2) a := by
      funext b
      unfold kv_op
      rw [if_neg (by omega), if_neg (by omega), if_pos h3]
    rw [ek] at e
    exact ⟨kK hf rfl rfl, kc_joinLine hf hr1 hr2 n1 n2 ha ⟨hf5 _, e⟩⟩
  · have ek : kv_op op (ka_I h q) (ka_I h r1) (ka_I h r2) a = kv_put op (ka_I h r1) (ka_I h r2) a := by
      funext b
      unfold kv_op
      rw [if_neg (by omega), if_neg (by omega), if_neg (by omega), if_pos h3]
    rw [ek] at e
    have hput : kp_T (d + 2) 67 [.ref 63, .ref (kq_p h s 1), .ref r1, .ref r2, .int (nI a)] h (fun r h' => kf g h' ∧ (r = .inl none ∧ h' = ka_sF h 65 (kh_o (ka_I h 65) (kv_put op (ka_I h r1) (ka_I h r2) a) 16))) := by
      rw [hp]
      exact kc_putTogether hf (by omega) hr1 hr2 n1 n2 ha ⟨hf5 _, rfl, rfl⟩
    obtain ⟨r, h', hrun, hf', rfl, rfl⟩ := hput
    rcases h3 with h3 | h3 | h3
    · rw [show ka_swm.getD op 0 = 6 by rw [h3]; rfl]
      refine ⟨fun c => absurd c (by decide), fun _ => ⟨fun c => absurd c (by decide), fun _ => ⟨fun c => absurd c (by decide), fun _ => ⟨fun c => absurd c (by decide), fun _ => ⟨fun c => absurd c (by decide), fun _ => ⟨fun _ => ⟨hs, ?_⟩, fun c => absurd rfl c⟩⟩⟩⟩⟩⟩
      exact ⟨kK hf rfl rfl, _, _, hrun, hf', e⟩
    · rw [show ka_swm.getD op 0 = 7 by rw [h3]; rfl]
      refine ⟨fun c => absurd c (by decide), fun _ => ⟨fun c => absurd c (by decide), fun _ => ⟨fun c => absurd c (by decide), fun _ => ⟨fun c => absurd c (by decide), fun _ => ⟨fun c => absurd c (by decide), fun _ => ⟨fun c => absurd c (by decide), fun _ => ⟨fun _ => ⟨hs, ?_⟩, fun c => absurd rfl c⟩⟩⟩⟩⟩⟩⟩
      exact ⟨kK hf rfl rfl, _, _, hrun, hf', e⟩
    · rw [show ka_swm.getD op 0 = 8 by rw [h3]; rfl]
      refine ⟨fun c => absurd c (by decide), fun _ => ⟨fun c => absurd c (by decide), fun _ => ⟨fun c => absurd c (by decide), fun _ => ⟨fun c => absurd c (by decide), fun _ => ⟨fun c => absurd c (by decide), fun _ => ⟨fun c => absurd c (by decide), fun _ => ⟨fun c => absurd c (by decide), fun _ => ⟨fun _ => ⟨hs, ?_⟩, fun c => absurd rfl c⟩⟩⟩⟩⟩⟩⟩⟩
      exact ⟨kK hf rfl rfl, _, _, hrun, hf', e⟩
  · have hsv : ∀ i : Int32, i ∈ [(1 : Int32), 2, 3, 4, 5, 6, 7, 8] → ¬ ka_swm.getD op 0 = i := by
      rcases (by omega : op = 3 ∨ op = 4 ∨ op = 5 ∨ op = 6 ∨ op = 7) with z | z | z | z | z <;> rw [z] <;> decide
    refine ⟨fun c => absurd c (hsv 1 (by decide)), fun _ => ⟨fun c => absurd c (hsv 2 (by decide)), fun _ => ⟨fun c => absurd c (hsv 3 (by decide)), fun _ => ⟨fun c => absurd c (hsv 4 (by decide)), fun _ => ⟨fun c => absurd c (hsv 5 (by decide)), fun _ => ⟨fun c => absurd c (hsv 6 (by decide)), fun _ => ⟨fun c => absurd c (hsv 7 (by decide)), fun _ => ⟨fun c => absurd c (hsv 8 (by decide)), fun _ => ⟨hs, ?_⟩⟩⟩⟩⟩⟩⟩⟩⟩
    have hmk := kc_markOf (d := d) hf h3 hr1 ha
    rw [← hp] at hmk
    refine kp_opq hmk (fun w hw => ⟨hf, ?_⟩)
    have hrg := kv_mark_rg op (fun y => ka_I h r1 (16 * a + y))
    rw [← hw] at hrg
    have ek : ∀ s9 : Int32, s9 = (if w = -1 then (0 : Int32) else 1 <<< (w &&& 31)) → R (.inl none) (ka_sF h 65 (kh_o (ka_I h 65) (fun b => s9 >>> (nI b &&& 31) &&& 1) 16)) := by
      intro s9 hs9
      rw [hs9]
      rw [kh_o_cg (fun b hb => kv_mark_b hrg hb)]
      rw [kh_o_cg (v' := fun b => if w = nI b then 1 else 0) (fun b hb => by
        unfold kv_op
        rw [if_neg (by omega), if_neg (by omega), if_neg (by omega), if_neg (by omega), ← hw])] at e
      exact e
    refine ⟨fun c => ?_, fun c => ?_⟩
    · exact ⟨kK hf rfl rfl, kq_cv (kc_spread hf) (hf5 _) (ek _ (by rw [if_neg (c := w = -1) c]; rfl))⟩
    · exact ⟨kK hf rfl rfl, kq_cv (kc_spread hf) (hf5 _) (ek _ (by rw [if_pos (c := w = -1) c]; rfl))⟩
end W5
