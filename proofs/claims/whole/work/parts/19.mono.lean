/-! ===== the small heap only grows ===== -/
theorem ka_br_or {c : ClassFile.Cond} {a b : Int32} {x y : Prop} (h : ka_br c a b x y) : x ∨ y := by
  cases c <;> simp only [ka_br] at h
  · by_cases e : a = b
    · exact Or.inl (h.1 e)
    · exact Or.inr (h.2 e)
  · by_cases e : a = b
    · exact Or.inr (h.2 e)
    · exact Or.inl (h.1 e)
  · by_cases e : a < b
    · exact Or.inl (h.1 e)
    · exact Or.inr (h.2 e)
  · by_cases e : a < b
    · exact Or.inr (h.2 e)
    · exact Or.inl (h.1 e)
  · by_cases e : b < a
    · exact Or.inl (h.1 e)
    · exact Or.inr (h.2 e)
  · by_cases e : b < a
    · exact Or.inr (h.2 e)
    · exact Or.inl (h.1 e)
theorem ka_sw_ex {a : Int32} {kk : Nat → Prop} {d : Nat} : ∀ (ts : List Nat) (lo : Int32), ka_sw a kk d lo ts → ∃ t, kk t
  | [], _, h => ⟨d, h⟩
  | t :: ts, lo, h => by
    by_cases e : a = lo
    · exact ⟨t, h.1 e⟩
    · exact ka_sw_ex ts (lo + 1) (h.2 e)
theorem ka_cond {b : Bool} {x : Prop} (h : cond b x False) : b = true ∧ x := by
  cases b with
  | false => exact h.elim
  | true => exact ⟨rfl, h⟩
theorem ka_okc_cat : ∀ (b : Nat) (l : List Value), ka_okc b l = true → (l.map fun v => v.category).sum ≤ b
  | b, [], _ => Nat.zero_le _
  | 0, _ :: _, h => by cases h
  | b + 1, v :: l, h => by
    cases v with
    | int a =>
      have := ka_okc_cat b l h
      rw [List.map_cons, List.sum_cons, show (Value.int a).category = 1 from rfl]
      omega
    | ref a =>
      have := ka_okc_cat b l h
      rw [List.map_cons, List.sum_cons, show (Value.ref a).category = 1 from rfl]
      omega
    | float a =>
      have := ka_okc_cat b l h
      rw [List.map_cons, List.sum_cons, show (Value.float a).category = 1 from rfl]
      omega
    | _ => cases h
theorem ka_okn_cat : ∀ (n : Nat) (l : List Value), ka_okn n l = true → n ≤ l.length ∧ ka_cat (l.drop n)
  | 0, l, h => ⟨Nat.zero_le _, ka_okc_cat 8 l h⟩
  | n + 1, [], h => by cases h
  | n + 1, _ :: l, h => by
    have := ka_okn_cat n l h
    exact ⟨Nat.succ_le_succ this.1, this.2⟩
section KM
variable {lk : Nat → List Nat} {call : Nat → List Value → ka_H → ka_R → ka_H → Prop} {hs : List (Nat × Nat × Nat × Nat × Nat × Nat)} {rt : Nat} {k : ka_C} {Rr : ka_R → ka_H → Prop} {N M : Nat}
theorem ka_call_mono {pc len m na : Nat} {L S : List Value} {h : ka_H} (hk : ∀ pc L S h, k pc L S h → h.1 ≤ N ∧ h.2.1 ≤ M) (hR : ∀ r h, Rr r h → h.1 ≤ N ∧ h.2.1 ≤ M) (hc : ∀ m as h r h', call m as h r h' → h.1 ≤ h'.1 ∧ h.2.1 ≤ h'.2.1) (hst : ka_call call hs pc len m na L S h k Rr) : h.1 ≤ N ∧ h.2.1 ≤ M := by
  obtain ⟨-, r, h', h1, h2⟩ := ka_cond hst
  have g := hc _ _ _ _ _ h1
  have g2 : h'.1 ≤ N ∧ h'.2.1 ≤ M := by
    unfold ka_aft at h2
    split at h2
    · exact hk _ _ _ _ h2
    · exact hk _ _ _ _ h2
    · rename_i e9 a9
      cases hb : Nat.blt e9 4 with
      | false => rw [hb] at h2; exact h2.elim
      | true =>
        rw [hb] at h2
        simp only [cond_true] at h2
        split at h2
        · exact hk _ _ _ _ h2
        · exact hR _ _ h2
  exact ⟨Nat.le_trans g.1 g2.1, Nat.le_trans g.2 g2.2⟩
theorem ka_calln_mono {pc len m na : Nat} {L S : List Value} {h : ka_H} (hk : ∀ pc L S h, k pc L S h → h.1 ≤ N ∧ h.2.1 ≤ M) (hc : ∀ m as h r h', call m as h r h' → h.1 ≤ h'.1 ∧ h.2.1 ≤ h'.2.1) (hst : ka_calln call pc len m na L S h k) : h.1 ≤ N ∧ h.2.1 ≤ M := by
  obtain ⟨-, v, h', h1, h2⟩ := ka_cond hst
  have g := hc _ _ _ _ _ h1
  have g2 : h'.1 ≤ N ∧ h'.2.1 ≤ M := by
    cases v <;> exact hk _ _ _ _ h2
  exact ⟨Nat.le_trans g.1 g2.1, Nat.le_trans g.2 g2.2⟩
theorem ka_inv_mono {pc len : Nat} {q : List Nat} {L S : List Value} {h : ka_H} (hk : ∀ pc L S h, k pc L S h → h.1 ≤ N ∧ h.2.1 ≤ M) (hR : ∀ r h, Rr r h → h.1 ≤ N ∧ h.2.1 ≤ M) (hc : ∀ m as h r h', call m as h r h' → h.1 ≤ h'.1 ∧ h.2.1 ≤ h'.2.1) (hst : ka_inv call hs pc len q L S h k Rr) : h.1 ≤ N ∧ h.2.1 ≤ M := by
  unfold ka_inv at hst
  split at hst
  · split at hst
    · exact ka_call_mono hk hR hc hst.2
    · exact hst.elim
  · exact ka_call_mono hk hR hc hst
  · split at hst
    · exact ka_calln_mono hk hc hst.2
    · exact hst.elim
  · split at hst
    · exact ka_calln_mono hk hc hst.2
    · exact hst.elim
  · exact ka_calln_mono hk hc hst
  · split at hst
    · exact hk _ _ _ _ (ka_cond hst).2.2
    · exact hst.elim
  · split at hst
    · have z := hk _ _ _ _ (ka_cond hst).2.2
      exact ⟨z.1, z.2⟩
    · exact hst.elim
  · split at hst
    · have := hk _ _ _ _ (ka_cond hst).2.2
      exact ⟨Nat.le_trans (Nat.le_succ _) this.1, Nat.le_trans (Nat.le_add_right _ _) this.2⟩
    · exact hst.elim
  · exact hst.elim
set_option maxHeartbeats 4000000 in
theorem ka_step_mono {i : Instr} {pc len : Nat} {ts : List Nat} {L S : List Value} {h : ka_H} (hk : ∀ pc L S h, k pc L S h → h.1 ≤ N ∧ h.2.1 ≤ M) (hR : ∀ r h, Rr r h → h.1 ≤ N ∧ h.2.1 ≤ M) (hc : ∀ m as h r h', call m as h r h' → h.1 ≤ h'.1 ∧ h.2.1 ≤ h'.2.1) (hst : ka_step lk call hs rt i pc len ts L S h k Rr) : h.1 ≤ N ∧ h.2.1 ≤ M := by
  unfold ka_step at hst
  split at hst
  all_goals try (first | exact hk _ _ _ _ hst | exact hst.elim | exact ka_inv_mono hk hR hc hst)
  all_goals (split at hst)
  all_goals try (first | exact hst.elim | exact hk _ _ _ _ hst | exact hk _ _ _ _ hst.2 | exact hR _ _ hst | exact hR _ _ hst.2)
  · rcases ka_br_or hst with z | z <;> exact hk _ _ _ _ z
  · rcases ka_br_or hst with z | z <;> exact hk _ _ _ _ z
  · obtain ⟨-, hst⟩ := hst
    rename_i t9 b9 a9 S9
    split at hst
    · by_cases e : a9 = b9
      · exact hk _ _ _ _ (hst.1 e)
      · exact hk _ _ _ _ (hst.2 e)
    · by_cases e : a9 = b9
      · exact hk _ _ _ _ (hst.2 e)
      · exact hk _ _ _ _ (hst.1 e)
  · rename_i t9 a9 S9
    by_cases e : a9 = 0
    · exact hk _ _ _ _ (hst.1 e)
    · exact hk _ _ _ _ (hst.2 e)
  · rename_i t9 a9 S9
    by_cases e : a9 = 0
    · exact hk _ _ _ _ (hst.2 e)
    · exact hk _ _ _ _ (hst.1 e)
  · obtain ⟨t, z⟩ := ka_sw_ex _ _ hst
    exact hk _ _ _ _ z
  all_goals
    (try have z := hk _ _ _ _ hst.2)
    (try have z := hR _ _ (ka_cond hst).2.2)
    first | exact ⟨z.1, z.2⟩ | exact ⟨Nat.le_trans (Nat.le_succ _) z.1, Nat.le_trans (Nat.le_add_right _ _) z.2⟩ | exact ⟨Nat.le_trans (Nat.le_add_right _ _) z.1, Nat.le_trans (Nat.le_add_right _ _) z.2⟩
theorem ka_wp_mono {cd : Nat → Option (Instr × Nat × List Nat)} {hE : ka_H} {r : ka_R} (hc : ∀ m as h r h', call m as h r h' → h.1 ≤ h'.1 ∧ h.2.1 ≤ h'.2.1) : ∀ (n pc : Nat) (L S : List Value) (h : ka_H),
    ka_wp lk call hs rt cd (fun _ => false) (fun _ _ _ _ => False) (fun r1 h1 => r1 = r ∧ h1 = hE) n pc L S h → h.1 ≤ hE.1 ∧ h.2.1 ≤ hE.2.1
  | 0, _, _, _, _, h => h.elim
  | n + 1, pc, L, S, h, hw => by
    unfold ka_wp at hw
    split at hw
    · exact hw.elim
    · exact ka_step_mono (fun pc L S h h9 => ka_wp_mono hc n pc L S h h9) (fun r h ⟨_, e⟩ => by rw [e]; exact ⟨Nat.le_refl _, Nat.le_refl _⟩) hc hw
end KM
theorem ka_run_mono : ∀ (d m : Nat) (as : List Value) (h : ka_H) (r : ka_R) (h' : ka_H), ka_run d m as h r h' → h.1 ≤ h'.1 ∧ h.2.1 ≤ h'.2.1
  | 0, _, _, _, _, _, q => q.elim
  | d + 1, m, as, h, r, h', ⟨_, n, q⟩ => ka_wp_mono (ka_run_mono d) n _ _ _ _ q
