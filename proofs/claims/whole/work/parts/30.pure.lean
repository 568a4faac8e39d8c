/-! ===== THE PURE SIDE: a step has one way on, or one end ===== -/
section KP
variable {lk : Nat → List Nat} {call : Nat → List Value → ka_H → ka_R → ka_H → Prop} {hs : List (Nat × Nat × Nat × Nat × Nat × Nat)} {rt : Nat} {k : ka_C} {Rr : ka_R → ka_H → Prop}
/-- call' can do what call can -/
def kp_le (call call' : Nat → List Value → ka_H → ka_R → ka_H → Prop) : Prop := ∀ m as h r h', call m as h r h' → call' m as h r h'
def kp_nx (call : Nat → List Value → ka_H → ka_R → ka_H → Prop) (k : ka_C) (Rr : ka_R → ka_H → Prop) (st : (Nat → List Value → ka_H → ka_R → ka_H → Prop) → ka_C → (ka_R → ka_H → Prop) → Prop) : Prop :=
  (∃ pc' L' S' h', k pc' L' S' h' ∧ ∀ call' k' R', kp_le call call' → k' pc' L' S' h' → st call' k' R') ∨ (∃ r h', Rr r h' ∧ ∀ call' k' R', kp_le call call' → R' r h' → st call' k' R')
theorem kp_call_nx {pc len m na : Nat} {L S : List Value} {h : ka_H} (hst : ka_call call hs pc len m na L S h k Rr) : kp_nx call k Rr (fun call' k' R' => ka_call call' hs pc len m na L S h k' R') := by
  obtain ⟨hok, r, h', hc, ha⟩ := ka_cond hst
  have back : ∀ (call' : Nat → List Value → ka_H → ka_R → ka_H → Prop) (k' : ka_C) (R' : ka_R → ka_H → Prop), kp_le call call' → ka_aft hs pc len L (S.drop na) k' R' r h' → ka_call call' hs pc len m na L S h k' R' := by
    intro call' k' R' hle hk
    unfold ka_call
    rw [hok]
    exact ⟨r, h', hle _ _ _ _ _ hc, hk⟩
  cases r with
  | inl v =>
    cases v with
    | none => exact Or.inl ⟨_, _, _, _, ha, fun call' k' R' hle hk => back call' k' R' hle hk⟩
    | some w => exact Or.inl ⟨_, _, _, _, ha, fun call' k' R' hle hk => back call' k' R' hle hk⟩
  | inr y =>
    obtain ⟨e, a⟩ := y
    unfold ka_aft at ha
    obtain ⟨hb, ha⟩ := ka_cond ha
    cases hf : ka_fh hs pc e with
    | none =>
      rw [hf] at ha
      refine Or.inr ⟨_, _, ha, fun call' k' R' hle hk => back call' k' R' hle ?_⟩
      unfold ka_aft
      simp only [hb, hf, cond_true]
      exact hk
    | some q =>
      obtain ⟨lc, t⟩ := q
      rw [hf] at ha
      refine Or.inl ⟨_, _, _, _, ha, fun call' k' R' hle hk => back call' k' R' hle ?_⟩
      unfold ka_aft
      simp only [hb, hf, cond_true]
      exact hk
theorem kp_calln_nx {pc len m na : Nat} {L S : List Value} {h : ka_H} (hst : ka_calln call pc len m na L S h k) : kp_nx call k Rr (fun call' k' _ => ka_calln call' pc len m na L S h k') := by
  obtain ⟨hok, v, h', hc, ha⟩ := ka_cond hst
  cases v with
  | none =>
    refine Or.inl ⟨_, _, _, _, ha, fun call' k' R' hle hk => ?_⟩
    unfold ka_calln
    rw [hok]
    exact ⟨none, h', hle _ _ _ _ _ hc, hk⟩
  | some w =>
    refine Or.inl ⟨_, _, _, _, ha, fun call' k' R' hle hk => ?_⟩
    unfold ka_calln
    rw [hok]
    exact ⟨some w, h', hle _ _ _ _ _ hc, hk⟩
theorem kp_inv_nx {pc len : Nat} {q : List Nat} {L S : List Value} {h : ka_H} (hst : ka_inv call hs pc len q L S h k Rr) : kp_nx call k Rr (fun call' k' R' => ka_inv call' hs pc len q L S h k' R') := by
  unfold ka_inv at hst
  split at hst
  · split at hst
    · rename_i heq
      obtain ⟨h1, h2⟩ := hst
      rcases kp_call_nx h2 with ⟨a, b, c, d, e, f⟩ | ⟨a, b, e, f⟩
      · refine Or.inl ⟨a, b, c, d, e, fun call' k' R' hle hk => ?_⟩
        simp only [ka_inv, heq]
        exact ⟨h1, f call' k' R' hle hk⟩
      · refine Or.inr ⟨a, b, e, fun call' k' R' hle hk => ?_⟩
        simp only [ka_inv, heq]
        exact ⟨h1, f call' k' R' hle hk⟩
    · exact hst.elim
  · exact kp_call_nx hst
  · split at hst
    · rename_i heq
      obtain ⟨h1, h2⟩ := hst
      rcases kp_calln_nx (Rr := Rr) h2 with ⟨a, b, c, d, e, f⟩ | ⟨a, b, e, f⟩
      · refine Or.inl ⟨a, b, c, d, e, fun call' k' R' hle hk => ?_⟩
        simp only [ka_inv, heq]
        exact ⟨h1, f call' k' R' hle hk⟩
      · refine Or.inr ⟨a, b, e, fun call' k' R' hle hk => ?_⟩
        simp only [ka_inv, heq]
        exact ⟨h1, f call' k' R' hle hk⟩
    · exact hst.elim
  · split at hst
    · rename_i heq
      obtain ⟨h1, h2⟩ := hst
      rcases kp_calln_nx (Rr := Rr) h2 with ⟨a, b, c, d, e, f⟩ | ⟨a, b, e, f⟩
      · refine Or.inl ⟨a, b, c, d, e, fun call' k' R' hle hk => ?_⟩
        simp only [ka_inv, heq]
        exact ⟨h1, f call' k' R' hle hk⟩
      · refine Or.inr ⟨a, b, e, fun call' k' R' hle hk => ?_⟩
        simp only [ka_inv, heq]
        exact ⟨h1, f call' k' R' hle hk⟩
    · exact hst.elim
  · exact kp_calln_nx hst
  · split at hst
    · obtain ⟨h1, h2, h3⟩ := ka_cond hst
      refine Or.inl ⟨_, _, _, _, h3, fun call' k' R' hle hk => ?_⟩
      simp only [ka_inv, h1, cond_true]
      exact ⟨h2, hk⟩
    · exact hst.elim
  · split at hst
    · obtain ⟨h1, h2, h3⟩ := ka_cond hst
      refine Or.inl ⟨_, _, _, _, h3, fun call' k' R' hle hk => ?_⟩
      simp only [ka_inv, h1, cond_true]
      exact ⟨h2, hk⟩
    · exact hst.elim
  · split at hst
    · obtain ⟨h1, h2, h3⟩ := ka_cond hst
      refine Or.inl ⟨_, _, _, _, h3, fun call' k' R' hle hk => ?_⟩
      simp only [ka_inv, h1, cond_true]
      exact ⟨h2, hk⟩
    · exact hst.elim
  · exact hst.elim
theorem kp_br_nx {c : ClassFile.Cond} {a b : Int32} {x y : Prop} (h : ka_br c a b x y) : (x ∧ ∀ x' y' : Prop, x' → ka_br c a b x' y') ∨ (y ∧ ∀ x' y' : Prop, y' → ka_br c a b x' y') := by
  cases c <;> simp only [ka_br] at h ⊢
  · by_cases e : a = b
    · exact Or.inl ⟨h.1 e, fun _ _ z => ⟨fun _ => z, fun n => absurd e n⟩⟩
    · exact Or.inr ⟨h.2 e, fun _ _ z => ⟨fun n => absurd n e, fun _ => z⟩⟩
  · by_cases e : a = b
    · exact Or.inr ⟨h.2 e, fun _ _ z => ⟨fun n => absurd e n, fun _ => z⟩⟩
    · exact Or.inl ⟨h.1 e, fun _ _ z => ⟨fun _ => z, fun n => absurd n e⟩⟩
  · by_cases e : a < b
    · exact Or.inl ⟨h.1 e, fun _ _ z => ⟨fun _ => z, fun n => absurd e n⟩⟩
    · exact Or.inr ⟨h.2 e, fun _ _ z => ⟨fun n => absurd n e, fun _ => z⟩⟩
  · by_cases e : a < b
    · exact Or.inr ⟨h.2 e, fun _ _ z => ⟨fun n => absurd e n, fun _ => z⟩⟩
    · exact Or.inl ⟨h.1 e, fun _ _ z => ⟨fun _ => z, fun n => absurd n e⟩⟩
  · by_cases e : b < a
    · exact Or.inl ⟨h.1 e, fun _ _ z => ⟨fun _ => z, fun n => absurd e n⟩⟩
    · exact Or.inr ⟨h.2 e, fun _ _ z => ⟨fun n => absurd n e, fun _ => z⟩⟩
  · by_cases e : b < a
    · exact Or.inr ⟨h.2 e, fun _ _ z => ⟨fun n => absurd e n, fun _ => z⟩⟩
    · exact Or.inl ⟨h.1 e, fun _ _ z => ⟨fun _ => z, fun n => absurd n e⟩⟩
theorem kp_sw_nx {a : Int32} {kk : Nat → Prop} {d : Nat} : ∀ (ts : List Nat) (lo : Int32), ka_sw a kk d lo ts → ∃ t, kk t ∧ ∀ kk' : Nat → Prop, kk' t → ka_sw a kk' d lo ts
  | [], _, h => ⟨d, h, fun _ z => z⟩
  | t :: ts, lo, h => by
    by_cases e : a = lo
    · exact ⟨t, h.1 e, fun _ z => ⟨fun _ => z, fun n => absurd e n⟩⟩
    · obtain ⟨t', h1, h2⟩ := kp_sw_nx ts (lo + 1) (h.2 e)
      exact ⟨t', h1, fun kk' z => ⟨fun n => absurd n e, fun _ => h2 kk' z⟩⟩
set_option maxHeartbeats 4000000 in
theorem kp_step_nx {i : Instr} {pc len : Nat} {ts : List Nat} {L S : List Value} {h : ka_H} (hst : ka_step lk call hs rt i pc len ts L S h k Rr) : kp_nx call k Rr (fun call' k' R' => ka_step lk call' hs rt i pc len ts L S h k' R') := by
  cases i
  case invokevirtual x => exact kp_inv_nx hst
  case invokestatic x => exact kp_inv_nx hst
  case invokespecial x => exact kp_inv_nx hst
  case ifCond c o =>
    simp only [ka_step] at hst
    split at hst
    · rcases kp_br_nx hst with ⟨h1, h2⟩ | ⟨h1, h2⟩
      · exact Or.inl ⟨_, _, _, _, h1, fun _ _ _ _ hk => h2 _ _ hk⟩
      · exact Or.inl ⟨_, _, _, _, h1, fun _ _ _ _ hk => h2 _ _ hk⟩
    · exact hst.elim
  case if_icmp c o =>
    simp only [ka_step] at hst
    split at hst
    · rcases kp_br_nx hst with ⟨h1, h2⟩ | ⟨h1, h2⟩
      · exact Or.inl ⟨_, _, _, _, h1, fun _ _ _ _ hk => h2 _ _ hk⟩
      · exact Or.inl ⟨_, _, _, _, h1, fun _ _ _ _ hk => h2 _ _ hk⟩
    · exact hst.elim
  case if_acmp c o =>
    simp only [ka_step] at hst
    split at hst
    · obtain ⟨h0, hst⟩ := hst
      rename_i t b a S'
      by_cases e : a = b
      · cases c
        · exact Or.inl ⟨_, _, _, _, hst.1 e, fun _ _ _ _ hk => ⟨h0, fun _ => hk, fun n => absurd e n⟩⟩
        · exact Or.inl ⟨_, _, _, _, hst.2 e, fun _ _ _ _ hk => ⟨h0, fun n => absurd e n, fun _ => hk⟩⟩
      · cases c
        · exact Or.inl ⟨_, _, _, _, hst.2 e, fun _ _ _ _ hk => ⟨h0, fun n => absurd n e, fun _ => hk⟩⟩
        · exact Or.inl ⟨_, _, _, _, hst.1 e, fun _ _ _ _ hk => ⟨h0, fun _ => hk, fun n => absurd n e⟩⟩
    · exact hst.elim
  case ifnull o =>
    simp only [ka_step] at hst
    split at hst
    · rename_i t a S'
      by_cases e : a = 0
      · exact Or.inl ⟨_, _, _, _, hst.1 e, fun _ _ _ _ hk => ⟨fun _ => hk, fun n => absurd e n⟩⟩
      · exact Or.inl ⟨_, _, _, _, hst.2 e, fun _ _ _ _ hk => ⟨fun n => absurd n e, fun _ => hk⟩⟩
    · exact hst.elim
  case ifnonnull o =>
    simp only [ka_step] at hst
    split at hst
    · rename_i t a S'
      by_cases e : a = 0
      · exact Or.inl ⟨_, _, _, _, hst.2 e, fun _ _ _ _ hk => ⟨fun n => absurd e n, fun _ => hk⟩⟩
      · exact Or.inl ⟨_, _, _, _, hst.1 e, fun _ _ _ _ hk => ⟨fun _ => hk, fun n => absurd n e⟩⟩
    · exact hst.elim
  case tableswitch a b c e =>
    simp only [ka_step] at hst
    split at hst
    · obtain ⟨t, h1, h2⟩ := kp_sw_nx _ _ hst
      exact Or.inl ⟨_, _, _, _, h1, fun _ _ _ _ hk => h2 (fun t => _) hk⟩
    · exact hst.elim
  case new x =>
    simp only [ka_step] at hst
    split at hst
    · rename_i heq
      refine Or.inl ⟨_, _, _, _, hst.2, fun _ _ _ _ hk => ?_⟩
      simp only [ka_step, heq]
      exact ⟨hst.1, hk⟩
    · rename_i heq
      obtain ⟨h1, h2, h3⟩ := ka_cond hst
      refine Or.inr ⟨_, _, h3, fun _ _ _ _ hk => ?_⟩
      simp only [ka_step, heq, h1, cond_true]
      exact ⟨h2, hk⟩
    · exact hst.elim
  case multianewarray x y =>
    by_cases hy : y = 2
    · subst hy
      simp only [ka_step] at hst
      split at hst
      · rename_i heq
        refine Or.inl ⟨_, _, _, _, hst.2, fun _ _ _ _ hk => ?_⟩
        simp only [ka_step, heq]
        exact ⟨hst.1, hk⟩
      · exact hst.elim
    · exfalso
      unfold ka_step at hst
      split at hst <;> first | exact hst.elim | simp_all
  case ireturn =>
    simp only [ka_step] at hst
    split at hst
    · exact Or.inr ⟨_, _, hst.2, fun _ _ _ _ hk => ⟨hst.1, hk⟩⟩
    · exact hst.elim
  case areturn =>
    simp only [ka_step] at hst
    split at hst
    · exact Or.inr ⟨_, _, hst, fun _ _ _ _ hk => hk⟩
    · exact hst.elim
  case return_ =>
    simp only [ka_step] at hst
    split at hst
    · exact Or.inr ⟨_, _, hst, fun _ _ _ _ hk => hk⟩
    · exact hst.elim
  all_goals simp only [ka_step] at hst
  all_goals try (exact hst.elim)
  all_goals try (exact Or.inl ⟨_, _, _, _, hst, fun _ _ _ _ hk => hk⟩)
  all_goals split at hst
  all_goals first
    | exact hst.elim
    | exact Or.inl ⟨_, _, _, _, hst, fun _ _ _ _ hk => hk⟩
    | exact Or.inl ⟨_, _, _, _, hst.2, fun _ _ _ _ hk => ⟨hst.1, hk⟩⟩
    | (rename_i heq; refine Or.inl ⟨_, _, _, _, hst, fun _ _ _ _ hk => ?_⟩; simp only [ka_step, heq]; exact hk)
    | (rename_i heq; refine Or.inl ⟨_, _, _, _, hst.2, fun _ _ _ _ hk => ?_⟩; simp only [ka_step, heq]; exact ⟨hst.1, hk⟩)
    | skip
/-- from here the method comes to its end, as R has it -/
def kp_ex (d m : Nat) (R : ka_R → ka_H → Prop) : ka_C := fun pc L S h => ∃ (n : Nat) (r : ka_R) (h' : ka_H), R r h' ∧ ka_wp (ka_lk (ka_own m)) (ka_run d) (ka_hs m) (ka_rt m) (ka_cd m) (fun _ => false) (fun _ _ _ _ => False) (fun r1 h1 => r1 = r ∧ h1 = h') n pc L S h
theorem kp_go {d m pc len : Nat} {i : Instr} {ts : List Nat} {L S : List Value} {h : ka_H} {R : ka_R → ka_H → Prop} (hcd : ka_cd m pc = some (i, len, ts)) (hst : ka_step (ka_lk (ka_own m)) (ka_run d) (ka_hs m) (ka_rt m) i pc len ts L S h (kp_ex d m R) R) : kp_ex d m R pc L S h := by
  rcases kp_step_nx hst with ⟨pc', L', S', h', ⟨n, r, h2, hR, hw⟩, back⟩ | ⟨r, h', hR, back⟩
  · refine ⟨n + 1, r, h2, hR, ?_⟩
    unfold ka_wp
    rw [hcd]
    exact back _ _ _ (fun _ _ _ _ _ z => z) hw
  · refine ⟨1, r, h', hR, ?_⟩
    unfold ka_wp
    rw [hcd]
    exact back _ _ _ (fun _ _ _ _ _ z => z) ⟨rfl, rfl⟩
theorem kp_wp_le {d d' m : Nat} {R : ka_R → ka_H → Prop} (hle : kp_le (ka_run d) (ka_run d')) : ∀ (n pc : Nat) (L S : List Value) (h : ka_H), ka_wp (ka_lk (ka_own m)) (ka_run d) (ka_hs m) (ka_rt m) (ka_cd m) (fun _ => false) (fun _ _ _ _ => False) R n pc L S h → ka_wp (ka_lk (ka_own m)) (ka_run d') (ka_hs m) (ka_rt m) (ka_cd m) (fun _ => false) (fun _ _ _ _ => False) R n pc L S h
  | 0, _, _, _, _, h => h.elim
  | n + 1, pc, L, S, h, hw => by
    unfold ka_wp at hw ⊢
    split at hw
    · exact hw.elim
    · rename_i i len ts hcd
      rcases kp_step_nx hw with ⟨pc', L', S', h', hk, back⟩ | ⟨r, h', hR, back⟩
      · exact back _ _ _ hle (kp_wp_le hle n _ _ _ _ hk)
      · exact back _ _ _ hle hR
theorem kp_run_s : ∀ (d : Nat), kp_le (ka_run d) (ka_run (d + 1))
  | 0, _, _, _, _, _, h => h.elim
  | d + 1, m, as, h, r, h', ⟨h1, n, hw⟩ => ⟨h1, n, kp_wp_le (kp_run_s d) n _ _ _ _ hw⟩
theorem kp_run_le {d d' : Nat} (hd : d ≤ d') : kp_le (ka_run d) (ka_run d') := by
  induction hd with
  | refl => exact fun _ _ _ _ _ z => z
  | step _ ih => exact fun m as h r h' z => kp_run_s _ m as h r h' (ih m as h r h' z)
/-- what a call does: it ends, and Q holds of its end -/
def kp_T (d m : Nat) (as : List Value) (h : ka_H) (Q : ka_R → ka_H → Prop) : Prop := ∃ (r : ka_R) (h' : ka_H), ka_run d m as h r h' ∧ Q r h'
theorem kp_T.le {d d' m : Nat} {as : List Value} {h : ka_H} {Q : ka_R → ka_H → Prop} (hT : kp_T d m as h Q) (hd : d ≤ d') : kp_T d' m as h Q := by
  obtain ⟨r, h', h1, h2⟩ := hT
  exact ⟨r, h', kp_run_le hd _ _ _ _ _ h1, h2⟩
theorem kp_T.imp {d m : Nat} {as : List Value} {h : ka_H} {Q Q' : ka_R → ka_H → Prop} (hT : kp_T d m as h Q) (hq : ∀ r h', Q r h' → Q' r h') : kp_T d m as h Q' := by
  obtain ⟨r, h', h1, h2⟩ := hT
  exact ⟨r, h', h1, hq r h' h2⟩
theorem kp_in {d m : Nat} {as L : List Value} {h : ka_H} {Q : ka_R → ka_H → Prop} (h1 : ka_okc 30 as = true) (h2 : as.length ≤ ka_mx m) (hL : as ++ List.replicate (ka_mx m - as.length) (.retAddr 0) = L) (k : kp_ex d m Q 0 L [] h) : kp_T (d + 1) m as h Q := by
  obtain ⟨n, r, h', hQ, hw⟩ := k
  subst hL
  exact ⟨r, h', ⟨⟨h1, h2⟩, n, hw⟩, hQ⟩
/-- a call, by what it does -/
theorem kp_cl {d m' : Nat} {as : List Value} {h : ka_H} {Q : ka_R → ka_H → Prop} {P : ka_R → ka_H → Prop} (hT : kp_T d m' as h Q) (hk : ∀ r h', Q r h' → P r h') : ∃ (r : ka_R) (h' : ka_H), ka_run d m' as h r h' ∧ P r h' := by
  obtain ⟨r, h', h1, h2⟩ := hT
  exact ⟨r, h', h1, hk r h' h2⟩
end KP
