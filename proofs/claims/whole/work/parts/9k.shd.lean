/-! ===== shelves: the reference's shelving begins ===== -/
section SHD
variable {g : Nat × (Nat → Int32)} {d : Nat} {h : ka_H} {R : ka_R → ka_H → Prop} {nds : List kN} {Q N0 : Nat} {ky0 : Nat → kKey} {lv : Nat → Bool}
theorem kSI_0 (hf : kf g h) (h34 : ka_I h 72 34 = nI N0) (h94 : ∀ s, s < N0 → ka_I h 94 s = if lv s = true then 1 else 0) (hB : ∀ s, s < N0 → kSB h s (ky0 s) (12 * Q)) : kSI g h nds Q N0 ky0 lv 0 h := by
  refine ⟨hf, ⟨rfl, rfl, fun _ => rfl, fun _ => rfl, fun _ => rfl, fun _ _ => rfl⟩, h34, fun _ _ => rfl, fun _ _ _ _ _ _ => rfl, fun _ _ => rfl, fun j hj => absurd hj (Nat.not_lt_zero j), fun _ _ => ⟨rfl, rfl⟩, fun s h1 h2 => ?_, fun s hs => ?_, fun s hs => hB s hs⟩
  · have : s < N0 := h2
    omega
  · have hs' : s < N0 := hs
    have hb : Nat.ble N0 s = false := by
      cases hc : Nat.ble N0 s with
      | false => rfl
      | true => have := Nat.le_of_ble_eq_true hc; omega
    rw [hb, Bool.or_false]
    exact h94 s hs'
theorem kSI_go (hf : kf g h) (hQ : Q < 6) (hl : nds.length ≤ 12) (hN0 : N0 ≤ 12 * Q) (h9 : ka_I h 72 9 = nI Q) (h79 : ka_I h 79 Q = nI nds.length) (h34 : ka_I h 72 34 = nI N0) (h94 : ∀ s, s < N0 → ka_I h 94 s = if lv s = true then 1 else 0) (hB : ∀ s, s < N0 → kSB h s (ky0 s) (12 * Q)) (hm : ∀ j x, nds[j]? = some x → kMn (ka_I h) (12 * Q + j) x ∧ kNv x j) {nn xx : Int32}
    (e : ∀ H', kSI g (ka_sI h 78 Q 0) nds Q N0 ky0 lv nds.length H' → R (kp_ri (nI Q)) (ka_sI H' 72 9 (nI (Q + 1)))) : kq_ex g (d + 3) 183 R 165 [.ref 72, .int nn, .int xx, .retAddr 0] [] h := by
  have o78 : ∀ a, a ≠ 78 → ka_I (ka_sI h 78 Q 0) a = ka_I h a := fun a ha => funext fun j => ka_uN _ _ _ _ ha j
  have f1 : kf g (ka_sI h 78 Q 0) := kf_w hf 78 rfl rfl
  have q0 : kSI g (ka_sI h 78 Q 0) nds Q N0 ky0 lv 0 (ka_sI h 78 Q 0) := kSI_0 f1 h34 (fun s hs => (congrFun (o78 94 (by decide)) s).trans (h94 s hs)) (fun s hs => (hB s hs).st (fun a a1 a2 a3 => o78 a (by omega)) (fun k _ => congrFun (o78 84 (by decide)) k) (congrFun (o78 92 (by decide)) s) (Nat.le_refl _))
  have hall := kSI_all (d := d) (nn := nn) (xx := xx) hQ hl hN0 (h := ka_sI h 78 Q 0) h9 ((congrFun (o78 79 (by decide)) Q).trans h79) (fun j x hx => ⟨kMn_eq (hm j x hx).1 (fun a a1 a2 a3 => o78 a (by omega)), (hm j x hx).2⟩) e nds.length 0 _ (Nat.zero_add _) q0
  refine kq_seg (fun p => Nat.beq p 177) 20 ⟨⟨by rw [h9]; exact nI_in (N := 6) hQ (by omega), Or.inl rfl⟩, ?_⟩
  rw [h9, nI_clamp (by omega)]
  exact hall
end SHD
