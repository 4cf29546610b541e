/-! deps: mslot -/
/-! The model lays orders. -/
section MLAY
variable {S : BS} {o : Nat → Nat} {d : Nat} {L : hL} {I : Nat → Nat → Int32} {J : Nat → Nat → Int64} {t : tl} {m n sn dn : Nat} {F : Int32 → hp → Prop} {G : hp → Prop} {X : Nat → hp → Prop}
theorem mp_laysSlots (hM : LM L m) (hR : Rel (I (m + 1)) S n sn dn) (hI : BI S n sn dn) (ho : ∀ j, j < n → I (m + 6) j = nI (o j) ∧ o j < n)
    (k : ∀ I2, same I I2 (fun a => a = m + 7) → (∀ j, j < n → I2 (m + 7) j = slt S o j) → G (L, I2, J, t)) : cal (d + 3) 197 [.ref m] (L, I, J, t) (kV G X) := by
  have hM0 := hM
  obtain ⟨⟨m0, r1, -, -, -, -, r6, r7, -⟩, ⟨k1, -, -, -, -, k6, k7, -⟩, ⟨n1, -, -, -, -, n6, n7, -⟩⟩ := hM
  have hn := hI.1.2
  refine e197 (q197_0 ?_)
  have main : ∀ I2, same I I2 (fun a => a = m + 7) → (∀ j, j < 0 → I2 (m + 7) j = slt S o j) → Wp (cal (d + 2)) kc_197 [] (kV G X) (2, [some (.ref m), some (.int (nI 0))], [], (L, I2, J, t)) := by
    refine loop0 (P := fun i => ∀ I2, same I I2 (fun a => a = m + 7) → (∀ j, j < i → I2 (m + 7) j = slt S o j) → Wp (cal (d + 2)) kc_197 [] (kV G X) (2, [some (.ref m), some (.int (nI i))], [], (L, I2, J, t))) (n := n) (fun i hi ih I2 hsm hd => ?_) (fun I2 hsm hd => ?_)
    · have e1 : I2 (m + 1) = I (m + 1) := hsm _ (by omega)
      have e6 : I2 (m + 6) = I (m + 6) := hsm _ (by omega)
      have ei : (nI i).toNatClampNeg = i := nI_clamp (by omega)
      refine q197_2 m0 r1 k1 (by show vp_in 0 (L.2.1 (m + 1)); rw [n1]; exact vp_in_nI (n := 0) (by decide) (by decide)) (fun h => absurd h ?_) (fun _ => q197_12 m0 r7 (mp_slotAt hM0 (by rw [e1]; exact hR) hI hi (fun j hj => by rw [e6]; exact ho j (by omega)) hd (q197_22 k7 (by show vp_in _ (L.2.1 (m + 7)); rw [n7]; exact vp_in_nI (by omega) (by decide)) ?_)))
      · show ¬ I2 (m + 1) 0 ≤ nI i
        rw [e1, hR.1.1]
        exact nI_ge hi (by omega)
      dsimp only
      rw [ei]
      have := ih (wr I2 (m + 7) i (slt S o i)) (fun a ha => by rw [wr_row (by exact ha)]; exact hsm a ha) (fun j hj => by
        by_cases e : j = i
        · subst e; rw [wr_at]
        · rw [wr_ne (by omega)]; exact hd j (by omega))
      rw [nI_succ] at this
      exact this
    · refine q197_2 m0 r1 k1 (by show vp_in 0 (L.2.1 (m + 1)); rw [n1]; exact vp_in_nI (n := 0) (by decide) (by decide)) (fun _ => q197_29 (k I2 hsm hd)) (fun h => absurd ?_ h)
      show I2 (m + 1) 0 ≤ nI n
      rw [hsm (m + 1) (by omega), hR.1.1]
      exact nI_le (Nat.le_refl _) (by omega)
  exact main I same.rf (fun j hj => absurd hj (Nat.not_lt_zero _))
end MLAY
