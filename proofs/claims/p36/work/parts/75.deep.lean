/-! a contract with less room serves where there is more; and with a weaker end -/
theorem Ct_deep {M : MT} {d d' mc ms : Nat} {as : List Value} {hp : AH} {Q : Option Value → AH → Prop} (h : Ct M d mc ms as hp Q) (hd : d ≤ d') : Ct M d' mc ms as hp Q := by
  intro l D cA ad sz hl p e ha hc hk s m args below hf happ hP hK
  refine h l D cA ad sz hl p e ha hc hk s m args below hf ?_ hP hK
  unfold Spec.appliesLoose at happ ⊢
  rw [hf] at happ ⊢
  simp only [Bool.and_eq_true] at happ ⊢
  refine ⟨⟨happ.1.1, hasRoom_mono ?_ ?_ ?_ ?_ happ.1.2⟩, happ.2⟩
  · exact hd
  · show 39 * d ≤ 39 * d'
    omega
  · exact Nat.le_refl _
  · exact Nat.le_refl _
theorem Ct_weak {M : MT} {d mc ms : Nat} {as : List Value} {hp : AH} {Q Q2 : Option Value → AH → Prop} (h : Ct M d mc ms as hp Q) (hq : ∀ v hp', Q v hp' → Q2 v hp') : Ct M d mc ms as hp Q2 := by
  intro l D cA ad sz hl p e ha hc hk s m args below hf happ hP hK
  obtain ⟨n, o, h1, h2, h3, h4, h5⟩ := h l D cA ad sz hl p e ha hc hk s m args below hf happ hP hK
  refine ⟨n, o, h1, h2, h3, ?_, h5⟩
  obtain ⟨⟨v, hp', x, g1, g2, g3⟩, g4⟩ := h4
  exact ⟨⟨v, hp', x, g1, hq v hp' g2, g3⟩, g4⟩
