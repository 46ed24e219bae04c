/-! THE PARSER of the reference: every condition -/
section
variable {nl : Bool} {Ln : Nat} {xs : Nat → Int32} {t : List Int32} {o : Nat}
theorem cond_all : ∀ f, NotOK nl Ln xs t o f ∧ BothOK nl Ln xs t o f ∧ BothL nl Ln xs t o f ∧ CondOK nl Ln xs t o f ∧ CondL nl Ln xs t o f
  | 0 => by
    refine ⟨?_, ?_, ?_, ?_, ?_⟩
    · intro d σ s op nn acc F _ h; omega
    · intro d σ s op nn acc F _ h; omega
    · intro d σ s op nn x1 acc F _ h; omega
    · intro d σ s op nn acc F _ h; omega
    · intro d σ s op nn x1 acc F _ h; omega
  | f + 1 => by
    obtain ⟨h1, h2, h3, h4, h5⟩ := cond_all f
    exact ⟨NotOK_step h1 h4, BothOK_step h1 h3, BothL_step h1 h3, CondOK_step h2 h5, CondL_step h2 h5⟩
/-- a condition, as the model's clause asks for it -/
theorem r_cond {d : Nat} {σ : am_S} {s nn f : Nat} {F : Int32 → am_S → Prop} (P : PS σ o t s 0 nn) (hw : KwR σ) (hb : 2 * nn + (t.length - s) ≤ 60000) (hf : 4 * (m_tk t s).length + 3 ≤ f) (K : CdK t σ o s 0 nn (m_cond f 3 0 .nil (m_tk t s)) F) : k_Ro_cond nl Ln xs (d + 72) o σ F := (cond_all f).2.2.2.1 d σ s 0 nn .nil F (by omega) hf P hw hb K
end
