/-! THE PARSER of the reference: clauses with a number -/
section
variable {nl : Bool} {Ln : Nat} {xs : Nat → Int32} {d : Nat} {σ : am_S} {o : Nat} {t : List Int32} {s op nn e : Nat}
theorem r_numbered {F : Int32 → am_S → Prop} (P : PS σ o t s op nn)
    (Ka : ((m_hd (m_tk t s)).1 = 2 ∨ (m_hd (m_tk t s)).1 = 3 ∨ (m_hd (m_tk t s)).1 = 4 ∨ (m_hd (m_tk t s)).1 = 6 ∨ (m_hd (m_tk t s)).1 = 8) → ∀ σ' s', s + 2 ≤ s' → m_tk t s' = (m_tk t s).tail → PS σ' o t s' op nn → Pf σ σ' o nn → F (m_ncode (m_hd (m_tk t s)).1) σ')
    (Kb : (m_hd (m_tk t s)).1 = 5 → (m_hd (m_tk t s).tail).1 = 3 → ∀ σ' s', s + 4 ≤ s' → m_tk t s' = (m_tk t s).tail.tail → PS σ' o t s' op nn → Pf σ σ' o nn → F 5 σ')
    (Kc : (m_hd (m_tk t s)).1 = 5 → (m_hd (m_tk t s).tail).1 = 4 → ∀ σ' s', s + 4 ≤ s' → m_tk t s' = (m_tk t s).tail.tail → PS σ' o t s' op nn → Pf σ σ' o nn → F 6 σ')
    (Kd : (m_hd (m_tk t s)).1 = 5 → (m_hd (m_tk t s).tail).1 ≠ 3 → (m_hd (m_tk t s).tail).1 ≠ 4 → ∀ σ' x, PE σ' o (m_hd (m_tk t s).tail).2.2 nn → Pf σ σ' o nn → F x σ')
    (Ke : ((m_hd (m_tk t s)).1 ≠ 2 ∧ (m_hd (m_tk t s)).1 ≠ 3 ∧ (m_hd (m_tk t s)).1 ≠ 4 ∧ (m_hd (m_tk t s)).1 ≠ 5 ∧ (m_hd (m_tk t s)).1 ≠ 6 ∧ (m_hd (m_tk t s)).1 ≠ 8) → ∀ σ' x, PE σ' o s nn → Pf σ σ' o nn → F x σ') : k_Ro_numbered nl Ln xs (d + 7) o σ F := by
  have hle := P.le
  have hl4 := P.l4
  obtain ⟨a1, a2, a3, a4⟩ := ws_txt (13, 5) (by decide)
  have a4 : 2 ≤ (txt 13).length := a4
  obtain ⟨b1, b2, b3, b4⟩ := ws_txt (33, 3) (by decide)
  have b4 : 2 ≤ (txt 33).length := b4
  obtain ⟨c1, c2, c3, c4⟩ := ws_txt (17, 4) (by decide)
  have c4 : 2 ≤ (txt 17).length := c4
  refine w_Ro_numbered ⟨is_mk P.1.2.1, (r_takes (d := d) (i := 5) P a1 a2 a3 (by omega) (fun hh σ1 s1 g1 g2 P1 f1 _ => ⟨fun _ => ?_, fun q => absurd rfl q⟩) (fun n5 _ => ⟨fun q => absurd q (by decide), fun _ => ?_⟩))⟩
  · have hs1 := P1.le
    have hp1 := P1.pl
    refine (r_takes (d := d) (i := 3) P1 b1 b2 b3 (by omega) (fun h3 σ2 s2 g3 g4 P2 f2 _ => ⟨fun _ => Kb hh (by rw [← g2]; exact h3) σ2 s2 (by omega) (by rw [g4, g2]) P2 (f1.trans f2 (Nat.le_refl _)), fun q => absurd rfl q⟩) (fun n3 _ => ⟨fun q => absurd q (by decide), fun _ => ?_⟩))
    refine (r_takes (d := d) (i := 4) P1 c1 c2 c3 (by omega) (fun h3 σ2 s2 g3 g4 P2 f2 _ => ⟨fun _ => Kc hh (by rw [← g2]; exact h3) σ2 s2 (by omega) (by rw [g4, g2]) P2 (f1.trans f2 (Nat.le_refl _)), fun q => absurd rfl q⟩) (fun n4 _ => ⟨fun q => absurd q (by decide), fun _ => ?_⟩))
    rw [P1.2.2.2.1.2.2.1]
    rw [g2] at n3 n4 hp1
    exact r_wrongP P1 (by omega) (fun σ2 P2 f2 _ => Kd hh n3 n4 σ2 _ (by rw [hp1]; exact P2) (f1.trans f2 (Nat.le_refl _)))
  · have good : ∀ {x : Int32} {σ1 : am_S}, x ≠ -1 → F x σ1 → c_Ro_numbered_116 nl Ln xs (d + 7) o x σ1 F := fun h hF => w_Ro_numbered_116 ⟨fun q => absurd q h, fun _ => hF⟩
    obtain ⟨z1, z2, z3, z4⟩ := ws_txt (34, 2) (by decide)
    have z4 : 2 ≤ (txt 34).length := z4
    refine (r_takes (d := d) (i := 2) P z1 z2 z3 (by omega) (fun hh σ1 s1 g1 g2 P1 f1 _ => ⟨fun _ => good (by decide) ?_, fun q => absurd rfl q⟩) (fun n2 _ => ⟨fun q => absurd q (by decide), fun _ => ?_⟩))
    · have := Ka (by omega) σ1 s1 (by omega) g2 P1 f1
      rw [hh] at this
      exact this
    clear z1 z2 z3 z4
    obtain ⟨z1, z2, z3, z4⟩ := ws_txt (33, 3) (by decide)
    have z4 : 2 ≤ (txt 33).length := z4
    refine (r_takes (d := d) (i := 3) P z1 z2 z3 (by omega) (fun hh σ1 s1 g1 g2 P1 f1 _ => ⟨fun _ => good (by decide) ?_, fun q => absurd rfl q⟩) (fun n3 _ => ⟨fun q => absurd q (by decide), fun _ => ?_⟩))
    · have := Ka (by omega) σ1 s1 (by omega) g2 P1 f1
      rw [hh] at this
      exact this
    clear z1 z2 z3 z4
    obtain ⟨z1, z2, z3, z4⟩ := ws_txt (17, 4) (by decide)
    have z4 : 2 ≤ (txt 17).length := z4
    refine (r_takes (d := d) (i := 4) P z1 z2 z3 (by omega) (fun hh σ1 s1 g1 g2 P1 f1 _ => ⟨fun _ => good (by decide) ?_, fun q => absurd rfl q⟩) (fun n4 _ => ⟨fun q => absurd q (by decide), fun _ => ?_⟩))
    · have := Ka (by omega) σ1 s1 (by omega) g2 P1 f1
      rw [hh] at this
      exact this
    clear z1 z2 z3 z4
    obtain ⟨z1, z2, z3, z4⟩ := ws_txt (10, 6) (by decide)
    have z4 : 2 ≤ (txt 10).length := z4
    refine (r_takes (d := d) (i := 6) P z1 z2 z3 (by omega) (fun hh σ1 s1 g1 g2 P1 f1 _ => ⟨fun _ => good (by decide) ?_, fun q => absurd rfl q⟩) (fun n6 _ => ⟨fun q => absurd q (by decide), fun _ => ?_⟩))
    · have := Ka (by omega) σ1 s1 (by omega) g2 P1 f1
      rw [hh] at this
      exact this
    clear z1 z2 z3 z4
    obtain ⟨z1, z2, z3, z4⟩ := ws_txt (19, 8) (by decide)
    have z4 : 2 ≤ (txt 19).length := z4
    refine (r_takes (d := d) (i := 8) P z1 z2 z3 (by omega) (fun hh σ1 s1 g1 g2 P1 f1 _ w29 e29 => ?_) (fun n8 _ w29 e29 => ?_))
    · rw [e29, if_pos rfl]
      have := Ka (by omega) σ1 s1 (by omega) g2 P1 f1
      rw [hh] at this
      exact good (by decide) this
    · rw [e29, if_neg (by decide)]
      refine w_Ro_numbered_116 ⟨fun _ => ⟨is_mk P.1.2.1, ?_⟩, fun q => absurd rfl q⟩
      rw [P.2.2.2.1.2.2.1]
      exact r_wrongP P (by omega) (fun σ2 P2 f2 _ => Ke ⟨n2, n3, n4, n5, n6, n8⟩ σ2 _ P2 f2)
end
