/-! THE CLASS: the text of the desk -/
section
variable {nl : Bool} {Ln : Nat} {xs : Nat → Int32} {d : Nat} {σ s : am_S} {w ws : ow_T} {τ : am_S} {v b gl nu : Nat} {X : Stx} {sp : Option Nat} {g : Grw} {D : mTop}
theorem DskC.txt {g' : Nat} {L : List Int32} (R : DskC τ σ w v X b sp g gl nu D) (hB : ByR s ws (2, 1003) 1003 g' L) (hc : ByC σ w s ws (2, 1003) g.2.1 g') (hx : am_nx σ ≤ am_nx s) : DskC τ s ws v X b sp (g.1, g', g.2.2) gl nu D := by
  obtain ⟨C, hb, ht, T, ⟨tx, Tx⟩, S, ⟨⟨ov, Lk⟩, hl13⟩, A, hf, hsp, hrf⟩ := R
  obtain ⟨E, e1, e2⟩ := hc
  have hv := A.1.2.2.2.1
  have hO := A.1.2.2.2.2.1
  have e0 := E.2 (2, 1000) (snd_ne (by decide)) (by simp) 1000 C.1.1
  have e8 := E.2 (2, 1008) (snd_ne (by decide)) (by simp) 1008 (hO 1008 (by unfold fixW; omega))
  refine ⟨C.eff E (snd_ne (by decide)) (snd_ne (by decide)), hb, e0.2.fI.trans ht, T.fr (E.2 (2, 1001) (snd_ne (by decide)) (by simp)), ⟨L, hB⟩, S.fr (E.2 (2, 1005) (snd_ne (by decide)) (by simp)), ⟨⟨ov, Lk.eqc (fun j hj => (E.2 (2, 2070 - v + j) (snd_ne (by omega)) (by simp) _ (hO _ (by unfold fixW; omega))).2)⟩, hl13⟩, A.byt hb E (by omega) hx ?_, e8.2.fI.trans hf, fun b2 h2 => ⟨(hsp b2 h2).1, (hsp b2 h2).2.1, (hsp b2 h2).2.2.fr (fun j => E.bk (fst_ne (by have := (hsp b2 h2).1; omega)) (by have := (hsp b2 h2).1; omega))⟩, hrf.eff E (fst_ne (by decide))⟩
  obtain ⟨R1, R2, R3⟩ := A.2.2
  unfold grC at R2 R3
  simp only at R2 R3
  refine ⟨R1, ?_, ?_⟩
  · unfold grC
    simp only
    generalize (if sp = none then 0 else 20 + g.2.2.2) = q1 at R2 ⊢
    show _ ≤ 1189 + (X.1.length + ne (d_off D) + 0) + (X.2.1.length + (o_pol (d_off D)).length + 0) + 3 * (X.2.2.1.length + (o_los (d_off D)).length + 0) + (X.2.2.2.1.length + (o_cas (d_off D)).length + 0) + (X.2.2.2.2.length + nu + 0) + gl + _
    omega
  · unfold grC
    simp only
    generalize (if sp = none then 0 else 5000 + 128 * 2 ^ g.2.2.2) = q1 at R3 ⊢
    generalize 128 * 2 ^ g.2.1 = q2 at R3 e2
    generalize 128 * 2 ^ g.2.2.1 = q3 at R3 ⊢
    generalize 128 * 2 ^ g.1 = q4 at R3 ⊢
    generalize 128 * 2 ^ g' = q5 at e2 ⊢
    generalize 128 * 2 ^ gl = q6 at R3 ⊢
    show _ ≤ 1704035 + 10 * (X.1.length + ne (d_off D) + 0) + 6 * (X.2.1.length + (o_pol (d_off D)).length + 0) + 28 * (X.2.2.1.length + (o_los (d_off D)).length + 0) + 8 * (X.2.2.2.1.length + (o_cas (d_off D)).length + 0) + 5 * (X.2.2.2.2.length + nu + 0) + q6 + _
    omega
end
