/-! ACTS of the reference -/
theorem tlA_same {T : List mTell} {t : mTell} {n : Int32} (h : t.1 = n) : tlA (T ++ [t]) n = tlA T n ++ [t] := by
  unfold tlA
  rw [List.filter_append]
  simp [h]
theorem tlA_ne {T : List mTell} {t : mTell} {n : Int32} (h : t.1 ≠ n) : tlA (T ++ [t]) n = tlA T n := by
  unfold tlA
  rw [List.filter_append]
  simp [h]
section
variable {nl : Bool} {Ln : Nat} {xs : Nat → Int32} {d : Nat} {σ : am_S} {o : Nat}
theorem r_in {v lo hi : Int64} {G1 G2 : am_S → Prop} (h1 : lo.toInt ≤ v.toInt → v.toInt ≤ hi.toInt → G1 σ) (h2 : ¬ (lo.toInt ≤ v.toInt ∧ v.toInt ≤ hi.toInt) → G2 σ) : k_Rm_in nl Ln xs (d + 1) v lo hi σ (fun a s => am_ext σ s → (a = true → G1 s) ∧ (¬ (a = true) → G2 s)) := by
  refine w_Rm_in (fun _ => ⟨fun h => ?_, fun h => ?_⟩)
  · have h := of_decide_eq_true h
    rw [i64lt, i64lt] at h
    exact h1 (by omega) (by omega)
  · refine h2 (fun q => h (decide_eq_true ?_))
    rw [i64lt, i64lt]
    omega
theorem ArgR.rc {m : Nat} {a : mArg} {fs as ms : List Nat} {σ1 : am_S} (h : ArgR σ m a) (hm : m = 1060 ∨ m = o + 61) (h0 : 1063 ≤ o) (hr : Rc o fs as ms σ σ1) (h1 : 61 ∉ as) (h2 : 1060 ∉ ms) (h3 : ∀ x ∈ ms, x < 1063) : ArgR σ1 m a := by
  refine ⟨by rw [hr.kd]; exact h.1, fun j hj => ?_⟩
  rcases hm with e | e
  · subst e
    rw [hr.aLm h0 (by decide) h2]; exact h.2 j hj
  · subst e
    rw [hr.aL h0 h3 h1]; exact h.2 j hj
theorem r_done {m n : Nat} {a : mArg} {t L : List Int32} {r : Int32} {F : Int32 → am_S → Prop} (hK : OffK σ o) (h : LogR σ o L) (hA : ArgR σ m a) (h1 : 1 ≤ n) (h2 : n ≤ 22) (hm : m = 1060 ∨ m = o + 61)
    (ht : n = 6 → a 1 = Int64.ofNat t.length ∧ t.length ≤ 400 ∧ ∀ i, i < t.length → am_aI σ (o + 62) i = t.getD i 0) (hl : L.length + (m_note n a t).length + 10 ≤ 450000)
    (K : ∀ σ', am_fI σ' 13000 o = am_fI σ 13000 o + 1 → LogR σ' o (L ++ m_note n a t) → Rc o [13000, 13067] [52] [] σ σ' → F r σ') : k_Ro_done nl Ln xs (d + 3) o (Int32.ofNat n) (some m) r σ F := by
  refine w_Ro_done ⟨is_mk hK.2.1, ?_⟩
  intro s2 e2
  have c2 : Rc o [13000, 13067] [52] [] σ s2 := by rw [e2]; exact Rc.sfI (by decide) (Or.inl rfl)
  have hlo := hK.lo
  refine r_note (hK.rc c2) (h.rc (fs := [13000]) (as := []) (ms := []) (by rw [e2]; exact Rc.sfI (by decide) (Or.inl rfl)) hlo (by simp) (by decide) (by decide)) (hA.rc hm hlo c2 (by decide) (by decide) (by simp)) h1 h2 (by omega) ?_ hl ?_
  · intro h6
    obtain ⟨t1, t2, t3⟩ := ht h6
    exact ⟨t1, t2, fun i hi => by rw [e2]; exact t3 i hi⟩
  · intro s' hL' hc' _
    refine K s' ?_ hL' (c2.trans (hc'.mono (by decide) (by decide) (by decide)))
    rw [hc'.fI (by decide), e2]
    exact rI_same
/-- what an act of the reference may change -/
def raF : List Nat := (List.range 99).map (fun k => 13000 + k)
def raA : List Nat := List.range 63
theorem Rc.all {fs as : List Nat} {σ1 : am_S} (h : Rc o fs as [] σ σ1) (hd : (fs.all (fun x => raF.contains x) && as.all (fun x => raA.contains x)) = true) : Rc o raF raA [] σ σ1 := by
  rw [Bool.and_eq_true] at hd
  exact h.mono (fun x hx => by simpa using List.all_eq_true.mp hd.1 x hx) (fun x hx => by simpa using List.all_eq_true.mp hd.2 x hx) (fun x hx => hx)
theorem m_rlog0 {M : mOff} (h : o_und M = false) : m_rlog M = o_log M := by unfold m_rlog; rw [h]; rfl
theorem note_le (n : Nat) (a : mArg) : (m_note n a []).length ≤ 70 := by
  unfold m_note
  have h1 := m_enc_len (Int64.ofNat n)
  have h2 := flat_len (fun k => m_enc (a k)) 10 (fun x => m_enc_len _) (List.range (m_args n))
  have h3 := m_args_le n
  rw [List.length_range] at h2
  simp only [List.length_append, List.flatMap_nil, ite_self, List.length_nil]
  omega
/-- the state behind an act that is done -/
theorem OffR.done {M : mOff} {n : Nat} {a : mArg} {t : List Int32} {σ1 σ2 : am_S} {fs as : List Nat} (hu : o_und M = false) (hR : OffR σ1 o M) (h0 : am_fI σ2 13000 o = o_now M + 1) (hL : LogR σ2 o (o_log M ++ m_note n a t)) (hr : Rc o [13000, 13067] [52] [] σ1 σ2) : OffR σ2 o (m_done M n a t) := by
  obtain ⟨hK, hN, hP, hRk, hPl, hPe, hRu, hSe, hLs, hC, hH, hG⟩ := hR
  have lo := hK.lo
  refine ⟨hK.rc hr, ⟨h0, (hr.fI (by decide)).trans hN.2.1, (hr.fI (by decide)).trans hN.2.2.1, (hr.fI (by decide)).trans hN.2.2.2.1, (hr.fI (by decide)).trans hN.2.2.2.2⟩, kPol.rc hP hr lo (by decide), kRnk.rc hRk hr lo (by decide), kPla.rc hPl hr lo (by decide), kPer.rc hPe hr lo (by decide), kRul.rc hRu hr lo (by decide), kSet.rc hSe hr lo (by decide), kLos.rc hLs hr lo (by decide), kCas.rc hC hr lo (by decide), kHel.rc hH hr lo (by decide), ?_⟩
  rw [m_rlog0 (M := m_done M n a t) hu]
  exact hL
theorem r_person {m : Nat} {a : mArg} {M : mOff} {F : Int32 → am_S → Prop} (hR : OffR σ o M) (hu : o_und M = false) (hA : ArgR σ m a) (hm : m = 1060 ∨ m = o + 61) (hl : (o_log M).length ≤ 440000)
    (K1 : o_per M = 100 → F (-7) σ) (K2 : o_per M ≠ 100 → ∀ σ', OffR σ' o (m_done (m_setPer M (o_per M + 1)) 1 a []) → Rc o raF raA [] σ σ' → F (o_per M) σ') : k_Ro_person nl Ln xs (d + 4) o (some m) σ F := by
  have hR0 := hR
  obtain ⟨hK, hN, hP, hRk, hPl, hPe, hRu, hSe, hLs, hC, hH, hG⟩ := hR
  have lo := hK.lo
  have hn := note_le 1 a
  rw [m_rlog0 hu] at hG
  refine w_Ro_person ⟨is_mk hK.2.1, fun h => K1 (hN.2.1.symm.trans h), fun h => ?_⟩
  intro s3 e3
  rw [hN.2.1] at e3 h
  have r3 : Rc o [13001] [] [] σ s3 := by rw [e3]; exact Rc.sfI (by decide) (Or.inl rfl)
  have f3 : am_fI s3 13001 o = o_per M + 1 := by rw [e3]; exact rI_same
  have R3 : OffR s3 o (m_setPer M (o_per M + 1)) := ⟨hK.rc r3, ⟨(r3.fI (by decide)).trans hN.1, f3, (r3.fI (by decide)).trans hN.2.2.1, (r3.fI (by decide)).trans hN.2.2.2.1, (r3.fI (by decide)).trans hN.2.2.2.2⟩, kPol.rc hP r3 lo (by decide), kRnk.rc hRk r3 lo (by decide), kPla.rc hPl r3 lo (by decide), kPer.rc hPe r3 lo (by decide), kRul.rc hRu r3 lo (by decide), kSet.rc hSe r3 lo (by decide), kLos.rc hLs r3 lo (by decide), kCas.rc hC r3 lo (by decide), kHel.rc hH r3 lo (by decide), by
    rw [m_rlog0 (M := m_setPer M (o_per M + 1)) hu]
    exact kLog.rc hG r3 lo (by decide)⟩
  have e7 : am_fI s3 13001 o - 1 = o_per M := by rw [f3]; exact Int32.add_sub_cancel _ _
  rw [e7]
  refine r_done (t := []) (n := 1) R3.1 (kLog.rc hG r3 lo (by decide)) (hA.rc hm lo r3 (by decide) (by decide) (by simp)) (by decide) (by decide) hm (fun h => absurd h (by decide)) (by omega) ?_
  intro s' h0 hL' hc' _
  refine K2 h s' (OffR.done (fs := []) (as := []) hu R3 (by rw [h0, R3.2.1.1]) hL' hc') ((r3.all (by decide)).trans (hc'.all (by decide)))
end
