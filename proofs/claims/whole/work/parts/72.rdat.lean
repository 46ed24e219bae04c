/-! WELL-FORMED models; what is asked of all cases, by the reference -/
def WfP (P : List mPol) : Prop := P.length ≤ 100 ∧ ∀ p ∈ P, 0 ≤ p.1.toInt ∧ p.1.toInt ≤ 6 ∧ 0 ≤ p.2.1.toInt ∧ p.2.1.toInt ≤ p.2.2.toInt ∧ p.2.2.toInt ≤ 10949
def WfCl (c : mCl) : Prop := 0 ≤ c.1.toInt ∧ c.1.toInt ≤ 11 ∧ 0 ≤ c.2.1.toInt ∧ c.2.1.toInt < 1000000000 ∧ (c.1.toInt ≤ 1 → c.2.1.toInt ≤ 5)
def WfTell (t : mTell) : Prop := ((t.1 = 6 ∨ t.1 = 7) → t.2.2.1 = 0) ∧ (tCls t).length ≤ 30 ∧ (t.1 = 5 → 0 ≤ (tVal t).toInt ∧ (tVal t).toInt ≤ 1000000000000) ∧ (t.1 = 7 → 0 ≤ (tVal t).toInt ∧ (tVal t).toInt ≤ 2) ∧ (t.1 = 2 → 0 ≤ (tVal t).toInt ∧ (tVal t).toInt ≤ 9) ∧ ∀ c ∈ tCls t, WfCl c
def WfTT (P : List mPol) (T : List mTell) : Prop := WfT T ∧ WfPl T P.length ∧ WfAc P T ∧ (tlA T 2).length ≤ 60 ∧ (tlA T 4).length ≤ 200 ∧ (tlA T 5).length ≤ 300 ∧ (tlA T 6).length ≤ 150 ∧ (tlA T 7).length ≤ 150 ∧ ∀ t ∈ T, WfTell t
def WfLoss (l : mLoss) : Prop := 0 ≤ l.1.toInt ∧ l.1.toInt ≤ 5 ∧ 0 ≤ l.2.1.toInt ∧ l.2.1.toInt ≤ 10949 ∧ 0 ≤ l.2.2.2.1.toInt ∧ l.2.2.2.1.toInt ≤ 100 ∧ (l.2.2.1 ≠ none → l.2.2.2.2.2 = []) ∧ ∀ x ∈ l.2.2.2.2.2, 0 ≤ x.1.toInt ∧ x.1.toInt ≤ 9 ∧ 0 ≤ x.2.1.toInt ∧ x.2.1.toInt ≤ 1000000000000 ∧ 0 ≤ x.2.2.toInt ∧ x.2.2.toInt ≤ 1000000000000
def WfLL (Ls : List mLoss) : Prop := Ls.length ≤ 200 ∧ WfL Ls ∧ ∀ l ∈ Ls, WfLoss l
def WfFac (f : mFact) : Prop := 12 ≤ f.1.toInt ∧ f.1.toInt ≤ 19 ∧ 0 ≤ f.2.1.toInt ∧ f.2.1.toInt ≤ 10949 ∧ 0 ≤ (m_fc f).toInt ∧ (m_fc f).toInt ≤ 1000000000000 ∧ 0 ≤ (m_fi f).toInt ∧ (m_fi f).toInt ≤ (m_fc f).toInt ∧ (f.1 ≠ 13 → m_fi f = 0) ∧ (f.1 = 17 → 1 ≤ f.2.2.2.1.toInt ∧ f.2.2.2.1.toInt ≤ 5) ∧ (f.1 = 16 → 0 ≤ f.2.2.2.1.toInt ∧ f.2.2.2.1.toInt < 6 ∧ (f.2.2.2.2.1 = 0 ∨ f.2.2.2.2.1 = 1) ∧ 0 ≤ f.2.2.2.2.2.1.toInt ∧ f.2.2.2.2.2.1.toInt ≤ 10949)
def WfFs (fs : List mFact) : Prop := fs.length ≤ 40 ∧ (∀ f ∈ fs, WfFac f) ∧ fs.Pairwise (fun f g => f.2.1.toInt ≤ g.2.1.toInt ∧ f.2.2.1.toInt < g.2.2.1.toInt)
def WfCas (P : List mPol) (Ls : List mLoss) (c : mCase) : Prop := c.1 < P.length ∧ c.2.2.1 < Ls.length ∧ (m_ld Ls c).toInt ≤ c.2.2.2.1.toInt ∧ c.2.2.2.1.toInt ≤ 10949 ∧ WfFs c.2.2.2.2.2 ∧ (∀ f ∈ c.2.2.2.2.2, c.2.2.2.1.toInt ≤ f.2.1.toInt) ∧ ∀ f ∈ c.2.2.2.2.2, f.1 = 16 → f.2.2.2.1.toInt < (m_items Ls (m_base Ls c.2.2.1)).length
def WfCC (P : List mPol) (Ls : List mLoss) (Cs : List mCase) : Prop := Cs.length ≤ 100 ∧ ∀ c ∈ Cs, WfCas P Ls c
def WfD (P : List mPol) (T : List mTell) (Ls : List mLoss) (Cs : List mCase) : Prop := WfP P ∧ WfTT P T ∧ WfLL Ls ∧ WfCC P Ls Cs
/-- the parts of the reference's state that are only read while something is worked out -/
def Dat (σ : am_S) (o : Nat) (P : List mPol) (T : List mTell) (Ls : List mLoss) (Cs : List mCase) : Prop := OffK σ o ∧ ModK σ ∧ rPol σ o P ∧ rRnk σ o (tlA T 2) ∧ rPla σ o (tlA T 4) ∧ rPer σ o (tlA T 5) ∧ rRul σ o (tlA T 7) ∧ rSet σ o (tlA T 6) ∧ rLos σ o Ls ∧ rCas σ o Cs
def daF : List Nat := [13002, 13006, 13010, 13015, 13020, 13024, 13031, 13035, 13045]
theorem sub_all {l l' fs : List Nat} (h : (l.all fun x => ! fs.contains x) = true) (hs : l'.all (fun x => l.contains x) = true) : (l'.all fun x => ! fs.contains x) = true := by
  rw [List.all_eq_true] at h hs ⊢
  intro x hx
  exact h x (by simpa using hs x hx)
section
variable {σ σ1 : am_S} {o : Nat} {P : List mPol} {T : List mTell} {Ls : List mLoss} {Cs : List mCase} {fs as ms : List Nat}
theorem Dat.rc (h : Dat σ o P T Ls Cs) (hr : Rc o fs as ms σ σ1) (hd : ((daF.all fun x => ! fs.contains x) && (((List.range 50).all fun x => ! as.contains x) && ms.all (fun x => decide (x < 1063)))) = true) : Dat σ1 o P T Ls Cs := by
  rw [Bool.and_eq_true, Bool.and_eq_true] at hd
  obtain ⟨d1, d2, d3⟩ := hd
  obtain ⟨hK, hM, hP, hRk, hPl, hPe, hRu, hSe, hLs, hC⟩ := h
  have lo := hK.lo
  have mk : ∀ {fl al : List Nat}, (fl.all fun x => daF.contains x) = true → (al.all fun x => (List.range 50).contains x) = true → (fl.all (fun x => ! fs.contains x) && (al.all (fun x => ! as.contains x) && ms.all (fun x => decide (x < 1063)))) = true := by
    intro fl al h1 h2
    rw [Bool.and_eq_true, Bool.and_eq_true]
    exact ⟨sub_all d1 h1, sub_all d2 h2, d3⟩
  exact ⟨hK.rc hr, hM.rc hr, kPol.rc hP hr lo (mk (by decide) (by decide)), kRnk.rc hRk hr lo (mk (by decide) (by decide)), kPla.rc hPl hr lo (mk (by decide) (by decide)), kPer.rc hPe hr lo (mk (by decide) (by decide)), kRul.rc hRu hr lo (mk (by decide) (by decide)), kSet.rc hSe hr lo (mk (by decide) (by decide)), kLos.rc hLs hr lo (mk (by decide) (by decide)), kCas.rc hC hr lo (mk (by decide) (by decide))⟩
theorem Dat.k (h : Dat σ o P T Ls Cs) : OffK σ o := h.1
theorem Dat.m (h : Dat σ o P T Ls Cs) : ModK σ := h.2.1
theorem Dat.pol (h : Dat σ o P T Ls Cs) : rPol σ o P := h.2.2.1
theorem Dat.rnk (h : Dat σ o P T Ls Cs) : rRnk σ o (tlA T 2) := h.2.2.2.1
theorem Dat.pla (h : Dat σ o P T Ls Cs) : rPla σ o (tlA T 4) := h.2.2.2.2.1
theorem Dat.per (h : Dat σ o P T Ls Cs) : rPer σ o (tlA T 5) := h.2.2.2.2.2.1
theorem Dat.rul (h : Dat σ o P T Ls Cs) : rRul σ o (tlA T 7) := h.2.2.2.2.2.2.1
theorem Dat.set (h : Dat σ o P T Ls Cs) : rSet σ o (tlA T 6) := h.2.2.2.2.2.2.2.1
theorem Dat.los (h : Dat σ o P T Ls Cs) : rLos σ o Ls := h.2.2.2.2.2.2.2.2.1
theorem Dat.cas (h : Dat σ o P T Ls Cs) : rCas σ o Cs := h.2.2.2.2.2.2.2.2.2
end
section
variable {P : List mPol} {T : List mTell} {Ls : List mLoss} {Cs : List mCase}
theorem WfD.p100 (w : WfD P T Ls Cs) : P.length ≤ 100 := w.1.1
theorem WfD.t (w : WfD P T Ls Cs) : WfT T := w.2.1.1
theorem WfD.pl (w : WfD P T Ls Cs) : WfPl T P.length := w.2.1.2.1
theorem WfD.ac (w : WfD P T Ls Cs) : WfAc P T := w.2.1.2.2.1
theorem WfD.n2 (w : WfD P T Ls Cs) : (tlA T 2).length ≤ 60 := w.2.1.2.2.2.1
theorem WfD.n4 (w : WfD P T Ls Cs) : (tlA T 4).length ≤ 200 := w.2.1.2.2.2.2.1
theorem WfD.n5 (w : WfD P T Ls Cs) : (tlA T 5).length ≤ 300 := w.2.1.2.2.2.2.2.1
theorem WfD.n6 (w : WfD P T Ls Cs) : (tlA T 6).length ≤ 150 := w.2.1.2.2.2.2.2.2.1
theorem WfD.n7 (w : WfD P T Ls Cs) : (tlA T 7).length ≤ 150 := w.2.1.2.2.2.2.2.2.2.1
theorem WfD.te (w : WfD P T Ls Cs) : ∀ t ∈ T, WfTell t := w.2.1.2.2.2.2.2.2.2.2
theorem WfD.l200 (w : WfD P T Ls Cs) : Ls.length ≤ 200 := w.2.2.1.1
theorem WfD.l (w : WfD P T Ls Cs) : WfL Ls := w.2.2.1.2.1
theorem WfD.ls (w : WfD P T Ls Cs) : ∀ l ∈ Ls, WfLoss l := w.2.2.1.2.2
theorem WfD.c100 (w : WfD P T Ls Cs) : Cs.length ≤ 100 := w.2.2.2.1
theorem WfD.c (w : WfD P T Ls Cs) {i : Nat} {c : mCase} (h : Cs[i]? = some c) : WfCas P Ls c := w.2.2.2.2 c (List.mem_of_getElem? h)
end
section
variable {nl : Bool} {Ln : Nat} {xs : Nat → Int32} {d : Nat} {σ : am_S} {o : Nat} {P : List mPol} {T : List mTell} {Ls : List mLoss} {Cs : List mCase}
theorem r_lossYear {i : Nat} {c : mCase} {F : Int32 → am_S → Prop} (D : Dat σ o P T Ls Cs) (w : WfD P T Ls Cs) (hi : Cs[i]? = some c) (K : F (m_year (m_ld Ls c)) σ) : k_Ro_lossYear nl Ln xs (d + 1) o (Int32.ofNat i) σ F := by
  have hlt := lt_of_get hi
  have h100 := w.c100
  have h200 := w.l200
  have hc := w.c hi
  have b : 0 ≤ (Int32.ofNat i).toInt ∧ (Int32.ofNat i).toInt < 100 := by rw [n32 (by omega)]; omega
  have hl := hc.2.1
  have bl : 0 ≤ (Int32.ofNat c.2.2.1).toInt ∧ (Int32.ofNat c.2.2.1).toInt < 200 := by rw [n32 (by omega)]; omega
  have v1 : am_aI σ (o + 38) i = Int32.ofNat c.2.2.1 := D.cas.2.2.2.1 i _ hi
  have v2 : am_aI σ (o + 28) c.2.2.1 = (Ls.getD c.2.2.1 mLoss0).2.1 := D.los.2.2.1 _ _ (getD_some mLoss0 hl)
  refine w_Ro_lossYear ?_
  rw [oG_13048 D.k, oG_13037 D.k, n32c (by omega), v1, n32c (by omega), v2]
  exact ⟨is_mk D.k.2.1, oA_13048 D.k b.1 b.2, oA_13037 D.k bl.1 bl.2, K⟩
theorem ixO_eq {x : Option Nat} {p : Nat} (hx : ∀ i, x = some i → i < 1000) (hp : p < 1000) : ixO x = Int32.ofNat p ↔ x = some p := by
  cases x with
  | none =>
    constructor
    · intro h; exact absurd h.symm (ne_m1 (by omega))
    · intro h; cases h
  | some i =>
    show Int32.ofNat i = Int32.ofNat p ↔ _
    rw [n32i (by have := hx i rfl; omega) (by omega)]
    simp
theorem m_cov_lt {P : List mPol} {T : List mTell} (hpl : WfPl T P.length) {at' : Int32} : ∀ (f p : Nat) (pl : Int32) (q : Nat), p < P.length → m_cov P T at' f p pl = some q → q < P.length := by
  intro f
  induction f with
  | zero => intro p pl q _ h; cases h
  | succ f ih =>
    intro p pl q hp h
    rw [m_cov] at h
    split at h
    · cases hq : m_part T p pl at' with
      | none => rw [hq] at h; cases h
      | some y => rw [hq] at h; exact ih y 0 q (m_part_lt hpl hq) h
    · cases h; exact hp
theorem m_cov_kind {P : List mPol} {T : List mTell} {at' : Int32} : ∀ (f p : Nat) (pl : Int32) (q : Nat), m_cov P T at' f p pl = some q → (P.getD q mPol0).1 ≠ 6 := by
  intro f
  induction f with
  | zero => intro p pl q h; cases h
  | succ f ih =>
    intro p pl q h
    rw [m_cov] at h
    split at h
    · cases hq : m_part T p pl at' with
      | none => rw [hq] at h; cases h
      | some y => rw [hq] at h; exact ih y 0 q h
    · rename_i h6; cases h; exact h6
theorem r_used {p : Nat} {year at' : Int32} {F : Int64 → am_S → Prop} (D : Dat σ o P T Ls Cs) (w : WfD P T Ls Cs) (hp : p < 1000) (K : F (m_usedL P T Ls year at' p Cs) σ) : k_Ro_used nl Ln xs (d + 3) o (Int32.ofNat p) year at' σ F := by
  have h100 := w.c100
  have hp100 := w.p100
  have loop : ∀ (j k : Nat) (acc : Int64), k + j = Cs.length → F (acc + m_usedL P T Ls year at' p (Cs.drop k)) σ → c_Ro_used_6 nl Ln xs (d + 3) o (Int32.ofNat p) year at' acc (Int32.ofNat k) σ F := by
    intro j
    induction j with
    | zero =>
      intro k acc hk K
      refine w_Ro_used_6 ⟨is_mk D.k.2.1, ?_, ?_⟩
      · rw [D.cas.1, n32lt (by omega) (by omega)]
        intro q; omega
      · intro _
        rw [List.drop_eq_nil_of_le (by omega), m_usedL, Int64.add_zero] at K
        exact K
    | succ j ih =>
      intro k acc hk K
      obtain ⟨c, hg⟩ := get_ex (show k < Cs.length by omega)
      have hc := w.c hg
      have b : 0 ≤ (Int32.ofNat k).toInt ∧ (Int32.ofNat k).toInt < 100 := by rw [n32 (by omega)]; omega
      have v1 : am_aI σ (o + 40) k = c.2.2.2.2.1 := D.cas.2.2.2.2.2.1 k _ hg
      rw [drop_get hg, m_usedL, ← Int64.add_assoc] at K
      refine w_Ro_used_6 ⟨is_mk D.k.2.1, ?_, ?_⟩
      · intro _
        rw [oG_13050 D.k, n32c (by omega), v1, n32s]
        refine ⟨oA_13050 D.k b.1 b.2, fun h1 => ih (k + 1) acc (by omega) ?_, fun h1 => r_lossYear D w hg (fun _ => ⟨fun h2 => ?_, fun h2 => ih (k + 1) acc (by omega) ?_⟩)⟩
        · rw [if_neg (by simp [m_of, h1]), Int64.add_zero] at K; exact K
        · refine r_coverOf D.k D.pol D.pla D.cas w.n4 w.t w.pl hp100 w.ac h100 hg hc.1 (fun _ => ⟨fun h3 => ?_, fun h3 => ih (k + 1) acc (by omega) ?_⟩)
          · have h3' := (ixO_eq (fun i hi => by have := m_cov_lt w.pl 101 c.1 c.2.1 i hc.1 hi; omega) hp).mp h3
            refine r_paidOf D.k D.cas h100 hg hc.2.2.2.2.1.1 (fun _ => r_recourseOf D.k D.cas h100 hg hc.2.2.2.2.1.1 (fun _ => ?_))
            intro v15 e15
            refine ih (k + 1) v15 (by omega) ?_
            rw [if_pos (by simp [m_of, h1, h2, h3'])] at K
            rw [e15]
            exact K
          · have h3' : ¬ m_cover P T c at' = some p := fun q => h3 ((ixO_eq (fun i hi => by have := m_cov_lt w.pl 101 c.1 c.2.1 i hc.1 hi; omega) hp).mpr q)
            rw [if_neg (by simp [m_of, h3']), Int64.add_zero] at K
            exact K
        · rw [if_neg (by simp [m_of, h2]), Int64.add_zero] at K; exact K
      · rw [D.cas.1, n32lt (by omega) (by omega)]
        intro q; omega
  exact w_Ro_used (loop Cs.length 0 0 (by omega) (by rw [Int64.zero_add]; exact K))
theorem r_isCase {v : Int64} {F : Bool → am_S → Prop} (hK : OffK σ o) (hC : rCas σ o Cs) (h100 : Cs.length ≤ 100) (K : F (decide (0 ≤ v.toInt ∧ v.toInt < Cs.length)) σ) : k_Ro_isCase nl Ln xs (d + 2) o v σ F := by
  refine w_Ro_isCase ⟨is_mk hK.2.1, ?_⟩
  rw [hC.1]
  refine w_Rm_in (fun _ => ?_)
  have e2 : (decide (decide (¬ v < 0 ∧ ¬ (Int32.ofNat Cs.length - 1).toInt64 < v) = true)) = decide (0 ≤ v.toInt ∧ v.toInt < Cs.length) := by
    apply decide_eq_decide.mpr
    rw [decide_eq_true_eq, i64lt, i64lt, t64, lenm1 (by omega)]
    have z : (0 : Int64).toInt = 0 := by decide
    rw [z]
    omega
  rw [e2]
  exact K
end
