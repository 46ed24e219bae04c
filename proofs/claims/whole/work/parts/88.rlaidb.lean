/-! WORKING OUT, by the reference: laid, the first half -/
theorem lay_lt (q : Nat → Bool) (key : Nat → Int32) : ∀ (n y : Nat), y ∈ m_lay q key n → y < n ∧ q y = true
  | 0, y, h => absurd h List.not_mem_nil
  | n + 1, y, h => by
    unfold m_lay at h
    split at h
    · rename_i hq
      rcases ins_mem h with h | h
      · rw [h]; exact ⟨by omega, hq⟩
      · have := lay_lt q key n y h
        exact ⟨by omega, this.2⟩
    · have := lay_lt q key n y h
      exact ⟨by omega, this.2⟩
theorem lay_len (q : Nat → Bool) (key : Nat → Int32) : ∀ (n : Nat), (m_lay q key n).length ≤ n
  | 0 => Nat.le_refl _
  | n + 1 => by
    have := lay_len q key n
    unfold m_lay
    split
    · rw [ins_len]; omega
    · omega
theorem lay_nodup (q : Nat → Bool) (key : Nat → Int32) : ∀ (n : Nat), (m_lay q key n).Nodup
  | 0 => List.nodup_nil
  | n + 1 => by
    unfold m_lay
    split
    · exact ins_nodup (lay_nodup q key n) (fun h => absurd (lay_lt q key n n h).1 (by omega))
    · exact lay_nodup q key n
theorem ins_filter (rk : Nat → Int32) (f : Nat → Bool) (x : Nat) (l : List Nat) : ((m_ins rk x l).filter f).length = (if f x = true then 1 else 0) + (l.filter f).length := by
  unfold m_ins
  have e : (l.filter f).length = ((l.take (m_pos rk x l l.length)).filter f).length + ((l.drop (m_pos rk x l l.length)).filter f).length := by
    rw [← List.length_append, ← List.filter_append, List.take_append_drop]
  rw [List.filter_append, List.length_append, e, List.filter_cons]
  split
  · rw [List.length_cons]; omega
  · omega
def lF (lk : Bool) : List Nat := 12015 :: eF lk
def wF (lk : Bool) : List Nat := 12015 :: 13079 :: eF lk
def wA : List Nat := [53, 54, 55, 56, 57, 58]
section
variable {nl : Bool} {Ln : Nat} {xs : Nat → Int32} {d : Nat} {σ : am_S} {o : Nat} {P : List mPol} {T : List mTell} {Ls : List mLoss} {Cs : List mCase} {i : Nat} {c : mCase} {day at' : Int32} {lk : Bool} {p : Nat} {st : Option Nat} {nf fnd : Int32} {ends : Bool} {s worth : Int64} {rows : List mRow} {tr : List Int32}
theorem r_lastBy {j : Nat} {F : Int32 → am_S → Prop} (w : WfD P T Ls Cs) (D : Dat σ o P T Ls Cs) (hj : j < (tlA T 6).length) (h71 : am_fI σ 13071 o = Int32.ofNat j) (K : F (m_by (clOf T (some j))) σ) : k_Ro_lastBy nl Ln xs (d + 1) o σ F := by
  have hK := D.k
  have h6 := w.n6
  obtain ⟨fr, g1, g2, g3, g4, g5⟩ := D.cls w hj
  obtain ⟨C, hC⟩ : ∃ C, C = clOf T (some j) := ⟨_, rfl⟩
  rw [← hC] at g1 g2 g4 g5 K
  have bj : 0 ≤ (Int32.ofNat j).toInt ∧ (Int32.ofNat j).toInt < 151 := by rw [n32 (by omega)]; omega
  have bj1 : 0 ≤ (Int32.ofNat (j + 1)).toInt ∧ (Int32.ofNat (j + 1)).toInt < 151 := by rw [n32 (by omega)]; omega
  have loop : ∀ (n k : Nat) (acc : Int32), k + n = C.length → F (m_last (fun c : mCl => decide (¬ c.1 < 10)) (fun c => c.1) acc (C.drop k)) σ → c_Ro_lastBy_12 nl Ln xs (d + 1) o acc (Int32.ofNat (fr + k)) σ F := by
    intro n
    induction n with
    | zero =>
      intro k acc hk K
      refine w_Ro_lastBy_12 ?_
      rw [h71, n32s, oG_13027 hK, n32c (by omega), g4, n32lt (by omega) (by omega)]
      refine ⟨is_mk hK.2.1, oA_13027 hK bj1.1 bj1.2, fun q => absurd q (by omega), fun _ => ?_⟩
      rw [List.drop_eq_nil_of_le (by omega)] at K
      exact K
    | succ n ih =>
      intro k acc hk K
      obtain ⟨cl, hcl⟩ := get_ex (show k < C.length by omega)
      have bk : 0 ≤ (Int32.ofNat (fr + k)).toInt ∧ (Int32.ofNat (fr + k)).toInt < 4560 := by rw [n32 (by omega)]; omega
      refine w_Ro_lastBy_12 ?_
      rw [h71, n32s, oG_13027 hK, n32c (show j + 1 < 2147483648 by omega), g4, n32lt (by omega) (by omega), oG_13028 hK, n32c (show fr + k < 2147483648 by omega), (g5 k cl hcl).1]
      refine ⟨is_mk hK.2.1, oA_13027 hK bj1.1 bj1.2, fun _ => ⟨oA_13028 hK bk.1 bk.2, fun _ => oA_13028 hK bk.1 bk.2, ?_⟩, fun q => absurd (by omega) q⟩
      intro w8 e8
      rw [n32s, Nat.add_assoc]
      refine ih (k + 1) w8 (by omega) ?_
      rw [drop_get hcl, m_last] at K
      rw [e8]
      by_cases h10 : cl.1 < 10
      · rw [if_neg (by rw [decide_eq_true_eq]; exact fun q => q h10)] at K
        rw [if_pos h10]
        exact K
      · rw [if_pos (by rw [decide_eq_true_eq]; exact h10)] at K
        rw [if_neg h10]
        exact K
  refine w_Ro_lastBy ?_
  rw [h71, oG_13027 hK, n32c (by omega), g3]
  refine ⟨is_mk hK.2.1, oA_13027 hK bj.1 bj.2, ?_⟩
  rintro v3 rfl
  have := loop C.length 0 (-1) (by omega) (by rw [List.drop_zero]; exact K)
  rw [Nat.add_zero] at this
  exact this
/-- the state while the cases are laid -/
def LaR (σ σ1 : am_S) (o : Nat) (day at' nf : Int32) (br : Nat → Int64) (f : Nat → Bool) (l : List Nat) : Prop := Rc o (lF false) wA [] σ σ1 ∧ am_fI σ1 12015 1053 = 0 ∧ am_fI σ1 13072 o = day ∧ am_fI σ1 13073 o = at' ∧ rwI σ1 (o + 57) l (fun x => Int32.ofNat x) ∧ (∀ y ∈ l, am_aL σ1 (o + 58) y = br y) ∧ am_fI σ1 12006 1053 = nf + Int32.ofNat (l.filter f).length
theorem r_laidA {year : Int32} {by' : Bool} {x1 x3 x9 x11 : Int64} {x7 x14 : Int32} {F : am_S → Prop} (w : WfD P T Ls Cs) (hH : WfH T) (D0 : Dat σ o P T Ls Cs) (hp : p < P.length) (hi : i < Cs.length) {q : Nat → Bool} {key : Nat → Int32} {br : Nat → Int64} {f : Nat → Bool}
    (hq : q = fun k => decide (¬ day < (Cs.getD k mCase0).2.2.2.1) && m_of P T Ls year at' p (Cs.getD k mCase0)) (hkey : key = fun k => m_key Ls day at' by' (Cs.getD k mCase0)) (hbr : br = m_brings P T Ls Cs day at' i x9) (hf : f = fun k => decide (k ≠ i) && decide ((m_begin P T Ls (Cs.getD k mCase0) day at').2.2.1 ≠ 0))
    (K : ∀ σ1, LaR σ σ1 o day at' nf br f (m_lay q key Cs.length) → c_Ro_laid_79 nl Ln xs (d + 417) o x1 x3 (Int32.ofNat i) (Int32.ofNat p) x7 year x9 x11 (b2i by') x14 (Int32.ofNat (m_lay q key Cs.length).length) (Int32.ofNat Cs.length) σ1 F) :
    ∀ (n k : Nat) (σ1 : am_S), k + n = Cs.length → LaR σ σ1 o day at' nf br f (m_lay q key k) → c_Ro_laid_79 nl Ln xs (d + 417) o x1 x3 (Int32.ofNat i) (Int32.ofNat p) x7 year x9 x11 (b2i by') x14 (Int32.ofNat (m_lay q key k).length) (Int32.ofNat k) σ1 F := by
  have h100 := w.c100
  have hp100 := w.p100
  have lo := D0.k.lo
  intro n
  induction n with
  | zero =>
    intro k σ1 hk L
    rw [show k = Cs.length by omega] at L ⊢
    exact K σ1 L
  | succ n ih =>
    intro k σ1 hk L
    obtain ⟨lr, l15, l72, l73, lo57, l58, lnf⟩ := L
    obtain ⟨ck, hck⟩ := get_ex (show k < Cs.length by omega)
    have hgd : Cs.getD k mCase0 = ck := getD_of mCase0 hck
    have D1 := D0.rc lr (by decide)
    have bk : 0 ≤ (Int32.ofNat k).toInt ∧ (Int32.ofNat k).toInt < 100 := by rw [n32 (by omega)]; omega
    have v40 : am_aI σ1 (o + 40) k = ck.2.2.2.2.1 := D1.cas.2.2.2.2.2.1 k _ hck
    have v39 : am_aI σ1 (o + 39) k = ck.2.2.2.1 := D1.cas.2.2.2.2.1 k _ hck
    have hqk : q k = (decide (¬ day < ck.2.2.2.1) && m_of P T Ls year at' p ck) := by rw [hq]; show (decide (¬ day < (Cs.getD k mCase0).2.2.2.1) && m_of P T Ls year at' p (Cs.getD k mCase0)) = _; rw [hgd]
    have hcw := w.c hck
    have skip : q k = false → c_Ro_laid_79 nl Ln xs (d + 417) o x1 x3 (Int32.ofNat i) (Int32.ofNat p) x7 year x9 x11 (b2i by') x14 (Int32.ofNat (m_lay q key k).length) (Int32.ofNat k + 1) σ1 F := by
      intro hf0
      have e : m_lay q key (k + 1) = m_lay q key k := by rw [m_lay, if_neg (by rw [hf0]; decide)]
      have := ih (k + 1) σ1 (by omega) (by rw [e]; exact ⟨lr, l15, l72, l73, lo57, l58, lnf⟩)
      rw [e] at this
      rw [n32s]
      exact this
    refine w_Ro_laid_79 ⟨is_mk D1.k.2.1, ?_, ?_⟩
    · rw [D1.cas.1, oG_13050 D1.k, oG_13049 D1.k, n32c (by omega), v40, v39, l72, l73]
      intro _
      refine ⟨oA_13050 D1.k bk.1 bk.2, fun h => skip (by rw [hqk]; simp [m_of, h]), fun hmo => ⟨oA_13049 D1.k bk.1 bk.2, fun h => skip (by rw [hqk]; simp [h]), fun hda => ?_⟩⟩
      refine r_lossYear D1 w hck (fun _ => ⟨fun hy => ?_, fun hy => skip (by rw [hqk]; simp [m_of, hy])⟩)
      rw [l73]
      refine (r_coverOf (d := d + 414) D1.k D1.pol D1.pla D1.cas w.n4 w.t w.pl hp100 w.ac h100 hck hcw.1 (fun _ => ⟨fun hcv => ?_, fun hcv => skip ?_⟩))
      · have hcv : m_cover P T ck at' = some p := (ixO_eq (fun q hq => by have := m_cov_lt w.pl 101 _ _ _ hcw.1 hq; omega) (by omega)).mp hcv
        have hqt : q k = true := by
          rw [hqk]
          simp only [m_of, hmo, hda, hy, hcv, not_false_eq_true, decide_true, Bool.and_self]
        have e : m_lay q key (k + 1) = m_ins key k (m_lay q key k) := by rw [m_lay, if_pos hqt]
        have hll := lay_len q key k
        -- the case goes to its place
        have place : ∀ σ2, Rc o (lF false) wA [] σ σ2 → am_fI σ2 12015 1053 = 0 → am_fI σ2 13072 o = day → am_fI σ2 13073 o = at' → rwI σ2 (o + 57) (m_lay q key k) (fun x => Int32.ofNat x) → (∀ y ∈ m_lay q key k, am_aL σ2 (o + 58) y = br y) → am_aL σ2 (o + 58) k = br k → am_fI σ2 12006 1053 = nf + Int32.ofNat ((if f k = true then 1 else 0) + ((m_lay q key k).filter f).length) → c_Ro_laid_183 nl Ln xs (d + 417) o x1 x3 (Int32.ofNat i) (Int32.ofNat p) x7 year x9 x11 (b2i by') x14 (Int32.ofNat (m_lay q key k).length) (Int32.ofNat k) σ2 F := by
          intro σ2 r2 f15 f72 f73 f57 f58 fk fn
          have D2 := D0.rc r2 (by decide)
          refine w_Ro_laid_183 ⟨is_mk D2.k.2.1, ?_⟩
          refine (r_lay (d := d + 412) w D2 f72 f73 f57 (by omega) (fun y hy => by have := (lay_lt q key k y hy).1; omega) (by omega) (fun s3 h57 r3 _ => ?_))
          rw [← hkey] at h57
          rw [n32s]
          have := ih (k + 1) s3 (by omega) (by
            rw [e]
            refine ⟨r2.trans (r3.mono (by simp) (by decide) (by simp)), (r3.fI (by simp)).trans f15, (r3.fI (by simp)).trans f72, (r3.fI (by simp)).trans f73, h57, ?_, ?_⟩
            · intro y hy
              rw [r3.aL lo (by simp) (by decide)]
              rcases ins_mem hy with h | h
              · rw [h]; exact fk
              · exact f58 y h
            · rw [ins_filter]
              exact (r3.fI (by simp)).trans fn)
          rw [e, ins_len] at this
          exact this
        rw [oG_13086 D1.k]
        refine ⟨oA_13086 D1.k bk.1 bk.2, ?_⟩
        intro s14 q14
        have r14 : Rc o (lF false) wA [] σ1 s14 := by rw [q14]; exact Rc.saL (by decide)
        have r14' : Rc o [] [58] [] σ1 s14 := by rw [q14]; exact Rc.saL (by decide)
        have a14 : am_aL s14 (o + 58) k = x9 := by rw [q14]; exact aL_same
        have o14 : ∀ y ∈ m_lay q key k, am_aL s14 (o + 58) y = br y := by
          intro y hy
          rw [q14]
          show am_aL (am_saL σ1 (o + 58) k x9) (o + 58) y = _
          rw [aL_i (by have := (lay_lt q key k y hy).1; omega)]
          exact l58 y hy
        have p14 : rwI s14 (o + 57) (m_lay q key k) (fun x => Int32.ofNat x) := lo57.eq fun z => r14'.aI lo (by simp) (by decide)
        rw [n32i (by omega) (by omega)]
        refine ⟨fun hki => ?_, fun hki => ?_⟩
        · refine place s14 (lr.trans r14) ((r14'.fI (by simp)).trans l15) ((r14'.fI (by simp)).trans l72) ((r14'.fI (by simp)).trans l73) p14 o14 ?_ ?_
          · rw [a14, hbr]
            show x9 = if k = i then x9 else _
            rw [if_pos hki]
          · rw [hf]
            show _ = nf + Int32.ofNat ((if (decide (k ≠ i) && decide ((m_begin P T Ls (Cs.getD k mCase0) day at').2.2.1 ≠ 0)) = true then 1 else 0) + _)
            rw [if_neg (by simp [hki]), Nat.zero_add, ← hf]
            exact (r14'.fI (by simp)).trans lnf
        · rw [(r14'.fI (by simp)).trans l72, (r14'.fI (by simp)).trans l73]
          refine r_begin w hH hck (D0.rc (lr.trans r14) (by decide)) (lk := false) ⟨(r14'.fI (by simp)).trans l15, fun q => by cases q⟩ ((r14'.fI (by simp)).trans lnf) (fun R hR s18 p' st' w' S18 _ r18 _ => ?_)
          have D18 := S18.1.1
          rw [oG_13086 D18.k]
          refine ⟨oA_13086 D18.k bk.1 bk.2, ?_⟩
          intro s21 q21
          rw [S18.2.2.2.2.2.2.1] at q21
          have r21 : Rc o [] [58] [] s18 s21 := by rw [q21]; exact Rc.saL (by decide)
          have r18' : Rc o (lF false) wA [] s14 s18 := r18.mono (by decide) (by decide) (by decide)
          refine place s21 (((lr.trans r14).trans r18').trans (r21.mono (by simp) (by decide) (by simp))) ((r21.fI (by simp)).trans S18.1.2.2.2.2.2.2.1) ((r21.fI (by simp)).trans S18.1.2.2.2.2.1) ((r21.fI (by simp)).trans S18.1.2.2.2.2.2.1) ?_ ?_ ?_ ?_
          · exact p14.eq fun z => (r21.aI lo (by simp) (by decide)).trans (r18.aI lo (by decide) (by decide))
          · intro y hy
            rw [q21]
            show am_aL (am_saL s18 (o + 58) k _) (o + 58) y = _
            rw [aL_i (by have := (lay_lt q key k y hy).1; omega), r18.aL lo (by decide) (by decide)]
            exact o14 y hy
          · rw [q21, hbr]
            show am_aL (am_saL s18 (o + 58) k _) (o + 58) k = if k = i then x9 else _
            rw [aL_same, if_neg hki, hR, hgd]
          · refine (r21.fI (by simp)).trans (S18.2.2.2.1.trans ?_)
            unfold nfR
            rw [hf]
            show _ = nf + Int32.ofNat ((if (decide (k ≠ i) && decide ((m_begin P T Ls (Cs.getD k mCase0) day at').2.2.1 ≠ 0)) = true then 1 else 0) + _)
            rw [← hf, hgd, ← hR]
            by_cases h0 : R.2.2.1 = 0
            · rw [if_pos h0, if_neg (by simp [h0]), Nat.zero_add]
            · rw [if_neg h0, if_pos (by simp [h0, hki]), Nat.add_comm 1, ← n32s, Int32.add_assoc]
      · rw [hqk]
        have hcv : ¬ m_cover P T ck at' = some p := fun q => hcv (by rw [q]; rfl)
        simp [m_of, hcv]
    · rw [D1.cas.1, n32lt (by omega) (by omega)]
      exact fun h => absurd (by omega) h
end
