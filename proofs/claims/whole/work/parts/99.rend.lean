/-! BATCHES, by the reference: the end of one -/
def mW (M : mOff) (now : Int32) (Cs : List mCase) : mOff := ((o_per M, now, o_bat M, o_tri M, o_und M), o_pol M, o_tel M, o_los M, Cs, o_hel M, o_log M)
/-- the same cases, with more facts -/
def CExt (Cs Cs' : List mCase) : Prop := Cs'.length = Cs.length ∧ ∀ (i : Nat) (c' : mCase), Cs'[i]? = some c' → ∃ (c : mCase) (e : List mFact), Cs[i]? = some c ∧ c' = (c.1, c.2.1, c.2.2.1, c.2.2.2.1, c.2.2.2.2.1, c.2.2.2.2.2 ++ e)
theorem CExt.keep {Cs Cs' : List mCase} (h : CExt Cs Cs') (k : Nat) (f : mFact) : CExt Cs (Cs'.modify k (fun c => (c.1, c.2.1, c.2.2.1, c.2.2.2.1, c.2.2.2.2.1, c.2.2.2.2.2 ++ [f]))) := by
  refine ⟨by rw [List.length_modify]; exact h.1, fun i c' hc' => ?_⟩
  rcases get_mod hc' with ⟨p1, y, p2, p3⟩ | ⟨p1, p2⟩
  · obtain ⟨c, e, q1, q2⟩ := h.2 k y p2
    refine ⟨c, e ++ [f], by rw [p1]; exact q1, ?_⟩
    rw [p3, q2, List.append_assoc]
  · exact h.2 i c' p2
theorem CExt.rf (Cs : List mCase) : CExt Cs Cs := ⟨rfl, fun i c h => ⟨c, [], h, by rw [List.append_nil]⟩⟩
def reF : List Nat := (List.range 99).map (fun k => 13000 + k) ++ [12006, 12015]
theorem Rc.alle {o : Nat} {σ : am_S} {fs as : List Nat} {σ1 : am_S} (h : Rc o fs as [] σ σ1) (hd : (fs.all (fun x => reF.contains x) && as.all (fun x => raA.contains x)) = true) : Rc o reF raA [] σ σ1 := by
  rw [Bool.and_eq_true] at hd
  exact h.mono (fun x hx => by simpa using List.all_eq_true.mp hd.1 x hx) (fun x hx => by simpa using List.all_eq_true.mp hd.2 x hx) (fun x hx => hx)
theorem Rc.re {o : Nat} {σ σ1 : am_S} (h : Rc o raF raA [] σ σ1) : Rc o reF raA [] σ σ1 := h.mono (fun x hx => List.mem_append_left _ hx) (fun x hx => hx) (fun x hx => hx)
section
variable {nl : Bool} {Ln : Nat} {xs : Nat → Int32} {d : Nat} {σ : am_S} {o : Nat} {M : mOff} {fnd : Int32}
/-- the state while the facts of a batch are done -/
def EnR (σ s : am_S) (o : Nat) (M : mOff) (now : Int32) (Cs : List mCase) (L : List Int32) (fnd : Int32) (h : Nat) : Prop := OfX s o (mW M now Cs) ∧ ModK s ∧ LogR s o L ∧ (∃ X, L = m_rlog M ++ X) ∧ L.length ≤ (m_rlog M).length + 70 * h ∧ am_fI s 12006 1053 = fnd ∧ (∀ (k : Nat) (c : mCase), (o_cas M)[k]? = some c → am_aI s (o + 60) k = Int32.ofNat c.2.2.2.2.2.length) ∧ Rc o reF raA [] σ s ∧ WfO (mW M now Cs) ∧ CExt (o_cas M) Cs ∧ now.toInt ≤ (o_now M).toInt + h
theorem r_end {m : Nat} {a : mArg} {F : Int32 → am_S → Prop} (w : WfO M) (R : OffR σ o M) (hM : ModK σ) (hu : o_und M = true) (h60 : (o_hel M).length ≤ 60) (hh : ∀ q ∈ o_hel M, 12 ≤ q.1 ∧ q.1 ≤ 19) (hl : (m_rlog M).length ≤ 430000) (hnow : (o_now M).toInt ≤ 2000000000) (hA : ArgR σ m a) (hm : m = 1060 ∨ m = o + 61) (hn : am_fI σ 12006 1053 = fnd)
    (K : ∀ r, r = m_end M fnd → ∀ σ', OffR σ' o r.2.1 → am_fI σ' 12006 1053 = r.2.2 → Rc o reF raA [] σ σ' → F r.1 σ') : k_Ro_end nl Ln xs (d + 422) o (some m) σ F := by
  obtain ⟨r, hr⟩ : ∃ r, r = m_end M fnd := ⟨_, rfl⟩
  have K' := K r hr
  obtain ⟨X, hG⟩ := R.x
  have hK := X.1
  have lo := hK.lo
  have hC : rCas σ o (o_cas M) := X.2.2.2.2.2.2.2.2.2.1
  have h100 := w.1.c100
  have h62 : am_fI σ 13062 o = b2i (o_und M) := X.2.1.2.2.2.2
  have kdm : am_kd σ m = (1001, 6) := hA.1
  have e1 : m_rlog M = o_log M ++ m_batchLog (o_hel M) := by unfold m_rlog; rw [if_pos hu]
  -- the end of all
  have last : ∀ {s : am_S} {now : Int32} {Cs : List mCase} {f' x2 x3 x4 : Int32} {x5 : Option Value}, OfX s o (mW M now Cs) → LogR s o (m_rlog M) → am_fI s 12006 1053 = f' → Rc o reF raA [] σ s → r = (x2, m_over M now Cs 21, f') → c_Ro_end_182 nl Ln xs (d + 422) o (some m) x2 x3 x4 x5 s F := by
    intro s now Cs f' x2 x3 x4 x5 Xs Ls fs rs er
    refine w_Ro_end_182 ⟨is_mk Xs.1.2.1, ?_⟩
    have As : ArgR s m (fun j => am_aL s m j) := ⟨by rw [rs.kd]; exact kdm, fun j _ => rfl⟩
    refine (r_over (d := d + 418) (n := 21) Xs Ls (by omega) As hm (Or.inl rfl) (fun s2 X2 L2 r2 _ => ?_))
    rw [er] at K'
    refine K' s2 (OfX.r X2 ?_) ((r2.fI (by decide)).trans fs) (rs.trans (r2.alle (by decide)))
    rw [e1, List.append_assoc] at L2
    exact L2
  -- the counts are put back
  have back : ∀ {s : am_S} {now : Int32} {Cs : List mCase} {f' x3 : Int32} {x5 : Option Value} {h : Nat}, h < 60 → OfX s o (mW M now Cs) → CExt (o_cas M) Cs → LogR s o (m_rlog M) → am_fI s 12006 1053 = f' → (∀ (k : Nat) (c : mCase), (o_cas M)[k]? = some c → am_aI s (o + 60) k = Int32.ofNat c.2.2.2.2.2.length) → Rc o reF raA [] σ s → r = (-20 - Int32.ofNat h, m_over M now (o_cas M) 21, f') → c_Ro_end_149 nl Ln xs (d + 422) o (some m) (-20 - Int32.ofNat h) x3 0 x5 s F := by
    intro s now Cs f' x3 x5 h hh60 Xs cx Ls fs hs60 rs er
    have neg : (-20 - Int32.ofNat h : Int32) < 0 := by
      rw [i32lt, i32sub (by rw [n32 (by omega)]; have : (-20 : Int32).toInt = -20 := by decide
                            omega) (by rw [n32 (by omega)]; have : (-20 : Int32).toInt = -20 := by decide
                                       omega), n32 (by omega), show (-20 : Int32).toInt = -20 by decide, show (0 : Int32).toInt = 0 by decide]
      omega
    have hKs := Xs.1
    have hCs : rCas s o Cs := Xs.2.2.2.2.2.2.2.2.2.1
    have loop : ∀ (j k : Nat) (s1 : am_S), k + j = (o_cas M).length → Rc o [] [41] [] s s1 → (∀ (i : Nat) (c : mCase), i < k → (o_cas M)[i]? = some c → am_aI s1 (o + 41) i = Int32.ofNat c.2.2.2.2.2.length) → c_Ro_end_149 nl Ln xs (d + 422) o (some m) (-20 - Int32.ofNat h) x3 (Int32.ofNat k) x5 s1 F := by
      intro j
      induction j with
      | zero =>
        intro k s1 hk r1 hb
        have hK1 := hKs.rc r1
        refine w_Ro_end_149 ⟨is_mk hK1.2.1, ?_, fun _ => ?_⟩
        · rw [(r1.fI (by simp)).trans hCs.1, n32lt (by omega) (by have := cx.1; omega)]
          exact fun q => absurd q (by have := cx.1; omega)
        · have X1 : OfX s1 o (mW M now (o_cas M)) := by
            obtain ⟨-, hN, hP, hRk, hPl, hPe, hRu, hSe, hLs, -, hHe⟩ := Xs
            refine ⟨hK1, kNum.rc hN r1 lo (by decide), kPol.rc hP r1 lo (by decide), kRnk.rc hRk r1 lo (by decide), kPla.rc hPl r1 lo (by decide), kPer.rc hPe r1 lo (by decide), kRul.rc hRu r1 lo (by decide), kSet.rc hSe r1 lo (by decide), kLos.rc hLs r1 lo (by decide), ?_, kHel.rc hHe r1 lo (by decide)⟩
            obtain ⟨g1, g2, g3, g4, g5, g6, g7, g8⟩ := hCs
            have get : ∀ (i : Nat) (c : mCase), (o_cas M)[i]? = some c → ∃ (c' : mCase) (e : List mFact), Cs[i]? = some c' ∧ c' = (c.1, c.2.1, c.2.2.1, c.2.2.2.1, c.2.2.2.2.1, c.2.2.2.2.2 ++ e) := by
              intro i c hc
              obtain ⟨c', hc'⟩ := get_ex (show i < Cs.length by rw [cx.1]; exact lt_of_get hc)
              obtain ⟨c2, e, q1, q2⟩ := cx.2 i c' hc'
              rw [hc] at q1
              cases q1
              exact ⟨c', e, hc', q2⟩
            refine ⟨by rw [r1.fI (by simp), g1, cx.1]; rfl, ?_, ?_, ?_, ?_, ?_, ?_, ?_⟩
            · intro i c hc
              obtain ⟨c', e, q1, q2⟩ := get i c hc
              rw [r1.aI lo (by simp) (by decide), g2 i c' q1, q2]
            · intro i c hc
              obtain ⟨c', e, q1, q2⟩ := get i c hc
              rw [r1.aI lo (by simp) (by decide), g3 i c' q1, q2]
            · intro i c hc
              obtain ⟨c', e, q1, q2⟩ := get i c hc
              rw [r1.aI lo (by simp) (by decide), g4 i c' q1, q2]
            · intro i c hc
              obtain ⟨c', e, q1, q2⟩ := get i c hc
              rw [r1.aI lo (by simp) (by decide), g5 i c' q1, q2]
            · intro i c hc
              obtain ⟨c', e, q1, q2⟩ := get i c hc
              rw [r1.aI lo (by simp) (by decide), g6 i c' q1, q2]
            · intro i c hc
              have : i < (o_cas M).length := lt_of_get hc
              exact hb i c (by omega) hc
            · intro i c hc q f hf
              obtain ⟨c', e, q1, q2⟩ := get i c hc
              have hq := lt_of_get hf
              have hf' : c'.2.2.2.2.2[q]? = some f := by
                rw [q2]
                show (c.2.2.2.2.2 ++ e)[q]? = some f
                rw [List.getElem?_append_left hq]
                exact hf
              refine (g8 i c' q1 q f hf').eq (fun x hx => ⟨r1.aI lo (by simp) ?_, r1.aL lo (by simp) ?_⟩)
              · intro z; rw [List.mem_singleton] at z; rw [z] at hx; exact absurd hx (by decide)
              · intro z; rw [List.mem_singleton] at z; rw [z] at hx; exact absurd hx (by decide)
          exact last X1 (Ls.rc r1 lo (by simp) (by simp) (by decide)) ((r1.fI (by simp)).trans fs) (rs.trans (r1.alle (by decide))) er
      | succ j ih =>
        intro k s1 hk r1 hb
        have hK1 := hKs.rc r1
        obtain ⟨c, hc⟩ := get_ex (show k < (o_cas M).length by omega)
        have bk : 0 ≤ (Int32.ofNat k).toInt ∧ (Int32.ofNat k).toInt < 100 := by rw [n32 (by omega)]; omega
        have v60 : am_aI s1 (o + 60) k = Int32.ofNat c.2.2.2.2.2.length := (r1.aI lo (by simp) (by decide)).trans (hs60 k c hc)
        refine w_Ro_end_149 ⟨is_mk hK1.2.1, fun _ => ⟨fun _ => ?_, fun q => absurd neg q⟩, fun q => absurd ?_ q⟩
        · rw [oG_13051 hK1, oG_13088 hK1, n32c (by omega), v60]
          refine ⟨oA_13088 hK1 bk.1 bk.2, oA_13051 hK1 bk.1 bk.2, ?_⟩
          intro s6 q6
          have r6 : Rc o [] [41] [] s1 s6 := by rw [q6]; exact Rc.saI (by decide)
          rw [n32s]
          refine ih (k + 1) s6 (by omega) (r1.trans r6) ?_
          intro i c' hi hc'
          rw [saI_all q6]
          by_cases e : i = k
          · rw [if_pos e]
            rw [e, hc] at hc'
            cases hc'
            rfl
          · rw [if_neg e]
            exact hb i c' (by omega) hc'
        · rw [(r1.fI (by simp)).trans hCs.1, n32lt (by omega) (by have := cx.1; omega)]
          have := cx.1
          omega
    exact loop (o_cas M).length 0 s (by omega) Rc.rf (fun i c hi => by omega)
  -- the log is put back
  have cut : ∀ {s s4 : am_S} {L : List Int32}, LogR s o L → (∃ X, L = m_rlog M ++ X) → s4 = am_sfI s 13067 o (Int32.ofNat (m_rlog M).length) → LogR s4 o (m_rlog M) := by
    intro s s4 L hL hX e
    obtain ⟨X, hX⟩ := hX
    refine ⟨by rw [e]; exact rI_same, fun i hi => ?_⟩
    rw [e]
    show am_aI s (o + 52) i &&& 255 = _
    rw [hL.2 i (by rw [hX, List.length_append]; omega), hX]
    rw [List.getD_eq_getElem?_getD, List.getD_eq_getElem?_getD, List.getElem?_append_left hi]
  have six : ∀ (i j : Nat), (6 : Int32) * Int32.ofNat i + Int32.ofNat j = Int32.ofNat (6 * i + j) := fun i j => by rw [show (6 : Int32) = Int32.ofNat 6 from rfl, ← Int32.ofNat_mul, n32a]
  -- the facts, one after the other
  have facts : ∀ (j h : Nat) (s : am_S) (now : Int32) (Cs : List mCase) (L : List Int32) (f' : Int32) (x5 : Option Value), h + j = (o_hel M).length → EnR σ s o M now Cs L f' h → m_endL 0 M fnd (o_hel M) = m_endL h (mW M now Cs) f' ((o_hel M).drop h) → c_Ro_end_51 nl Ln xs (d + 422) o (some m) (Int32.ofNat (o_hel M).length) (Int32.ofNat (m_rlog M).length) (Int32.ofNat h) x5 s F := by
    intro j
    induction j with
    | zero =>
      intro h s now Cs L f' x5 hj E em
      obtain ⟨Xs, Ms, Ls, LX, Ll, fs, hs60, rs, ws, cx, hnw⟩ := E
      have hHe : rHel s o (o_hel M) := Xs.2.2.2.2.2.2.2.2.2.2
      rw [List.drop_eq_nil_of_le (by omega), m_endL] at em
      have er : r = (Int32.ofNat (o_hel M).length, m_over M now Cs 21, f') := by rw [hr]; unfold m_end; rw [em]; rfl
      refine w_Ro_end_51 ⟨is_mk Xs.1.2.1, ?_, fun _ => ?_⟩
      · rw [hHe.1, n32lt (by omega) (by omega)]
        exact fun q => absurd q (by omega)
      · intro s7 q7
        have r7 : Rc o [13067] [] [] s s7 := by rw [q7]; exact Rc.sfI (by decide) (Or.inl rfl)
        have X7 := Xs.rc r7 (by decide)
        have L7 := cut Ls LX q7
        have hC7 : rCas s7 o Cs := X7.2.2.2.2.2.2.2.2.2.1
        have fin : ∀ {x4 : Int32}, c_Ro_end_182 nl Ln xs (d + 422) o (some m) (Int32.ofNat (o_hel M).length) (Int32.ofNat (m_rlog M).length) x4 x5 s7 F := fun {x4} => last X7 L7 ((r7.fI (by decide)).trans fs) (rs.trans (r7.alle (by decide))) er
        refine w_Ro_end_149 ⟨is_mk X7.1.2.1, fun _ => ⟨fun q => ?_, fun _ => fin⟩, fun _ => fin⟩
        rw [show (0 : Int32) = Int32.ofNat 0 from rfl, n32lt (by omega) (by decide)] at q
        omega
    | succ j ih =>
      intro h s now Cs L f' x5 hj E em
      obtain ⟨Xs, Ms, Ls, LX, Ll, fs, hs60, rs, ws, cx, hnw⟩ := E
      have hKs := Xs.1
      have hHe : rHel s o (o_hel M) := Xs.2.2.2.2.2.2.2.2.2.2
      obtain ⟨q, hq⟩ := get_ex (show h < (o_hel M).length by omega)
      have hq1 := hh q (List.mem_of_getElem? hq)
      rw [drop_get hq] at em
      have bh : 0 ≤ (Int32.ofNat h).toInt ∧ (Int32.ofNat h).toInt < 60 := by rw [n32 (by omega)]; omega
      refine w_Ro_end_51 ⟨is_mk hKs.2.1, fun _ => ⟨fun _ => ?_, fun z => absurd hHe.1.symm z⟩, fun z => absurd (by rw [hHe.1, n32lt (by omega) (by omega)]; omega) z⟩
      -- the numbers are put to their row
      have copy : ∀ (b k : Nat) (s1 : am_S), k + b = 6 → Rc o [] [61] [] s s1 → (∀ z, z < k → am_aL s1 (o + 61) z = q.2 z) → c_Ro_end_71 nl Ln xs (d + 422) o (some m) (Int32.ofNat (o_hel M).length) (Int32.ofNat (m_rlog M).length) (Int32.ofNat h) (Int32.ofNat k) s1 F := by
        intro b
        induction b with
        | zero =>
          intro k s1 hk r1 hz
          have ek : k = 6 := by omega
          have hK1 := hKs.rc r1
          have X1 := Xs.rc r1 (by decide)
          have v50 : am_aI s1 (o + 50) h = Int32.ofNat q.1 := (r1.aI lo (by simp) (by decide)).trans (hHe.2.1 h q hq)
          have A1 : ArgR s1 (o + 61) q.2 := ⟨oK_13089 hK1, fun z hz' => hz z (by omega)⟩
          refine w_Ro_end_71 ⟨fun z => absurd z (by rw [ek]; decide), fun _ => ⟨is_mk hK1.2.1, oA_13064 hK1 bh.1 bh.2, ?_⟩⟩
          rw [oG_13064 hK1, n32c (by omega), v50, oR_13089 hK1]
          have hm1 : ModK s1 := Ms.rc r1
          refine (r_fact (d := d + 1) (M := mW M now Cs) ws.1 ws.2.1 X1 hm1 (Ls.rc r1 lo (by simp) (by simp) (by decide)) (by omega) A1 (Or.inr rfl) hq1.1 hq1.2 ((r1.fI (by simp)).trans fs) (fun rf hrf s10 X10 L10 f10 r10 _ => ?_))
          have h10 : ∀ (k : Nat) (c : mCase), (o_cas M)[k]? = some c → am_aI s10 (o + 60) k = Int32.ofNat c.2.2.2.2.2.length := fun k c hc => (r10.aI lo (by simp) (by decide)).trans ((r1.aI lo (by simp) (by decide)).trans (hs60 k c hc))
          have rr10 : Rc o reF raA [] σ s10 := (rs.trans (r1.alle (by decide))).trans (r10.alle (by decide))
          have em2 : m_endL 0 M fnd (o_hel M) = if rf.1 < 0 then (some h, rf.2.1, rf.2.2) else m_endL (h + 1) rf.2.1 rf.2.2 ((o_hel M).drop (h + 1)) := by rw [em, hrf]; rfl
          have hwf := fact_wf (a := q.2) (fnd := f') ws hq1.1 hq1.2 (by show now.toInt < _; omega)
          rw [← hrf] at hwf
          have hHe10 : am_fI s10 13063 o = Int32.ofNat (o_hel M).length := (r10.fI (by decide)).trans ((r1.fI (by simp)).trans hHe.1)
          rw [hHe10]
          intro w14 e14
          rcases hwf with ⟨u1, u2⟩ | ⟨it, u1, u2, u3, u4⟩
          · have hneg : rf.1 < 0 := by rw [i32lt, show (0 : Int32).toInt = 0 by decide]; exact u2
            rw [if_pos hneg] at e14 em2
            have h1 : rf.1 ≠ 1 := fun z => by rw [z] at u2; exact absurd u2 (by decide)
            rw [u1] at X10 em2
            rw [if_neg h1] at L10
            have er : r = (-20 - Int32.ofNat h, m_over M now (o_cas M) 21, rf.2.2) := by rw [hr]; unfold m_end; rw [em2]; rfl
            rw [e14]
            -- the log, then the counts
            have go : ∀ {x5 : Option Value} {s4 : am_S}, s4 = am_sfI s10 13067 o (Int32.ofNat (m_rlog M).length) → c_Ro_end_149 nl Ln xs (d + 422) o (some m) (-20 - Int32.ofNat h) (Int32.ofNat (m_rlog M).length) 0 x5 s4 F := by
              intro x5 s4 q4
              have r4 : Rc o [13067] [] [] s10 s4 := by rw [q4]; exact Rc.sfI (by decide) (Or.inl rfl)
              exact back (by omega) (X10.rc r4 (by decide)) cx (cut L10 LX q4) ((r4.fI (by decide)).trans f10) (fun k c hc => (r4.aI lo (by simp) (by simp)).trans (h10 k c hc)) (rr10.trans (r4.alle (by decide))) er
            refine w_Ro_end_51 ⟨is_mk X10.1.2.1, fun _ => ⟨fun z => ?_, fun _ s4 q4 => go q4⟩, fun _ s7 q7 => go q7⟩
            rw [hHe10] at z
            have := congrArg Int32.toInt z
            rw [i32sub (by rw [n32 (by omega)]; have : (-20 : Int32).toInt = -20 := by decide
                           omega) (by rw [n32 (by omega)]; have : (-20 : Int32).toInt = -20 := by decide
                                      omega), n32 (by omega), n32 (by omega), show (-20 : Int32).toInt = -20 by decide] at this
            omega
          · have hnn : ¬ rf.1 < 0 := by rw [u2]; decide
            rw [if_neg hnn] at e14 em2
            rw [if_pos u2] at L10
            rw [u1] at X10 em2
            rw [e14, n32s]
            have one : (1 : Int32).toInt = 1 := by decide
            have en : (now + 1).toInt = now.toInt + 1 := by
              have := ws.2.2.1
              have : 0 ≤ now.toInt := this
              rw [i32add (by rw [one]; omega) (by rw [one]; omega), one]
            have hnl := note_le q.1 q.2
            refine ih (h + 1) s10 (now + 1) (Cs.modify (m_ix (q.2 0)) (fun c => (c.1, c.2.1, c.2.2.1, c.2.2.2.1, c.2.2.2.2.1, c.2.2.2.2.2 ++ [m_factOf q.1 q.2 (now + 1) it]))) _ _ _ (by omega) ⟨X10, hm1.rc r10, L10, ?_, ?_, f10, h10, rr10, u3, cx.keep _ _, by rw [en]; omega⟩ em2
            · obtain ⟨Y, hY⟩ := LX
              exact ⟨Y ++ m_note q.1 q.2 [], by rw [hY, List.append_assoc]⟩
            · rw [List.length_append]
              omega
        | succ b ihb =>
          intro k s1 hk r1 hz
          have hK1 := hKs.rc r1
          have bk : 0 ≤ (Int32.ofNat k).toInt ∧ (Int32.ofNat k).toInt < 6 := by rw [n32 (by omega)]; omega
          have bx : 0 ≤ (Int32.ofNat (6 * h + k)).toInt ∧ (Int32.ofNat (6 * h + k)).toInt < 360 := by rw [n32 (by omega)]; omega
          have v51 : am_aL s1 (o + 51) (6 * h + k) = q.2 k := (r1.aL lo (by simp) (by decide)).trans (hHe.2.2 h q hq k (by omega))
          refine w_Ro_end_71 ⟨fun _ => ⟨is_mk hK1.2.1, ?_⟩, fun z => absurd (by rw [show (6 : Int32) = Int32.ofNat 6 from rfl, n32lt (by omega) (by omega)]; omega) z⟩
          rw [six, oG_13065 hK1, oG_13089 hK1, n32c (by omega), n32c (by omega), v51]
          refine ⟨oA_13065 hK1 bx.1 bx.2, oA_13089 hK1 bk.1 bk.2, ?_⟩
          intro s5 q5
          have r5 : Rc o [] [61] [] s1 s5 := by rw [q5]; exact Rc.saL (by decide)
          rw [n32s]
          refine ihb (k + 1) s5 (by omega) (r1.trans r5) ?_
          intro z hz'
          rw [saL_all q5]
          by_cases e : z = k
          · rw [if_pos e, e]
          · rw [if_neg e]
            exact hz z (by omega)
      exact copy 6 0 s (by omega) Rc.rf (fun z hz => by omega)
  -- the counts are kept
  have save : ∀ (j k : Nat) (s : am_S), k + j = (o_cas M).length → Rc o [] [60] [] σ s → (∀ (i : Nat) (c : mCase), i < k → (o_cas M)[i]? = some c → am_aI s (o + 60) i = Int32.ofNat c.2.2.2.2.2.length) → c_Ro_end_12 nl Ln xs (d + 422) o (some m) (Int32.ofNat k) s F := by
    intro j
    induction j with
    | zero =>
      intro k s hk rs hb
      have hKs := hK.rc rs
      have Xs := X.rc rs (by decide)
      have hHe : rHel s o (o_hel M) := Xs.2.2.2.2.2.2.2.2.2.2
      have Ls := hG.rc rs lo (by simp) (by simp) (by decide)
      refine w_Ro_end_12 ⟨is_mk hKs.2.1, ?_, fun _ => ?_⟩
      · rw [(rs.fI (by simp)).trans hC.1, n32lt (by omega) (by omega)]
        exact fun z => absurd z (by omega)
      · rw [hHe.1, Ls.1]
        rintro v8 rfl v10 rfl
        have hW : mW M (o_now M) (o_cas M) = M := rfl
        exact facts (o_hel M).length 0 s (o_now M) (o_cas M) (m_rlog M) fnd none (by omega) ⟨Xs, hM.rc rs, Ls, ⟨[], (List.append_nil _).symm⟩, by omega, (rs.fI (by simp)).trans hn, fun k' c hc => hb k' c (by have := lt_of_get hc; omega) hc, rs.alle (by decide), w, CExt.rf _, by omega⟩ (by rw [List.drop_zero, hW])
    | succ j ih =>
      intro k s hk rs hb
      have hKs := hK.rc rs
      obtain ⟨c, hc⟩ := get_ex (show k < (o_cas M).length by omega)
      have bk : 0 ≤ (Int32.ofNat k).toInt ∧ (Int32.ofNat k).toInt < 100 := by rw [n32 (by omega)]; omega
      have v41 : am_aI s (o + 41) k = Int32.ofNat c.2.2.2.2.2.length := (rs.aI lo (by simp) (by decide)).trans (hC.2.2.2.2.2.2.1 k c hc)
      refine w_Ro_end_12 ⟨is_mk hKs.2.1, fun _ => ?_, fun z => absurd (by rw [(rs.fI (by simp)).trans hC.1, n32lt (by omega) (by omega)]; omega) z⟩
      rw [oG_13051 hKs, oG_13088 hKs, n32c (by omega), v41]
      refine ⟨oA_13051 hKs bk.1 bk.2, oA_13088 hKs bk.1 bk.2, ?_⟩
      intro s5 q5
      have r5 : Rc o [] [60] [] s s5 := by rw [q5]; exact Rc.saI (by decide)
      rw [n32s]
      refine ih (k + 1) s5 (by omega) (rs.trans r5) ?_
      intro i c' hi hc'
      rw [saI_all q5]
      by_cases e : i = k
      · rw [if_pos e]
        rw [e, hc] at hc'
        cases hc'
        rfl
      · rw [if_neg e]
        exact hb i c' (by omega) hc'
  refine w_Ro_end ⟨is_mk hK.2.1, ?_⟩
  rw [h62, hu]
  exact ⟨fun z => absurd z (by decide), fun _ => save (o_cas M).length 0 σ (by omega) Rc.rf (fun i c hi => by omega)⟩
end
