/-! THE CLASS: a text is read -/
def clN : List mCl → Nat
  | [] => 0
  | c :: l => cN c + clN l
abbrev Sg : Type := Nat × List Nat × mCl
def sgN (seg : List Sg) : List Nat := seg.flatMap (fun q => q.1 :: q.2.1)
theorem sgN_app (l : List Sg) (q : Sg) : sgN (l ++ [q]) = sgN l ++ [q.1] ++ q.2.1 := by
  unfold sgN
  rw [List.flatMap_append]
  simp
theorem clN_app : ∀ (l : List mCl) (c : mCl), clN (l ++ [c]) = clN l + cN c
  | [], c => by simp [clN]
  | x :: l, c => by rw [List.cons_append, clN, clN, clN_app l c]; omega
theorem sg_mem {seg : List Sg} {q : Sg} (h : q ∈ seg) : q.1 ∈ sgN seg ∧ ∀ y ∈ q.2.1, y ∈ sgN seg := by
  unfold sgN
  exact ⟨List.mem_flatMap.mpr ⟨q, h, List.mem_cons_self⟩, fun y hy => List.mem_flatMap.mpr ⟨q, h, List.mem_cons_of_mem _ hy⟩⟩
/-- the first of a clause is in no condition -/
theorem sg_nin : ∀ {seg : List Sg}, (sgN seg).Nodup → ∀ q ∈ seg, ∀ r ∈ seg, q.1 ∉ r.2.1 := by
  intro seg
  induction seg with
  | nil => intro _ q hq; exact absurd hq (by simp)
  | cons s l ih =>
    intro nd q hq r hr hm
    have nd : ((s.1 :: s.2.1) ++ sgN l).Nodup := nd
    obtain ⟨n1, n2, n3⟩ := List.nodup_append.mp nd
    rcases List.mem_cons.mp hq with hq2 | hq2
    · rw [hq2] at hm
      rcases List.mem_cons.mp hr with hr2 | hr2
      · rw [hr2] at hm
        exact (List.nodup_cons.mp n1).1 hm
      · exact n3 _ List.mem_cons_self _ ((sg_mem hr2).2 _ hm) rfl
    · rcases List.mem_cons.mp hr with hr2 | hr2
      · rw [hr2] at hm
        exact n3 _ (List.mem_cons_of_mem _ hm) _ (sg_mem hq2).1 rfl
      · exact ih n2 q hq2 r hr2 hm
theorem sg_fst {seg : List Sg} (nd : (sgN seg).Nodup) : (seg.map (fun q => q.1)).Nodup := by
  induction seg with
  | nil => exact List.nodup_nil
  | cons s l ih =>
    have nd : ((s.1 :: s.2.1) ++ sgN l).Nodup := nd
    obtain ⟨n1, n2, n3⟩ := List.nodup_append.mp nd
    rw [List.map_cons, List.nodup_cons]
    refine ⟨fun h => ?_, ih n2⟩
    obtain ⟨q, hq, e⟩ := List.mem_map.mp h
    exact n3 s.1 List.mem_cons_self q.1 (sg_mem hq).1 e.symm
/-- what the reader may touch -/
def rdX (q : Nat × Nat) : Prop := q = (1, 5) ∨ (q.1 = 2 ∧ 1034 ≤ q.2 ∧ q.2 ≤ 1037)
section
variable {nl : Bool} {Ln : Nat} {xs : Nat → Int32} {d : Nat} {σ : am_S} {w : ow_T} {k : Nat × Nat}
theorem sg_cln : ∀ {seg : List Sg} {h : Option Nat}, (∀ q ∈ seg, ClG σ w k q.1 q.2.2 q.2.1) → Rch (am_fR σ 8003) h (seg.map (fun q => q.1)) → ClN σ w k h (seg.map (fun q => q.2.2))
  | [], _, _, hr => hr
  | q :: l, _, hg, hr => ⟨q.1, hr.1, hg q List.mem_cons_self σ w (fun _ _ => ⟨NdA.rf, rfl⟩) NdA.rf, sg_cln (fun r hr => hg r (List.mem_cons_of_mem _ hr)) hr.2⟩
theorem rd_read {kt : Nat × Nat} {n g : Nat} {t : List Int32} {lN : List Nat} {F : Option Nat → am_S → Prop} (hk : RdO k) (hl : t.length ≤ 400) (R : RdK σ w) (ho : OwI σ w) (hn : 1039 ≤ am_nx σ) (hI : Fls σ w (1, 5) 9 8004 (am_fR σ 4006 1034) lN) (h : ByR σ w kt n g t) (hkt : KtO w kt)
    (K1 : ∀ e, m_parse t = .inl e → e ≤ 400 → ∀ σ' w' lN', RdK σ' w' → Fls σ' w' (1, 5) 9 8004 (am_fR σ' 4006 1034) lN' → am_fI σ' 4005 1034 = Int32.ofNat e → Eff rdX σ w σ' w' → lN'.length ≤ max lN.length 402 → lN.length ≤ lN'.length → am_nx σ' + lN.length = am_nx σ + lN'.length → am_sl σ' + 5 * lN.length = am_sl σ + 5 * lN'.length → F none σ')
    (K2 : ∀ C, m_parse t = .inr C → ∀ σ' w' ms, RdK σ' w' → Fls σ' w' (1, 5) 9 8004 (am_fR σ' 4006 1034) (lN.drop ms.length) → am_fI σ' 4005 1034 = -1 → am_fI σ' 4004 1034 = Int32.ofNat C.length → ClN σ' w' k ms.head? C → Rch (am_fR σ' 8004) ms.head? ms → (∀ c ∈ ms, (w' c = k ∧ am_kd σ' c = (9, 0) ∧ 1000 ≤ c) ∧ w c ≠ k) → ms.length = clN C → ms.length ≤ t.length → Eff rdX σ w σ' w' → am_nx σ' = am_nx σ + (ms.length - lN.length) → am_sl σ' = am_sl σ + 5 * (ms.length - lN.length) → F ms.head? σ') : k_Rd_read nl Ln xs (d + 67) 1034 (some n) σ F := by
  obtain ⟨hT, hTl⟩ := tk_ok hl
  have h401 := hT.1
  have h34 := R.1 1034 (by omega) (by omega)
  refine w_Rd_read ⟨is_mk R.2.1, rd_scan (d := d + 60) hl R h hkt (fun s2 r2 A2 _ => ?_)⟩
  intro s4 q4 s7 q7 s10 q10 s13 q13 s16 q16
  have e16 : ∀ x, x ≠ 1034 → am_eqc s2 s16 x := fun x hx => by rw [q16, q13, q10, q7, q4]; exact ((((eqc_sfI hx).trans (eqc_sfI hx)).trans (eqc_sfI hx)).trans (eqc_sfR hx)).trans (eqc_sfR hx)
  have f16 : am_kd s16 = am_kd σ ∧ am_nx s16 = am_nx σ ∧ am_sl s16 = am_sl σ := by rw [q16, q13, q10, q7, q4]; exact r2.1
  have g16 : ∀ g, g ≠ 4007 → g ≠ 4008 → am_fR s16 g 1034 = am_fR σ g 1034 := fun g g1 g2 => by
    rw [q16, rR_g g2, q13, rR_g g1, q10]
    show am_fR s7 g 1034 = _
    rw [q7]
    show am_fR s4 g 1034 = _
    rw [q4]
    exact (r2.2.1 g 1034).2.2
  have R16 : RdK s16 w := by
    obtain ⟨h1, h2, ⟨h3, h4, h5⟩, h6⟩ := R
    refine ⟨h1, by rw [f16.1]; exact h2, ⟨?_, ?_, ?_⟩, by rw [f16.1]; exact h6⟩
    · rw [g16 _ (by decide) (by decide)]; exact h3
    · rw [g16 _ (by decide) (by decide)]; exact h4
    · rw [g16 _ (by decide) (by decide)]; exact h5
  have ee : ∀ x, ¬ (1034 ≤ x ∧ x ≤ 1037) → am_eqc σ s16 x := fun x hx => (r2.2.2 x (by omega)).trans (e16 x (by omega))
  have o16 : OwI s16 w := fun x hx => ho x (by rw [← f16.2.1]; exact hx)
  have E16 : Eff rdX σ w s16 w := by
    refine ⟨o16, fun q hq _ x hx => ⟨hx, ee x (fun z => hq ?_)⟩⟩
    rw [← hx, R.1 x z.1 z.2]
    exact Or.inr ⟨rfl, z.1, z.2⟩
  have M16 : RdM s16 w k (lN, am_nx σ, am_sl σ, 0) [] := by
    refine ⟨⟨R16, o16, by rw [f16.2.1]; exact hn⟩, ?_, ⟨?_, ?_⟩, ⟨rfl, fun c hc => absurd hc (by simp)⟩, ?_, ?_, ?_⟩
    · rw [g16 _ (by decide) (by decide)]
      exact hI.eqc (fun x hx => by
        have hm := hI.mem x hx
        exact ⟨hm.1, ee x (fun z => by have := R.1 x z.1 z.2; rw [hm.1] at this; simp at this)⟩)
    · rw [q16, rR_g (by decide), q13]
      exact rR_same
    · rw [q16]
      exact rR_same
    · rw [f16.2.1]
      simp
    · rw [f16.2.2]
      simp
    · rw [q16]
      show am_fI s13 4004 1034 = _
      rw [q13]
      show am_fI s10 4004 1034 = _
      rw [q10, rI_g (by decide), q7]
      exact rI_same
  have S16 : PaS s16 w k (lN, am_nx σ, am_sl σ, 0) [] (m_tk t 0) 0 (-1) := by
    refine ⟨M16, fun i y hy => ?_, ?_, ?_, ?_⟩
    · rw [(e16 1035 (by omega)).aI, (e16 1036 (by omega)).aI, (e16 1037 (by omega)).aI]
      exact A2 i y hy
    · rw [q16]
      show am_fI s13 4003 1034 = _
      rw [q13]
      show am_fI s10 4003 1034 = _
      rw [q10, rI_g (by decide), q7, rI_g (by decide), q4]
      exact rI_same
    · obtain ⟨-, -, e, he, -⟩ := tkv hl t.length 0 (by omega)
      rw [he]
      simp
    · rw [q16]
      show am_fI s13 4005 1034 = _
      rw [q13]
      show am_fI s10 4005 1034 = _
      rw [q10]
      exact rI_same
  -- the frame of all that
  have frm : ∀ {s' : am_S} {w' : ow_T} {ms : List Nat}, RdC k [] ms s16 w s' w' → Eff rdX σ w s' w' := fun {s' w' ms} r => by
    refine E16.trans ⟨r.1.1, fun q hq h0 => ?_⟩
    by_cases hqk : q = k
    · rw [hqk]
      exact fun x hx => ⟨r.2.2.1 x hx, r.2.2.2.1 x (by simp) hx⟩
    · refine r.1.2 q (fun z => ?_) h0
      rcases z with z | z | z
      · exact hq (Or.inl z)
      · exact hq (by rw [z]; exact Or.inr ⟨rfl, by decide, by decide⟩)
      · exact hqk z
  -- one clause more is counted
  have cnt : ∀ {s1 : am_S} {w1 : ow_T} {ms : List Nat} {p m : Nat} {fl : Int32}, PaS s1 w1 k (lN, am_nx σ, am_sl σ, m) ms (m_tk t 0) p fl → PaS (am_sfI s1 4004 1034 (am_fI s1 4004 1034 + 1)) w1 k (lN, am_nx σ, am_sl σ, m + 1) ms (m_tk t 0) p fl ∧ RdC k ms ms s1 w1 (am_sfI s1 4004 1034 (am_fI s1 4004 1034 + 1)) w1 := fun {s1 w1 ms p m fl} S => by
    have e : am_fI s1 4004 1034 + 1 = Int32.ofNat (m + 1) := by rw [S.1.2.2.2.2.2.2, n32s]
    rw [e]
    exact ⟨⟨S.1.cnt, S.2.1, (rI_g (by decide)).trans S.2.2.1, S.2.2.2.1, (rI_g (by decide)).trans S.2.2.2.2⟩, RdC.num S.1.o S.1.c hk⟩
  -- with a fault, all goes back
  have flt : ∀ {e m : Nat} {s1 : am_S} {w1 : ow_T} {ms : List Nat} {p : Nat} {x1 x2 : Option Nat} {x3 : Int32} {x4 : Option Value}, m_parse t = .inl e → e ≤ 400 → PaS s1 w1 k (lN, am_nx σ, am_sl σ, m) ms (m_tk t 0) p (Int32.ofNat e) → RdC k [] ms s16 w s1 w1 → ms.length ≤ 402 → c_Rd_read_110 nl Ln xs (d + 67) 1034 x1 x2 x3 x4 s1 F := by
    intro e m s1 w1 ms p x1 x2 x3 x4 hp he S1 r1 hms
    refine w_Rd_read_110 ⟨S1.1.isk, fun z => absurd (S1.2.2.2.2.symm.trans z) (fltE he), fun _ => w_Rd_putBack ?_⟩
    rw [S1.1.2.2.1.1]
    refine rd_putBack hk ms s1 w1 _ _ _ _ S1.1.1.1 S1.1.o S1.1.2.1 S1.1.2.2.2.1.1 S1.1.2.2.2.1.2 (fun s3 w3 R3 o3 N3 E3 f3 g3 st _ => ?_)
    have hlen : (ms.reverse ++ lN.drop ms.length).length = ms.length + (lN.length - ms.length) := by rw [List.length_append, List.length_reverse, List.length_drop]
    have nx : am_nx s1 = am_nx σ + (ms.length - lN.length) := S1.1.2.2.2.2.1
    have sl : am_sl s1 = am_sl σ + 5 * (ms.length - lN.length) := S1.1.2.2.2.2.2.1
    refine K1 e hp he s3 w3 _ R3 N3 ((g3 _).trans S1.2.2.2.2) ?_ (by rw [hlen]; omega) (by rw [hlen]; omega) (by rw [hlen, f3.2.1]; omega) (by rw [hlen, f3.2.2]; omega)
    refine E16.trans ⟨o3, fun q hq h0 => ?_⟩
    by_cases hqk : q = k
    · rw [hqk]
      intro x hx
      have xm : x ∉ ms := fun z => r1.new z (by simp) hx
      have := st x xm (r1.2.2.1 x hx)
      exact ⟨this.1, (r1.2.2.2.1 x (by simp) hx).trans this.2⟩
    · have hn : ¬ rdE k q := fun z => by
        rcases z with z | z | z
        · exact hq (Or.inl z)
        · exact hq (by rw [z]; exact Or.inr ⟨rfl, by decide, by decide⟩)
        · exact hqk z
      exact (r1.1.2 q hn h0).trans (E3.2 q hn h0)
  -- the end
  have done : ∀ {x3 p : Nat} {seg : List Sg} {s1 : am_S} {w1 : ow_T} {x1 x2 : Option Nat} {y3 : Int32} {x4 : Option Value}, seg.length = x3 → PaS s1 w1 k (lN, am_nx σ, am_sl σ, x3) (sgN seg) (m_tk t 0) p (-1) → RdC k [] (sgN seg) s16 w s1 w1 → (sgN seg).length ≤ p → (∀ q ∈ seg, ClG s1 w1 k q.1 q.2.2 q.2.1) → Rch (am_fR s1 8003) (seg.head?.map (fun q => q.1)) (seg.map (fun q => q.1)) → (sgN seg).length = clN (seg.map (fun q => q.2.2)) → m_parse t = .inr (seg.map (fun q => q.2.2) ++ []) → c_Rd_read_110 nl Ln xs (d + 67) 1034 x1 x2 y3 x4 s1 F := by
    intro x3 p seg s1 w1 x1 x2 y3 x4 hsl S1 r1 hlp hG hR hcn hP
    rw [List.append_nil] at hP
    have hp := S1.2.2.2.1
    have hms : (sgN seg).head? = seg.head?.map (fun q => q.1) := by cases seg <;> rfl
    refine w_Rd_read_110 ⟨S1.1.isk, fun _ => ?_, fun z => absurd S1.2.2.2.2 z⟩
    rw [S1.1.2.2.1.1]
    exact K2 _ hP s1 w1 (sgN seg) S1.1.1.1 S1.1.2.1 S1.2.2.2.2 (by rw [S1.1.2.2.2.2.2.2, List.length_map, hsl]) (by rw [hms]; exact sg_cln hG hR) S1.1.2.2.2.1.1 (fun c hc => ⟨S1.1.2.2.2.1.2 c hc, r1.new hc (by simp)⟩) hcn (by omega) (frm r1) S1.1.2.2.2.2.1 S1.1.2.2.2.2.2.1
  -- behind a fault
  have c110 : ∀ {e m p : Nat} {s1 : am_S} {w1 : ow_T} {ms : List Nat} {x1 x2 : Option Nat} {x3 : Int32} {x4 : Option Value}, m_parse t = .inl e → e ≤ 400 → PaS s1 w1 k (lN, am_nx σ, am_sl σ, m) ms (m_tk t 0) p (Int32.ofNat e) → RdC k [] ms s16 w s1 w1 → ms.length ≤ 402 → c_Rd_read_34 nl Ln xs (d + 67) 1034 x1 x2 x3 x4 s1 F := by
    intro e m p s1 w1 ms x1 x2 x3 x4 hP he Sx rx hms
    refine w_Rd_read_34 ⟨fun _ => flt hP he Sx rx hms, fun _ => ⟨Sx.1.isk, ?_⟩⟩
    rw [Sx.2.2.2.2]
    exact ⟨fun z => absurd z (fltE he), fun _ => flt hP he Sx rx hms⟩
  have c79 : ∀ {e m p : Nat} {s1 : am_S} {w1 : ow_T} {ms : List Nat} {seg : List Sg} {x1 y : Option Nat} {x3 : Int32} {x4 : Option Value}, m_parse t = .inl e → e ≤ 400 → PaS s1 w1 k (lN, am_nx σ, am_sl σ, m) ms (m_tk t 0) p (Int32.ofNat e) → RdC k [] ms s16 w s1 w1 → ms.length ≤ 402 → (∀ x ∈ sgN seg, x ∈ ms) → c_Rd_read_79 nl Ln xs (d + 67) 1034 x1 (seg.getLast?.map (fun q => q.1)) x3 x4 y s1 F := by
    intro e m p s1 w1 ms seg x1 y x3 x4 hP he S9 r9 hms hsub
    refine w_Rd_read_79 ⟨fun hn => ⟨S9.1.isk, ?_⟩, fun hn => ?_⟩
    · rintro s3 rfl
      obtain ⟨S3, r3⟩ := cnt S9
      exact c110 hP he S3 (r9.trans r3) hms
    · obtain ⟨q, hq⟩ : ∃ q, seg.getLast? = some q := by
        cases hs : seg.getLast? with
        | none => rw [hs] at hn; exact absurd rfl hn
        | some q => exact ⟨q, rfl⟩
      have hqm : q ∈ seg := List.mem_of_getLast? hq
      have hqn := hsub _ (sg_mem hqm).1
      have kq := S9.1.2.2.2.1.2 _ hqn
      rw [hq, Option.map_some, Option.getD_some]
      refine ⟨is_mk kq.2.1, ?_⟩
      rintro s7 rfl
      have S7 : PaS (am_sfR s1 8003 q.1 y) w1 k (lN, am_nx σ, am_sl σ, m) ms (m_tk t 0) p (Int32.ofNat e) := S9.link hqn (by decide) hk
      refine ⟨S7.1.isk, ?_⟩
      rintro s11 rfl
      obtain ⟨S3, r3⟩ := cnt S7
      exact c110 hP he S3 ((r9.link kq.1 (r9.new hqn (by simp))).trans r3) hms
  -- clause by clause
  have loop : ∀ (m x3 : Nat) (seg : List Sg) (s1 : am_S) (w1 : ow_T) (p : Nat) (x4 : Option Value), x3 + m = 30 → seg.length = x3 → PaS s1 w1 k (lN, am_nx σ, am_sl σ, x3) (sgN seg) (m_tk t 0) p (-1) → RdC k [] (sgN seg) s16 w s1 w1 → (sgN seg).length ≤ p → (∀ q ∈ seg, ClG s1 w1 k q.1 q.2.2 q.2.1) → Rch (am_fR s1 8003) (seg.head?.map (fun q => q.1)) (seg.map (fun q => q.1)) → (sgN seg).length = clN (seg.map (fun q => q.2.2)) → (m_parse t = (match m_cll m ((m_tk t 0).drop p) with
      | .inl e => .inl e
      | .inr cs => .inr (seg.map (fun q => q.2.2) ++ cs))) → c_Rd_read_34 nl Ln xs (d + 67) 1034 (some n) (seg.getLast?.map (fun q => q.1)) (Int32.ofNat x3) x4 s1 F := by
    intro m
    induction m with
    | zero =>
      intro x3 seg s1 w1 p x4 hx hsl S1 r1 hlp hG hR hcn hP
      have hx : x3 = 30 := by omega
      subst hx
      obtain ⟨t1, t2, t3⟩ := S1.tok
      obtain ⟨g1, g2, -⟩ := S1.rng hT
      obtain ⟨a1, a2, a3⟩ := S1.ar hT
      obtain ⟨-, -, ⟨f0, -, -⟩, k0, -, -⟩ := S1.1.1.1
      have hp := S1.2.2.2.1
      refine w_Rd_read_34 ⟨fun z => absurd z (by decide), fun _ => ⟨S1.1.isk, ?_⟩⟩
      rw [S1.2.2.2.2, S1.2.2.1, f0, Option.getD_some, a3, t1]
      refine ⟨fun _ => ⟨ar_mk k0 a1 a2, fun h30 => ?_, fun h30 => ⟨fun z => absurd z (by decide), fun _ => ?_⟩⟩, fun z => absurd rfl z⟩
      · have h30 : (m_hd ((m_tk t 0).drop p)).1 = 30 := by
          rw [i32e, n32 (by omega), show (30 : Int32).toInt = 30 by decide] at h30
          omega
        have e0 : m_cll 0 ((m_tk t 0).drop p) = .inr [] := by unfold m_cll; rw [if_pos h30]
        rw [e0] at hP
        exact done hsl S1 r1 hlp hG hR hcn hP
      · have h30 : ¬ (m_hd ((m_tk t 0).drop p)).1 = 30 := fun z => h30 (by rw [z]; rfl)
        have e0 : m_cll 0 ((m_tk t 0).drop p) = .inl (m_hd ((m_tk t 0).drop p)).2.2 := by unfold m_cll; rw [if_neg h30]
        rw [e0] at hP
        exact rd_fail hk hT S1 (fun s9 S9 r9 _ => c79 hP g2 S9 (r1.trans r9) (by omega) (fun x hx => hx))
    | succ m ih =>
      intro x3 seg s1 w1 p x4 hx hsl S1 r1 hlp hG hR hcn hP
      obtain ⟨t1, t2, t3⟩ := S1.tok
      obtain ⟨g1, g2, -⟩ := S1.rng hT
      obtain ⟨a1, a2, a3⟩ := S1.ar hT
      obtain ⟨-, -, ⟨f0, -, -⟩, k0, -, -⟩ := S1.1.1.1
      have hp := S1.2.2.2.1
      have lt30 : Int32.ofNat x3 < 30 := (n32lt (a := x3) (b := 30) (by omega) (by omega)).mpr (by omega)
      refine w_Rd_read_34 ⟨fun z => absurd ((n32lt (a := 30) (b := x3) (by omega) (by omega)).mp z) (by omega), fun _ => ⟨S1.1.isk, ?_⟩⟩
      rw [S1.2.2.2.2, S1.2.2.1, f0, Option.getD_some, a3, t1]
      refine ⟨fun _ => ⟨ar_mk k0 a1 a2, fun h30 => ?_, fun h30 => ⟨fun _ => ?_, fun z => absurd lt30 z⟩⟩, fun z => absurd rfl z⟩
      · have h30 : (m_hd ((m_tk t 0).drop p)).1 = 30 := by
          rw [i32e, n32 (by omega), show (30 : Int32).toInt = 30 by decide] at h30
          omega
        have e0 : m_cll (m + 1) ((m_tk t 0).drop p) = .inr [] := by unfold m_cll; rw [if_pos h30]
        rw [e0] at hP
        exact done hsl S1 r1 hlp hG hR hcn hP
      · have h30 : ¬ (m_hd ((m_tk t 0).drop p)).1 = 30 := fun z => h30 (by rw [z]; rfl)
        have e0 : m_cll (m + 1) ((m_tk t 0).drop p) = (match m_clause ((m_tk t 0).drop p) with
            | .inl e => .inl e
            | .inr (c, r) => (match m_cll m r with
              | .inl e => .inl e
              | .inr cs => .inr (c :: cs))) := by
          conv => lhs; unfold m_cll
          rw [if_neg h30]
          rfl
        rw [e0] at hP
        refine rd_clause (d := d) hk hT S1 ?_ h30
        cases hc : m_clause ((m_tk t 0).drop p) with
        | inl e =>
          rw [hc] at hP
          have hP : m_parse t = .inl e := hP
          intro he s9 w9 ms9 p9 y S9 r9 l9 n9 _
          obtain ⟨u, eu, -⟩ := r9.2.1
          have hp9 := S9.2.2.2.1
          exact c79 hP he S9 (r1.trans r9) (by omega) (fun x hx => by rw [eu]; exact List.mem_append_left _ hx)
        | inr q0 =>
          obtain ⟨cl, rest⟩ := q0
          rw [hc] at hP
          intro s9 w9 c U p9 er S9 r9 l9 G9 n9 c9 _
          subst er
          have hP' : m_parse t = (match m_cll m ((m_tk t 0).drop p9) with
            | .inl e => .inl e
            | .inr cs => .inr ((seg ++ [(c, U, cl)]).map (fun q => q.2.2) ++ cs)) := by
            rw [hP]
            dsimp only
            cases m_cll m ((m_tk t 0).drop p9) with
            | inl e => rfl
            | inr cs => simp
          have esg : sgN (seg ++ [(c, U, cl)]) = sgN seg ++ [c] ++ U := sgN_app _ _
          rw [← esg] at S9 r9
          have r19 := r1.trans r9
          have len1 : (seg ++ [((c, U, cl) : Sg)]).length = x3 + 1 := by simp [hsl]
          have hlast : ((seg ++ [((c, U, cl) : Sg)]).getLast?.map (fun q => q.1)) = some c := by simp
          have lenN : (sgN (seg ++ [(c, U, cl)])).length = (sgN seg).length + 1 + U.length := by rw [esg]; simp; omega
          have ncl : (sgN (seg ++ [(c, U, cl)])).length = clN ((seg ++ [((c, U, cl) : Sg)]).map (fun q => q.2.2)) := by
            rw [lenN, List.map_append, List.map_cons, List.map_nil, clN_app, ← hcn]
            show _ = (sgN seg).length + cN cl
            omega
          have nd := S9.1.nd
          -- the clauses there were
          have old : ∀ q ∈ seg, ClG s9 w9 k q.1 q.2.2 q.2.1 := fun q hq => (hG q hq).mv (fun y hy => r9.keep S1.1 S9.1 ((sg_mem hq).2 y hy)) (r9.keep S1.1 S9.1 (sg_mem hq).1).1
          have R9 : Rch (am_fR s9 8003) (seg.head?.map (fun q => q.1)) (seg.map (fun q => q.1)) := hR.mono (fun x hx => by
            obtain ⟨q, hq, e⟩ := List.mem_map.mp hx
            rw [← e]
            exact (r9.keep S1.1 S9.1 (sg_mem hq).1).2)
          have go : ∀ {s : am_S} {x4 : Option Value}, PaS s w9 k (lN, am_nx σ, am_sl σ, x3 + 1) (sgN (seg ++ [(c, U, cl)])) (m_tk t 0) p9 (-1) → RdC k [] (sgN (seg ++ [(c, U, cl)])) s16 w s w9 → (∀ q ∈ seg ++ [(c, U, cl)], ClG s w9 k q.1 q.2.2 q.2.1) → Rch (am_fR s 8003) ((seg ++ [((c, U, cl) : Sg)]).head?.map (fun q => q.1)) ((seg ++ [((c, U, cl) : Sg)]).map (fun q => q.1)) → c_Rd_read_34 nl Ln xs (d + 67) 1034 (some n) (some c) (Int32.ofNat x3 + 1) x4 s F := fun {s x4} Sx rx hGx hRx => by
            have := ih (x3 + 1) (seg ++ [(c, U, cl)]) s w9 p9 x4 (by omega) len1 Sx rx (by omega) hGx hRx ncl hP'
            rw [hlast, ← n32s] at this
            exact this
          have eqI : ∀ {s : am_S} {v : Int32} {y : Nat}, y ≠ 1034 → NdA s w9 (am_sfI s 4004 1034 v) w9 y := fun {s v y} hy => ⟨rfl, rfl, rI_n hy, rI_n hy, rfl⟩
          have n34 : ∀ y ∈ sgN (seg ++ [(c, U, cl)]), y ≠ 1034 := fun y hy z => hk.2.2 1034 (by rw [← (S9.1.2.2.2.1.2 y hy).1, z]; exact S9.1.c)
          refine w_Rd_read_79 ⟨fun hn => ⟨S9.1.isk, ?_⟩, fun hn => ?_⟩
          · have hse : seg = [] := by
              cases hs : seg.getLast? with
              | none => exact List.getLast?_eq_none_iff.mp hs
              | some q => rw [hs] at hn; exact absurd hn (by simp)
            subst hse
            rintro s3 rfl
            obtain ⟨S3, r3⟩ := cnt S9
            refine go S3 (r19.trans r3) (fun q hq => ?_) ⟨rfl, c9⟩
            have hq' : q = (c, U, cl) := by simpa using hq
            have hm := sg_mem hq
            rw [hq'] at hm ⊢
            exact G9.mv (fun y hy => ⟨eqI (n34 y (hm.2 y hy)), rfl⟩) (eqI (n34 c hm.1))
          · obtain ⟨q, hq⟩ : ∃ q, seg.getLast? = some q := by
              cases hs : seg.getLast? with
              | none => rw [hs] at hn; exact absurd rfl hn
              | some q => exact ⟨q, rfl⟩
            obtain ⟨pre, hpre⟩ : ∃ pre, seg = pre ++ [q] := by
              have hne : seg ≠ [] := fun z => by rw [z] at hq; simp at hq
              refine ⟨seg.dropLast, ?_⟩
              rw [List.getLast?_eq_getLast hne] at hq
              have e := Option.some.inj hq
              rw [← e]
              exact (List.dropLast_concat_getLast hne).symm
            have hqm : q ∈ seg := List.mem_of_getLast? hq
            have hqs : q ∈ seg ++ [((c, U, cl) : Sg)] := List.mem_append_left _ hqm
            have hqn : q.1 ∈ sgN (seg ++ [(c, U, cl)]) := (sg_mem hqs).1
            have kq := S9.1.2.2.2.1.2 _ hqn
            have qc : c ≠ q.1 := fun z => by
              have := sg_fst nd
              rw [List.map_append, List.nodup_append] at this
              exact this.2.2 q.1 (List.mem_map.mpr ⟨q, hqm, rfl⟩) c (by simp) z.symm
            rw [hq, Option.map_some, Option.getD_some]
            refine ⟨is_mk kq.2.1, ?_⟩
            rintro s7 rfl
            have S7 : PaS (am_sfR s9 8003 q.1 (some c)) w9 k (lN, am_nx σ, am_sl σ, x3) (sgN (seg ++ [(c, U, cl)])) (m_tk t 0) p9 (-1) := S9.link hqn (by decide) hk
            have r7 := r19.link (g := 8003) (a := some c) kq.1 (r19.new hqn (by simp))
            refine ⟨S7.1.isk, ?_⟩
            rintro s11 rfl
            obtain ⟨S3, r3⟩ := cnt S7
            have na : ∀ y, NdA s9 w9 (am_sfR s9 8003 q.1 (some c)) w9 y := fun y => ⟨rfl, rfl, rfl, rfl, rR_g (by decide)⟩
            refine go S3 (r7.trans r3) (fun r hr => ?_) ?_
            · have hm := sg_mem hr
              have qn : q.1 ∉ r.2.1 := sg_nin nd q hqs r hr
              have base : ClG s9 w9 k r.1 r.2.2 r.2.1 := by
                rcases List.mem_append.mp hr with h | h
                · exact old r h
                · have hr' : r = (c, U, cl) := by simpa using h
                  rw [hr']
                  exact G9
              exact (base.mv (fun y hy => ⟨na y, rR_n (fun z => qn (by rw [← z]; exact hy))⟩) (na r.1)).mv (fun y hy => ⟨eqI (n34 y (hm.2 y hy)), rfl⟩) (eqI (n34 r.1 hm.1))
            · have hh : (seg ++ [((c, U, cl) : Sg)]).head?.map (fun q => q.1) = seg.head?.map (fun q => q.1) := by rw [hpre]; cases pre <;> rfl
              rw [hh, List.map_append, List.map_cons, List.map_nil]
              rw [hpre, List.map_append, List.map_cons, List.map_nil] at R9 ⊢
              refine R9.snoc (fun x hx => ?_) ?_ ?_
              · show am_fR (am_sfR s9 8003 q.1 (some c)) 8003 x = _
                refine rR_n (fun z => ?_)
                have := sg_fst nd
                rw [hpre, List.map_append, List.map_append, List.nodup_append] at this
                have := (List.nodup_append.mp this.1).2.2 x hx q.1 (by simp)
                exact this z
              · show am_fR (am_sfR s9 8003 q.1 (some c)) 8003 q.1 = _
                exact rR_same
              · show am_fR (am_sfR s9 8003 q.1 (some c)) 8003 c = _
                rw [rR_n qc]
                exact c9
  exact loop 30 0 [] s16 w 0 none (by omega) rfl S16 (RdC.rf o16) (by simp [sgN]) (fun q hq => absurd hq (by simp)) rfl rfl (by
    rw [show m_parse t = m_cll 30 ((m_tk t 0).drop 0) from rfl]
    cases m_cll 30 ((m_tk t 0).drop 0) with
    | inl e => rfl
    | inr cs => rfl)
end
