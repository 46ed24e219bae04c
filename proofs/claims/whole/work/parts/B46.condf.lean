/-! THE CLASS: conditions, all of them -/
section
variable {nl : Bool} {Ln : Nat} {xs : Nat → Int32} {k : Nat × Nat} {L : List Nat × Nat × Nat × Nat} {tk : List mTok}
theorem AndC_step {f : Nat} (hk : RdO k) (hT : TkW tk) (hN : NotC nl Ln xs k L tk f) (hL : AndL nl Ln xs k L tk f) : AndC nl Ln xs k L tk (f + 1) := by
  intro d op σ w ms p acc F hop hf S K
  have h401 := hT.1
  have hR : m_cond (f + 1) 1 op acc (tk.drop p) = (match m_cond f 0 op acc (tk.drop p) with
      | .inl e => .inl e
      | .inr (u, r) => if (m_hd r).1 = 13 then m_cond f 2 op u r else .inr (u, r)) := rfl
  rw [hR] at K
  refine w_Rd_readAnd ⟨S.1.isk, hN d op σ w ms p acc _ hop (by omega) S ?_⟩
  cases hc : m_cond f 0 op acc (tk.drop p) with
  | inl e =>
    rw [hc] at K
    intro he s2 w2 ms2 p2 a3 S2 r2 l2 n2 _
    have K := K he
    refine ⟨fun h => K s2 w2 ms2 p2 a3 S2 r2 l2 n2, fun h => ?_⟩
    obtain ⟨t1, t2, t3⟩ := S2.tok
    obtain ⟨g1, -⟩ := S2.rng hT
    obtain ⟨a1, a2, a4⟩ := S2.ar hT
    obtain ⟨-, -, ⟨f0, -, -⟩, k0, -, -⟩ := S2.1.1.1
    rw [S2.2.2.1, f0, Option.getD_some, a4, t1]
    refine ⟨ar_mk k0 a1 a2, fun h13 => ?_, fun h13 => K s2 w2 ms2 p2 a3 S2 r2 l2 n2⟩
    have h13 : (m_hd (tk.drop p2)).1 = 13 := by
      rw [i32e, n32 (by omega), show (13 : Int32).toInt = 13 by decide] at h13
      omega
    exact AndF_loop (n := 20 - op) (d := d) hk hT (NotF_op e he hk hT (20 - op)) (by omega) K 400 0 a3 a3 s2 w2 ms2 p2 (by omega) S2 r2 (by rw [if_pos rfl]; omega) (fun _ => ⟨h13, h⟩) n2
  | inr q =>
    obtain ⟨u, rest⟩ := q
    rw [hc] at K
    intro s2 w2 U z p2 er hp S2 r2 l2 hpu G hn z2 _
    subst er
    have hp2 := S2.2.2.2.1
    refine ⟨fun h => absurd h (by simp), fun _ => ?_⟩
    obtain ⟨t1, t2, t3⟩ := S2.tok
    obtain ⟨g1, -⟩ := S2.rng hT
    obtain ⟨a1, a2, a4⟩ := S2.ar hT
    obtain ⟨-, -, ⟨f0, -, -⟩, k0, -, -⟩ := S2.1.1.1
    rw [S2.2.2.1, f0, Option.getD_some, a4, t1]
    have K : CoK k L tk σ w ms p (if (m_hd (tk.drop p2)).1 = 13 then m_cond f 2 op u (tk.drop p2) else .inr (u, tk.drop p2)) F := K
    refine ⟨ar_mk k0 a1 a2, fun h13 => ?_, fun h13 => ?_⟩
    · have h13 : (m_hd (tk.drop p2)).1 = 13 := by
        rw [i32e, n32 (by omega), show (13 : Int32).toInt = 13 by decide] at h13
        omega
      rw [if_pos h13] at K
      exact hL d op σ w ms p s2 w2 U z z p2 0 u F hop (by omega) S2 r2 (by omega) (by omega) h13 G hn z2 K
    · rw [if_neg (fun t => h13 (by rw [t]; rfl))] at K
      exact K s2 w2 U z p2 rfl hp S2 r2 l2 hpu G hn z2
theorem OrC_step {f : Nat} (hk : RdO k) (hT : TkW tk) (hN : AndC nl Ln xs k L tk f) (hL : OrL nl Ln xs k L tk f) : OrC nl Ln xs k L tk (f + 1) := by
  intro d op σ w ms p acc F hop hf S K
  have h401 := hT.1
  have hR : m_cond (f + 1) 3 op acc (tk.drop p) = (match m_cond f 1 op acc (tk.drop p) with
      | .inl e => .inl e
      | .inr (u, r) => if (m_hd r).1 = 12 then m_cond f 4 op u r else .inr (u, r)) := rfl
  rw [hR] at K
  refine w_Rd_readOr ⟨S.1.isk, hN d op σ w ms p acc _ hop (by omega) S ?_⟩
  cases hc : m_cond f 1 op acc (tk.drop p) with
  | inl e =>
    rw [hc] at K
    intro he s2 w2 ms2 p2 a3 S2 r2 l2 n2 _
    have K := K he
    refine ⟨fun h => K s2 w2 ms2 p2 a3 S2 r2 l2 n2, fun h => ?_⟩
    obtain ⟨t1, t2, t3⟩ := S2.tok
    obtain ⟨g1, -⟩ := S2.rng hT
    obtain ⟨a1, a2, a4⟩ := S2.ar hT
    obtain ⟨-, -, ⟨f0, -, -⟩, k0, -, -⟩ := S2.1.1.1
    rw [S2.2.2.1, f0, Option.getD_some, a4, t1]
    refine ⟨ar_mk k0 a1 a2, fun h13 => ?_, fun h13 => K s2 w2 ms2 p2 a3 S2 r2 l2 n2⟩
    have h13 : (m_hd (tk.drop p2)).1 = 12 := by
      rw [i32e, n32 (by omega), show (12 : Int32).toInt = 12 by decide] at h13
      omega
    exact OrF_loop (n := 20 - op) (d := d) hk hT (AndF_op e he hk hT (20 - op)) (by omega) K 400 0 a3 a3 s2 w2 ms2 p2 (by omega) S2 r2 (by rw [if_pos rfl]; omega) (fun _ => ⟨h13, h⟩) n2
  | inr q =>
    obtain ⟨u, rest⟩ := q
    rw [hc] at K
    intro s2 w2 U z p2 er hp S2 r2 l2 hpu G hn z2 _
    subst er
    have hp2 := S2.2.2.2.1
    refine ⟨fun h => absurd h (by simp), fun _ => ?_⟩
    obtain ⟨t1, t2, t3⟩ := S2.tok
    obtain ⟨g1, -⟩ := S2.rng hT
    obtain ⟨a1, a2, a4⟩ := S2.ar hT
    obtain ⟨-, -, ⟨f0, -, -⟩, k0, -, -⟩ := S2.1.1.1
    rw [S2.2.2.1, f0, Option.getD_some, a4, t1]
    have K : CoK k L tk σ w ms p (if (m_hd (tk.drop p2)).1 = 12 then m_cond f 4 op u (tk.drop p2) else .inr (u, tk.drop p2)) F := K
    refine ⟨ar_mk k0 a1 a2, fun h13 => ?_, fun h13 => ?_⟩
    · have h13 : (m_hd (tk.drop p2)).1 = 12 := by
        rw [i32e, n32 (by omega), show (12 : Int32).toInt = 12 by decide] at h13
        omega
      rw [if_pos h13] at K
      exact hL d op σ w ms p s2 w2 U z z p2 0 u F hop (by omega) S2 r2 (by omega) (by omega) h13 G hn z2 K
    · rw [if_neg (fun t => h13 (by rw [t]; rfl))] at K
      exact K s2 w2 U z p2 rfl hp S2 r2 l2 hpu G hn z2
theorem ofi {n : Nat} (h : n < 1000) : Int32.ofInt (n : Int) = Int32.ofNat n := by rw [i32e, ofInt_to (by omega) (by omega), n32 (by omega)]
theorem NotC_step {f : Nat} (hk : RdO k) (hT : TkW tk) (hN : NotC nl Ln xs k L tk f) (hO : OrC nl Ln xs k L tk f) : NotC nl Ln xs k L tk (f + 1) := by
  intro d op σ w ms p acc F hop hf S K
  have h401 := hT.1
  obtain ⟨t1, t2, t3⟩ := S.tok
  obtain ⟨g1, g2, g3, g4⟩ := S.rng hT
  obtain ⟨a1, a2, a3⟩ := S.ar hT
  obtain ⟨-, -, ⟨f0, f1, -⟩, k0, k1, -⟩ := S.1.1.1
  have hR : m_cond (f + 1) 0 op acc (tk.drop p) = (if (m_hd (tk.drop p)).1 = 14 then (if 20 ≤ op then .inl (m_hd (tk.drop p)).2.2 else (match m_cond f 0 (op + 1) acc (tk.drop (p + 1)) with
          | .inl e => .inl e
          | .inr (t, r) => .inr (.tag 2 t, r)))
      else if (m_hd (tk.drop p)).1 = 27 then (if 20 ≤ op then .inl (m_hd (tk.drop p)).2.2 else (match m_cond f 3 (op + 1) acc (tk.drop (p + 1)) with
          | .inl e => .inl e
          | .inr (t, r) => if (m_hd r).1 = 28 then .inr (t, r.tail) else .inl (m_hd r).2.2))
      else if 15 ≤ (m_hd (tk.drop p)).1 ∧ (m_hd (tk.drop p)).1 ≤ 18 then (if (m_hd (tk.drop (p + 1))).1 = 26 then .inr (.nest (Int.ofNat ((m_hd (tk.drop p)).1 - 12)) (.nest (m_hd (tk.drop (p + 1))).2.1.toInt .nil), (tk.drop (p + 1)).tail) else .inl (m_hd (tk.drop (p + 1))).2.2)
      else if (m_hd (tk.drop p)).1 = 19 then (if 20 ≤ (m_hd (tk.drop (p + 1))).1 ∧ (m_hd (tk.drop (p + 1))).1 ≤ 25 then .inr (.nest 7 (.nest (Int.ofNat ((m_hd (tk.drop (p + 1))).1 - 20)) .nil), (tk.drop (p + 1)).tail) else .inl (m_hd (tk.drop (p + 1))).2.2)
      else .inl (m_hd (tk.drop p)).2.2) := by
    rw [← tl_drop]
    rfl
  rw [hR] at K
  have tok : ∀ {m : Nat}, m ≤ 31 → (Int32.ofNat (m_hd (tk.drop p)).1 = Int32.ofNat m ↔ (m_hd (tk.drop p)).1 = m) := fun hm => by
    rw [i32e, n32 (by omega), n32 (by omega)]
    omega
  have opl : ¬ 20 ≤ op → Int32.ofNat op < 20 := fun h => by
    show Int32.ofNat op < Int32.ofNat 20
    rw [n32lt (by omega) (by omega)]
    omega
  have opg : 20 ≤ op → ¬ Int32.ofNat op < 20 := fun h => by
    show ¬ Int32.ofNat op < Int32.ofNat 20
    rw [n32lt (by omega) (by omega)]
    omega
  -- too many are there
  have many : 20 ≤ op → CoK k L tk σ w ms p (.inl (m_hd (tk.drop p)).2.2) F → ∀ v3, c_Rd_readNot_22 nl Ln xs (d + 3 * (20 - op) + 3) 1034 (Int32.ofNat op) v3 σ F := fun h K v3 => by
    refine w_Rd_readNot_22 ⟨fun z => absurd z (opg h), fun _ => ⟨S.1.isk, rd_fail hk hT S (fun s3 S3 r3 _ => ?_)⟩⟩
    exact K g2 s3 w ms p none S3 r3 (by omega) (fun z hz => absurd hz (by simp))
  refine w_Rd_readNot ⟨S.1.isk, ?_⟩
  rw [S.2.2.1, f0, Option.getD_some, a3, t1]
  refine ⟨ar_mk k0 a1 a2, ?_⟩
  rintro v3 rfl
  refine ⟨fun h14 => ?_, fun h14 => ⟨fun h27 => ?_, fun h27 => ?_⟩⟩
  · have e14 := (tok (m := 14) (by decide)).mp h14
    rw [if_pos e14] at K
    by_cases ho : 20 ≤ op
    · rw [if_pos ho] at K
      exact many ho K _
    · rw [if_neg ho] at K
      refine w_Rd_readNot_22 ⟨fun _ => w_Rd_readNot_33 ⟨fun _ => ⟨S.1.isk, ?_⟩, fun z => absurd h14 z⟩, fun z => absurd (opl ho) z⟩
      rw [S.2.2.1]
      rintro s3 rfl
      have nx := S.nxt hk hT (by rw [e14]; decide)
      have hgo := nx.1.2.2.2.1
      have e20 : 20 - op = 20 - (op + 1) + 1 := by omega
      have hd2 : d + 3 * (20 - op) + 2 = (d + 2) + 3 * (20 - (op + 1)) + 3 := by omega
      rw [n32s op]
      show k_Rd_readNot nl Ln xs (d + 3 * (20 - op) + 2) 1034 (Int32.ofNat (op + 1)) _ _
      rw [hd2]
      refine hN (d + 2) (op + 1) _ w ms (p + 1) acc _ (by omega) (by omega) nx.1 ?_
      cases hc : m_cond f 0 (op + 1) acc (tk.drop (p + 1)) with
      | inl e =>
        rw [hc] at K
        intro he s6 w6 ms6 p6 a7 S6 r6 l6 n6 _
        refine ⟨fun h => K he s6 w6 ms6 p6 none S6 (nx.2.trans r6) (by omega) (fun z hz => absurd hz (by simp)), fun h => ?_⟩
        refine rd_node (d := d + 2 + 3 * (20 - (op + 1)) + 1) hk S6 (fun s9 w9 c S9 r9 n9 _ => ?_)
        refine K he s9 w9 _ p6 _ S9 ((nx.2.trans r6).trans r9) (by rw [List.length_append, List.length_singleton]; omega) (fun z hz => ?_)
        have hz := Option.some.inj hz
        subst hz
        refine ⟨by simp, fun t => ?_⟩
        have := S9.1.nd
        rw [List.nodup_append] at this
        obtain ⟨-, ⟨u, e, -⟩, -⟩ := r6
        exact this.2.2 c (by rw [e]; exact List.mem_append_left _ t) c (by simp) rfl
      | inr q =>
        obtain ⟨u, rest⟩ := q
        rw [hc] at K
        intro s6 w6 U z p6 er hp S6 r6 l6 hpu G hn z6 _
        subst er
        refine ⟨fun h => absurd h (by simp), fun _ => ?_⟩
        refine rd_node (d := d + 2 + 3 * (20 - (op + 1)) + 1) hk S6 (fun s9 w9 c S9 r9 n9 _ => ?_)
        have kc := S9.1.2.2.2.1.2 c (by simp)
        have zz := r9.keep S6.1 S9.1 (x := z) (by simp)
        have g9 := G.keep S6.1 S9.1 r9 (fun v hv => List.mem_append_left _ (List.mem_append_right _ hv)) (by simp)
        have e9 : ms ++ U ++ [z] ++ [c] = ms ++ (U ++ [z]) ++ [c] := by simp
        rw [e9] at S9 r9
        exact K s9 w9 (U ++ [z]) c p6 rfl (by omega) S9 ((nx.2.trans r6).trans r9) (by rw [List.length_append, List.length_singleton]; omega) trivial (NdG.tag2 ⟨kc.1, kc.2.1⟩ (n9.1.trans h14) n9.2.2.1 hpu g9 (zz.2.trans z6)) (by rw [List.length_append, List.length_singleton, hn]; rfl) n9.2.2.2
  · have e14 : ¬ (m_hd (tk.drop p)).1 = 14 := fun z => h14 ((tok (m := 14) (by decide)).mpr z)
    have e27 := (tok (m := 27) (by decide)).mp h27
    rw [if_neg e14, if_pos e27] at K
    by_cases ho : 20 ≤ op
    · rw [if_pos ho] at K
      exact many ho K _
    · rw [if_neg ho] at K
      refine w_Rd_readNot_22 ⟨fun _ => w_Rd_readNot_33 ⟨fun z => absurd z h14, fun _ => ⟨fun _ => ⟨S.1.isk, ?_⟩, fun z => absurd h27 z⟩⟩, fun z => absurd (opl ho) z⟩
      rw [S.2.2.1]
      rintro s3 rfl
      have nx := S.nxt hk hT (by rw [e27]; decide)
      have hgo := nx.1.2.2.2.1
      have hd2 : d + 3 * (20 - op) + 2 = d + 3 * (20 - (op + 1)) + 5 := by omega
      rw [n32s op]
      show k_Rd_readOr nl Ln xs (d + 3 * (20 - op) + 2) 1034 (Int32.ofNat (op + 1)) _ _
      rw [hd2]
      refine hO d (op + 1) _ w ms (p + 1) acc _ (by omega) (by omega) nx.1 ?_
      cases hc : m_cond f 3 (op + 1) acc (tk.drop (p + 1)) with
      | inl e =>
        rw [hc] at K
        intro he s6 w6 ms6 p6 a7 S6 r6 l6 n6 _
        refine rd_takeF (fltE he) S6 (fun _ => ?_)
        rintro w22 rfl
        exact K he s6 w6 ms6 p6 _ S6 (nx.2.trans r6) (by omega) (fun z hz => absurd hz (by simp))
      | inr q =>
        obtain ⟨u, rest⟩ := q
        rw [hc] at K
        intro s6 w6 U z p6 er hp S6 r6 l6 hpu G hn z6 _
        subst er
        have K : CoK k L tk σ w ms p (if (m_hd (tk.drop p6)).1 = 28 then .inr (u, (tk.drop p6).tail) else .inl (m_hd (tk.drop p6)).2.2) F := K
        refine rd_take (lo := 28) (hi := 28) (by decide) (by decide) (by decide) hk hT S6 (fun h s8 S8 r8 _ => ?_) (fun h s8 S8 r8 _ => ?_)
        · have e28 : (m_hd (tk.drop p6)).1 = 28 := by omega
          rw [if_pos e28, tl_drop] at K
          rintro w22 rfl
          have zz := r8.keep S6.1 S8.1 (x := z) (by simp)
          exact K s8 w6 U z (p6 + 1) rfl (by omega) S8 ((nx.2.trans r6).trans r8) (by omega) hpu (G.keep S6.1 S8.1 r8 (fun v hv => List.mem_append_left _ (List.mem_append_right _ hv)) (by simp)) hn (zz.2.trans z6)
        · have e28 : ¬ (m_hd (tk.drop p6)).1 = 28 := by omega
          rw [if_neg e28] at K
          rintro w22 rfl
          refine K (S6.rng hT).2.1 s8 w6 _ p6 _ S8 ((nx.2.trans r6).trans r8) ?_ (fun z hz => absurd hz (by simp))
          have : (ms ++ U ++ [z]).length = ms.length + U.length + 1 := by simp <;> omega
          omega
  · have e14 : ¬ (m_hd (tk.drop p)).1 = 14 := fun z => h14 ((tok (m := 14) (by decide)).mpr z)
    have e27 : ¬ (m_hd (tk.drop p)).1 = 27 := fun z => h27 ((tok (m := 27) (by decide)).mpr z)
    rw [if_neg e14, if_neg e27] at K
    refine w_Rd_readNot_33 ⟨fun z => absurd z h14, fun _ => ⟨fun z => absurd z h27, fun _ => ⟨S.1.isk, rd_take (lo := 15) (hi := 19) (by decide) (by decide) (by decide) hk hT S (fun h s5 S5 r5 _ => ?_) (fun h s5 S5 r5 _ => ?_)⟩⟩⟩
    · obtain ⟨u1, u2, u3⟩ := S5.tok
      obtain ⟨v1, v2, v3, v4⟩ := S5.rng hT
      obtain ⟨b1, b2, b3⟩ := S5.ar hT
      obtain ⟨-, -, ⟨f5, f6, -⟩, k5, k6, -⟩ := S5.1.1.1
      rw [S5.2.2.1, f5, f6, Option.getD_some, Option.getD_some, b3, u1, u2]
      have no : CoK k L tk σ w ms p (.inl (m_hd (tk.drop (p + 1))).2.2) F → ∀ s8, PaS s8 w k L ms tk (p + 1) (Int32.ofNat (m_hd (tk.drop (p + 1))).2.2) → RdC k ms ms s5 w s8 w → F none s8 := fun K s8 S8 r8 => K v2 s8 w ms (p + 1) none S8 (r5.trans r8) (by omega) (fun z hz => absurd hz (by simp))
      refine ⟨fun _ => ⟨fun _ => ar_mk k5 b1 b2, fun _ => ar_mk k6 b1 b2, ?_⟩, fun z => absurd rfl z⟩
      rintro w32 rfl
      by_cases e19 : (m_hd (tk.drop p)).1 = 19
      · rw [if_neg (by omega), if_pos e19] at K
        rw [e19, if_pos (show Int32.ofNat 19 = 19 from rfl)]
        refine w_Rd_readNot_154 ⟨fun _ => ⟨S5.1.isk, rd_take (lo := 20) (hi := 25) (by decide) (by decide) (by decide) hk hT S5 (fun h2 s8 S8 r8 _ => ?_) (fun h2 s8 S8 r8 _ => ?_)⟩, fun z => absurd rfl z⟩
        · rw [if_pos h2, tl_drop] at K
          refine w_Rd_readNot_180 ⟨fun z => absurd z (by decide), fun _ => ⟨S8.1.isk, rd_node (d := d + 3 * (20 - op)) hk S8 (fun s9 w9 c S9 r9 n9 _ => ?_)⟩⟩
          have kc := S9.1.2.2.2.1.2 c (by simp)
          refine K s9 w9 [] c (p + 1 + 1) rfl (by omega) (by rw [List.append_nil]; exact S9) (by rw [List.append_nil]; exact (r5.trans r8).trans r9) (by simp; omega) trivial (NdG.test ⟨kc.1, kc.2.1⟩ (n9.1.trans (by decide)) ?_ n9.2.2.1 (by decide) (by decide) (Int.natCast_nonneg _) ?_ ?_) rfl n9.2.2.2
          · rw [n9.2.1, if_pos rfl]
            have : (Int.ofNat ((m_hd (tk.drop (p + 1))).1 - 20) + 20 : Int) = (((m_hd (tk.drop (p + 1))).1 : Nat) : Int) := by
              rw [Int.ofNat_eq_natCast]
              omega
            rw [this, ofi (by omega)]
          · rw [Int.ofNat_eq_natCast]
            omega
          · intro _
            rw [Int.ofNat_eq_natCast]
            omega
        · rw [if_neg h2] at K
          exact w_Rd_readNot_180 ⟨fun _ => no K s8 S8 r8, fun z => absurd rfl z⟩
      · have e15 : 15 ≤ (m_hd (tk.drop p)).1 ∧ (m_hd (tk.drop p)).1 ≤ 18 := by omega
        rw [if_pos e15] at K
        have n19 : ¬ Int32.ofNat (m_hd (tk.drop p)).1 = 19 := fun z => e19 ((tok (m := 19) (by decide)).mp z)
        rw [if_neg n19]
        refine w_Rd_readNot_154 ⟨fun z => absurd z n19, fun _ => ⟨S5.1.isk, rd_take (lo := 26) (hi := 26) (by decide) (by decide) (by decide) hk hT S5 (fun h2 s8 S8 r8 _ => ?_) (fun h2 s8 S8 r8 _ => ?_)⟩⟩
        · have e26 : (m_hd (tk.drop (p + 1))).1 = 26 := by omega
          rw [if_pos e26, tl_drop] at K
          refine w_Rd_readNot_180 ⟨fun z => absurd z (by decide), fun _ => ⟨S8.1.isk, rd_node (d := d + 3 * (20 - op)) hk S8 (fun s9 w9 c S9 r9 n9 _ => ?_)⟩⟩
          have kc := S9.1.2.2.2.1.2 c (by simp)
          refine K s9 w9 [] c (p + 1 + 1) rfl (by omega) (by rw [List.append_nil]; exact S9) (by rw [List.append_nil]; exact (r5.trans r8).trans r9) (by simp; omega) trivial (NdG.test ⟨kc.1, kc.2.1⟩ ?_ ?_ n9.2.2.1 ?_ ?_ v3 v4 ?_) rfl n9.2.2.2
          · rw [n9.1]
            have : (Int.ofNat ((m_hd (tk.drop p)).1 - 12) + 12 : Int) = (((m_hd (tk.drop p)).1 : Nat) : Int) := by
              rw [Int.ofNat_eq_natCast]
              omega
            rw [this, ofi (by omega)]
          · rw [n9.2.1, if_neg (by rw [Int.ofNat_eq_natCast]; omega), Int32.ofInt_toInt]
          · rw [Int.ofNat_eq_natCast]
            omega
          · rw [Int.ofNat_eq_natCast]
            omega
          · rw [Int.ofNat_eq_natCast]
            omega
        · have e26 : ¬ (m_hd (tk.drop (p + 1))).1 = 26 := by omega
          rw [if_neg e26] at K
          exact w_Rd_readNot_180 ⟨fun _ => no K s8 S8 r8, fun z => absurd rfl z⟩
    · rw [if_neg (by omega), if_neg (by omega)] at K
      exact ⟨fun z => absurd z (by decide), fun _ => K g2 s5 w ms p none S5 r5 (by omega) (fun z hz => absurd hz (by simp))⟩
theorem cnd_all (hk : RdO k) (hT : TkW tk) : ∀ f, NotC nl Ln xs k L tk f ∧ AndC nl Ln xs k L tk f ∧ OrC nl Ln xs k L tk f ∧ AndL nl Ln xs k L tk f ∧ OrL nl Ln xs k L tk f := by
  intro f
  induction f with
  | zero =>
    refine ⟨?_, ?_, ?_, ?_, ?_⟩
    · intro d op σ w ms p acc F hop hf
      omega
    · intro d op σ w ms p acc F hop hf
      omega
    · intro d op σ w ms p acc F hop hf
      omega
    · intro d op σ0 w0 ms p0 σ w U x y p x4 acc F hop hf
      omega
    · intro d op σ0 w0 ms p0 σ w U x y p x4 acc F hop hf
      omega
  | succ f ih =>
    obtain ⟨h1, h2, h3, h4, h5⟩ := ih
    exact ⟨NotC_step hk hT h1 h3, AndC_step hk hT h1 h4, OrC_step hk hT h2 h5, AndL_step hk hT h1 h4, OrL_step hk hT h2 h5⟩
end
