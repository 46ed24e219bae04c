/-! THE FIRST CALL, acts of the reference that are refused -/
def st_arg (σ : am_S) (p1 p2 p3 p4 p5 p6 : Int64) : am_S := am_saL (am_saL (am_saL (am_saL (am_saL (am_saL σ 1060 0 p1) 1060 1 p2) 1060 2 p3) 1060 3 p4) 1060 4 p5) 1060 5 p6
section
variable {nl : Bool} {Ln : Nat} {xs : Nat → Int32} {d : Nat} {σ : am_S}
theorem q_ar (h0 : i_fm σ) {i : Int32} (h1 : 0 ≤ i.toInt) (h2 : i.toInt < 6) : am_ar σ 1001 (some 1060) i := ar_mk (ik_1060 h0) h1 (by exact_mod_cast h2)
theorem q_in0 {v : Int64} : decide (¬ (v < (0 : Int64)) ∧ (¬ (((0 : Int32) - (1 : Int32)).toInt64 < v))) = false := by
  have e : ((0 : Int32) - (1 : Int32)).toInt64 = -1 := by decide
  rw [e]
  refine decide_eq_false ?_
  rintro ⟨h1, h2⟩
  grind
theorem q_Rm_act {a : Int32} {p1 p2 p3 p4 : Int64} {F : Int32 → am_S → Prop} (h0 : i_fm σ) (h : k_Ro_act nl Ln xs d 1063 a (some 1060) (st_arg σ p1 p2 p3 p4 0 0) (fun r σ2 => am_ext (st_arg σ p1 p2 p3 p4 0 0) σ2 → F r σ2)) : k_Rm_act nl Ln xs (d + 1) 1053 a p1 p2 p3 p4 σ F := by
  refine w_Rm_act ⟨is_mk (ik_1053 h0), by rw [ir_12018_1053 h0]; exact q_ar h0 (by decide) (by decide), ?_⟩
  intro s1 es1
  have g1 : i_fm s1 := by rw [es1]; exact h0
  rw [ir_12018_1053 h0, Option.getD_some, z0] at es1
  rw [ir_12018_1053 g1]
  refine ⟨q_ar g1 (by decide) (by decide), ?_⟩
  intro s2 es2
  have g2 : i_fm s2 := by rw [es2]; exact g1
  rw [Option.getD_some, z1] at es2
  rw [ir_12018_1053 g2]
  refine ⟨q_ar g2 (by decide) (by decide), ?_⟩
  intro s3 es3
  have g3 : i_fm s3 := by rw [es3]; exact g2
  rw [Option.getD_some, z2] at es3
  rw [ir_12018_1053 g3]
  refine ⟨q_ar g3 (by decide) (by decide), ?_⟩
  intro s4 es4
  have g4 : i_fm s4 := by rw [es4]; exact g3
  rw [Option.getD_some, z3] at es4
  rw [ir_12018_1053 g4]
  refine ⟨q_ar g4 (by decide) (by decide), ?_⟩
  intro s5 es5
  have g5 : i_fm s5 := by rw [es5]; exact g4
  rw [Option.getD_some, z4] at es5
  rw [ir_12018_1053 g5]
  refine ⟨q_ar g5 (by decide) (by decide), ?_⟩
  intro s6 es6
  have g6 : i_fm s6 := by rw [es6]; exact g5
  rw [Option.getD_some, z5] at es6
  rw [ir_12016_1053 g6, ir_12018_1053 g6, Option.getD_some]
  refine ⟨is_mk (ik_1063 g6), ?_⟩
  have e : s6 = st_arg σ p1 p2 p3 p4 0 0 := by rw [es6, es5, es4, es3, es2, es1]; rfl
  rw [e]
  exact h
theorem q_act1 {o : Option Nat} {F : Int32 → am_S → Prop} (h0 : i_fm σ) (h : c_Ro_act_168 nl Ln xs (d + 1) 1063 1 o 0 σ F) : k_Ro_act nl Ln xs (d + 1) 1063 1 o σ F := by
  refine w_Ro_act ?_
  rw [if_neg (by decide)]
  refine w_Ro_act_17 ⟨is_mk (ik_1063 h0), fun _ => w_Ro_act_36 ⟨is_mk (ik_1063 h0), fun _ => w_Ro_act_58 ⟨fun _ => ⟨fun _ => h, fun k => absurd k (by decide), fun k => absurd k (by decide), fun k => absurd k (by decide), fun k => absurd k (by decide), fun k => absurd k (by decide), fun k => absurd k (by decide), fun k => absurd k (by decide), fun k => absurd k (by decide), fun k => absurd k (by decide), fun k => absurd k (by decide), fun k => absurd k (by decide), fun k => absurd k (by decide), fun k => absurd k (by decide)⟩, fun k => absurd rfl k⟩, fun k => absurd (ii_13062_1063 h0) k⟩, fun k => absurd (ii_13062_1063 h0) k⟩
theorem q_act2 {o : Option Nat} {F : Int32 → am_S → Prop} (h0 : i_fm σ) (h : c_Ro_act_174 nl Ln xs (d + 1) 1063 2 o 0 σ F) : k_Ro_act nl Ln xs (d + 1) 1063 2 o σ F := by
  refine w_Ro_act ?_
  rw [if_neg (by decide)]
  refine w_Ro_act_17 ⟨is_mk (ik_1063 h0), fun _ => w_Ro_act_36 ⟨is_mk (ik_1063 h0), fun _ => w_Ro_act_58 ⟨fun _ => ⟨fun k => absurd k (by decide), fun _ => h, fun k => absurd k (by decide), fun k => absurd k (by decide), fun k => absurd k (by decide), fun k => absurd k (by decide), fun k => absurd k (by decide), fun k => absurd k (by decide), fun k => absurd k (by decide), fun k => absurd k (by decide), fun k => absurd k (by decide), fun k => absurd k (by decide), fun k => absurd k (by decide), fun k => absurd k (by decide)⟩, fun k => absurd rfl k⟩, fun k => absurd (ii_13062_1063 h0) k⟩, fun k => absurd (ii_13062_1063 h0) k⟩
theorem q_act3 {o : Option Nat} {F : Int32 → am_S → Prop} (h0 : i_fm σ) (h : c_Ro_act_180 nl Ln xs (d + 1) 1063 3 o 0 σ F) : k_Ro_act nl Ln xs (d + 1) 1063 3 o σ F := by
  refine w_Ro_act ?_
  rw [if_neg (by decide)]
  refine w_Ro_act_17 ⟨is_mk (ik_1063 h0), fun _ => w_Ro_act_36 ⟨is_mk (ik_1063 h0), fun _ => w_Ro_act_58 ⟨fun _ => ⟨fun k => absurd k (by decide), fun k => absurd k (by decide), fun _ => h, fun k => absurd k (by decide), fun k => absurd k (by decide), fun k => absurd k (by decide), fun k => absurd k (by decide), fun k => absurd k (by decide), fun k => absurd k (by decide), fun k => absurd k (by decide), fun k => absurd k (by decide), fun k => absurd k (by decide), fun k => absurd k (by decide), fun k => absurd k (by decide)⟩, fun k => absurd rfl k⟩, fun k => absurd (ii_13062_1063 h0) k⟩, fun k => absurd (ii_13062_1063 h0) k⟩
theorem q_act4 {o : Option Nat} {F : Int32 → am_S → Prop} (h0 : i_fm σ) (h : c_Ro_act_186 nl Ln xs (d + 1) 1063 4 o 0 σ F) : k_Ro_act nl Ln xs (d + 1) 1063 4 o σ F := by
  refine w_Ro_act ?_
  rw [if_neg (by decide)]
  refine w_Ro_act_17 ⟨is_mk (ik_1063 h0), fun _ => w_Ro_act_36 ⟨is_mk (ik_1063 h0), fun _ => w_Ro_act_58 ⟨fun _ => ⟨fun k => absurd k (by decide), fun k => absurd k (by decide), fun k => absurd k (by decide), fun _ => h, fun k => absurd k (by decide), fun k => absurd k (by decide), fun k => absurd k (by decide), fun k => absurd k (by decide), fun k => absurd k (by decide), fun k => absurd k (by decide), fun k => absurd k (by decide), fun k => absurd k (by decide), fun k => absurd k (by decide), fun k => absurd k (by decide)⟩, fun k => absurd rfl k⟩, fun k => absurd (ii_13062_1063 h0) k⟩, fun k => absurd (ii_13062_1063 h0) k⟩
theorem q_act5 {o : Option Nat} {F : Int32 → am_S → Prop} (h0 : i_fm σ) (h : c_Ro_act_192 nl Ln xs (d + 1) 1063 5 o 0 σ F) : k_Ro_act nl Ln xs (d + 1) 1063 5 o σ F := by
  refine w_Ro_act ?_
  rw [if_neg (by decide)]
  refine w_Ro_act_17 ⟨is_mk (ik_1063 h0), fun _ => w_Ro_act_36 ⟨is_mk (ik_1063 h0), fun _ => w_Ro_act_58 ⟨fun _ => ⟨fun k => absurd k (by decide), fun k => absurd k (by decide), fun k => absurd k (by decide), fun k => absurd k (by decide), fun _ => h, fun k => absurd k (by decide), fun k => absurd k (by decide), fun k => absurd k (by decide), fun k => absurd k (by decide), fun k => absurd k (by decide), fun k => absurd k (by decide), fun k => absurd k (by decide), fun k => absurd k (by decide), fun k => absurd k (by decide)⟩, fun k => absurd rfl k⟩, fun k => absurd (ii_13062_1063 h0) k⟩, fun k => absurd (ii_13062_1063 h0) k⟩
theorem q_act6 {o : Option Nat} {F : Int32 → am_S → Prop} (h0 : i_fm σ) (h : c_Ro_act_198 nl Ln xs (d + 1) 1063 6 o 0 σ F) : k_Ro_act nl Ln xs (d + 1) 1063 6 o σ F := by
  refine w_Ro_act ?_
  rw [if_neg (by decide)]
  refine w_Ro_act_17 ⟨is_mk (ik_1063 h0), fun _ => w_Ro_act_36 ⟨is_mk (ik_1063 h0), fun _ => w_Ro_act_58 ⟨fun _ => ⟨fun k => absurd k (by decide), fun k => absurd k (by decide), fun k => absurd k (by decide), fun k => absurd k (by decide), fun k => absurd k (by decide), fun _ => h, fun k => absurd k (by decide), fun k => absurd k (by decide), fun k => absurd k (by decide), fun k => absurd k (by decide), fun k => absurd k (by decide), fun k => absurd k (by decide), fun k => absurd k (by decide), fun k => absurd k (by decide)⟩, fun k => absurd rfl k⟩, fun k => absurd (ii_13062_1063 h0) k⟩, fun k => absurd (ii_13062_1063 h0) k⟩
theorem q_act7 {o : Option Nat} {F : Int32 → am_S → Prop} (h0 : i_fm σ) (h : c_Ro_act_204 nl Ln xs (d + 1) 1063 7 o 0 σ F) : k_Ro_act nl Ln xs (d + 1) 1063 7 o σ F := by
  refine w_Ro_act ?_
  rw [if_neg (by decide)]
  refine w_Ro_act_17 ⟨is_mk (ik_1063 h0), fun _ => w_Ro_act_36 ⟨is_mk (ik_1063 h0), fun _ => w_Ro_act_58 ⟨fun _ => ⟨fun k => absurd k (by decide), fun k => absurd k (by decide), fun k => absurd k (by decide), fun k => absurd k (by decide), fun k => absurd k (by decide), fun k => absurd k (by decide), fun _ => h, fun k => absurd k (by decide), fun k => absurd k (by decide), fun k => absurd k (by decide), fun k => absurd k (by decide), fun k => absurd k (by decide), fun k => absurd k (by decide), fun k => absurd k (by decide)⟩, fun k => absurd rfl k⟩, fun k => absurd (ii_13062_1063 h0) k⟩, fun k => absurd (ii_13062_1063 h0) k⟩
theorem q_act8 {o : Option Nat} {F : Int32 → am_S → Prop} (h0 : i_fm σ) (h : c_Ro_act_210 nl Ln xs (d + 1) 1063 8 o 0 σ F) : k_Ro_act nl Ln xs (d + 1) 1063 8 o σ F := by
  refine w_Ro_act ?_
  rw [if_neg (by decide)]
  refine w_Ro_act_17 ⟨is_mk (ik_1063 h0), fun _ => w_Ro_act_36 ⟨is_mk (ik_1063 h0), fun _ => w_Ro_act_58 ⟨fun _ => ⟨fun k => absurd k (by decide), fun k => absurd k (by decide), fun k => absurd k (by decide), fun k => absurd k (by decide), fun k => absurd k (by decide), fun k => absurd k (by decide), fun k => absurd k (by decide), fun _ => h, fun k => absurd k (by decide), fun k => absurd k (by decide), fun k => absurd k (by decide), fun k => absurd k (by decide), fun k => absurd k (by decide), fun k => absurd k (by decide)⟩, fun k => absurd rfl k⟩, fun k => absurd (ii_13062_1063 h0) k⟩, fun k => absurd (ii_13062_1063 h0) k⟩
theorem q_act9 {o : Option Nat} {F : Int32 → am_S → Prop} (h0 : i_fm σ) (h : c_Ro_act_216 nl Ln xs (d + 1) 1063 9 o 0 σ F) : k_Ro_act nl Ln xs (d + 1) 1063 9 o σ F := by
  refine w_Ro_act ?_
  rw [if_neg (by decide)]
  refine w_Ro_act_17 ⟨is_mk (ik_1063 h0), fun _ => w_Ro_act_36 ⟨is_mk (ik_1063 h0), fun _ => w_Ro_act_58 ⟨fun _ => ⟨fun k => absurd k (by decide), fun k => absurd k (by decide), fun k => absurd k (by decide), fun k => absurd k (by decide), fun k => absurd k (by decide), fun k => absurd k (by decide), fun k => absurd k (by decide), fun k => absurd k (by decide), fun _ => h, fun k => absurd k (by decide), fun k => absurd k (by decide), fun k => absurd k (by decide), fun k => absurd k (by decide), fun k => absurd k (by decide)⟩, fun k => absurd rfl k⟩, fun k => absurd (ii_13062_1063 h0) k⟩, fun k => absurd (ii_13062_1063 h0) k⟩
theorem q_act10 {o : Option Nat} {F : Int32 → am_S → Prop} (h0 : i_fm σ) (h : c_Ro_act_222 nl Ln xs (d + 1) 1063 10 o 0 σ F) : k_Ro_act nl Ln xs (d + 1) 1063 10 o σ F := by
  refine w_Ro_act ?_
  rw [if_neg (by decide)]
  refine w_Ro_act_17 ⟨is_mk (ik_1063 h0), fun _ => w_Ro_act_36 ⟨is_mk (ik_1063 h0), fun _ => w_Ro_act_58 ⟨fun _ => ⟨fun k => absurd k (by decide), fun k => absurd k (by decide), fun k => absurd k (by decide), fun k => absurd k (by decide), fun k => absurd k (by decide), fun k => absurd k (by decide), fun k => absurd k (by decide), fun k => absurd k (by decide), fun k => absurd k (by decide), fun _ => h, fun k => absurd k (by decide), fun k => absurd k (by decide), fun k => absurd k (by decide), fun k => absurd k (by decide)⟩, fun k => absurd rfl k⟩, fun k => absurd (ii_13062_1063 h0) k⟩, fun k => absurd (ii_13062_1063 h0) k⟩
theorem q_act11 {o : Option Nat} {F : Int32 → am_S → Prop} (h0 : i_fm σ) (h : c_Ro_act_228 nl Ln xs (d + 1) 1063 11 o 0 σ F) : k_Ro_act nl Ln xs (d + 1) 1063 11 o σ F := by
  refine w_Ro_act ?_
  rw [if_neg (by decide)]
  refine w_Ro_act_17 ⟨is_mk (ik_1063 h0), fun _ => w_Ro_act_36 ⟨is_mk (ik_1063 h0), fun _ => w_Ro_act_58 ⟨fun _ => ⟨fun k => absurd k (by decide), fun k => absurd k (by decide), fun k => absurd k (by decide), fun k => absurd k (by decide), fun k => absurd k (by decide), fun k => absurd k (by decide), fun k => absurd k (by decide), fun k => absurd k (by decide), fun k => absurd k (by decide), fun k => absurd k (by decide), fun _ => h, fun k => absurd k (by decide), fun k => absurd k (by decide), fun k => absurd k (by decide)⟩, fun k => absurd rfl k⟩, fun k => absurd (ii_13062_1063 h0) k⟩, fun k => absurd (ii_13062_1063 h0) k⟩
theorem q_act20 {o : Option Nat} {F : Int32 → am_S → Prop} (h0 : i_fm σ) (h : c_Ro_act_234 nl Ln xs (d + 1) 1063 20 o 0 σ F) : k_Ro_act nl Ln xs (d + 1) 1063 20 o σ F := by
  refine w_Ro_act ?_
  rw [if_neg (by decide)]
  refine w_Ro_act_17 ⟨is_mk (ik_1063 h0), fun _ => w_Ro_act_36 ⟨is_mk (ik_1063 h0), fun _ => w_Ro_act_58 ⟨fun _ => ⟨fun k => absurd k (by decide), fun k => absurd k (by decide), fun k => absurd k (by decide), fun k => absurd k (by decide), fun k => absurd k (by decide), fun k => absurd k (by decide), fun k => absurd k (by decide), fun k => absurd k (by decide), fun k => absurd k (by decide), fun k => absurd k (by decide), fun k => absurd k (by decide), fun _ => h, fun k => absurd k (by decide), fun k => absurd k (by decide)⟩, fun k => absurd rfl k⟩, fun k => absurd (ii_13062_1063 h0) k⟩, fun k => absurd (ii_13062_1063 h0) k⟩
theorem q_act21 {o : Option Nat} {F : Int32 → am_S → Prop} (h0 : i_fm σ) (h : c_Ro_act_240 nl Ln xs (d + 1) 1063 21 o 0 σ F) : k_Ro_act nl Ln xs (d + 1) 1063 21 o σ F := by
  refine w_Ro_act ?_
  rw [if_neg (by decide)]
  refine w_Ro_act_17 ⟨is_mk (ik_1063 h0), fun _ => w_Ro_act_36 ⟨is_mk (ik_1063 h0), fun _ => w_Ro_act_58 ⟨fun _ => ⟨fun k => absurd k (by decide), fun k => absurd k (by decide), fun k => absurd k (by decide), fun k => absurd k (by decide), fun k => absurd k (by decide), fun k => absurd k (by decide), fun k => absurd k (by decide), fun k => absurd k (by decide), fun k => absurd k (by decide), fun k => absurd k (by decide), fun k => absurd k (by decide), fun k => absurd k (by decide), fun _ => h, fun k => absurd k (by decide)⟩, fun k => absurd rfl k⟩, fun k => absurd (ii_13062_1063 h0) k⟩, fun k => absurd (ii_13062_1063 h0) k⟩
theorem q_act22 {o : Option Nat} {F : Int32 → am_S → Prop} (h0 : i_fm σ) (h : c_Ro_act_246 nl Ln xs (d + 1) 1063 22 o 0 σ F) : k_Ro_act nl Ln xs (d + 1) 1063 22 o σ F := by
  refine w_Ro_act ?_
  rw [if_neg (by decide)]
  refine w_Ro_act_17 ⟨is_mk (ik_1063 h0), fun _ => w_Ro_act_36 ⟨is_mk (ik_1063 h0), fun _ => w_Ro_act_58 ⟨fun _ => ⟨fun k => absurd k (by decide), fun k => absurd k (by decide), fun k => absurd k (by decide), fun k => absurd k (by decide), fun k => absurd k (by decide), fun k => absurd k (by decide), fun k => absurd k (by decide), fun k => absurd k (by decide), fun k => absurd k (by decide), fun k => absurd k (by decide), fun k => absurd k (by decide), fun k => absurd k (by decide), fun k => absurd k (by decide), fun _ => h⟩, fun k => absurd rfl k⟩, fun k => absurd (ii_13062_1063 h0) k⟩, fun k => absurd (ii_13062_1063 h0) k⟩
theorem q_isCase {v : Int64} {F : Bool → am_S → Prop} (h0 : i_fm σ) (h : F false σ) : k_Ro_isCase nl Ln xs (d + 2) 1063 v σ F := by
  refine w_Ro_isCase ⟨is_mk (ik_1063 h0), w_Rm_in ?_⟩
  intro _
  rw [ii_13045_1063 h0, q_in0]
  exact h
theorem q_isPolicy {v : Int64} {F : Bool → am_S → Prop} (h0 : i_fm σ) (h : F false σ) : k_Ro_isPolicy nl Ln xs (d + 2) 1063 v σ F := by
  refine w_Ro_isPolicy ⟨is_mk (ik_1063 h0), w_Rm_in ?_⟩
  intro _
  rw [ii_13002_1063 h0, q_in0]
  exact h
theorem q_isCover {v : Int64} {F : Bool → am_S → Prop} (h0 : i_fm σ) (h : F false σ) : k_Ro_isCover nl Ln xs (d + 3) 1063 v σ F := by
  refine w_Ro_isCover ⟨is_mk (ik_1063 h0), q_isPolicy h0 ?_⟩
  intro _
  refine ⟨fun k => absurd k (by decide), ?_⟩
  rw [show decide ((false = true) ∧ (¬ ((am_aI σ ((am_fR σ 13003 1063).getD 0) v.toInt32.toNatClampNeg) = (6 : Int32)))) = false from decide_eq_false (fun k => absurd k.1 (by decide))]
  exact h
theorem q_fact {a : Int32} {F : Int32 → am_S → Prop} (h0 : i_fm σ) (h : F (-2) σ) : k_Ro_fact nl Ln xs (d + 4) 1063 a (some 1060) σ F := by
  refine w_Ro_fact ⟨is_mk (ik_1063 h0), w_Ro_numbers ⟨q_ar h0 (by decide) (by decide), is_mk (ik_1063 h0), q_isCase h0 ?_⟩⟩
  exact fun _ => ⟨fun k => absurd k (by decide), fun _ _ => ⟨fun k => absurd k (by decide), fun _ => h⟩⟩
theorem q_actF {a : Int32} {F : Int32 → am_S → Prop} (h0 : i_fm σ) (h1 : ¬ a < 12) (h2 : ¬ (19 : Int32) < a) (h : F (-2) σ) : k_Ro_act nl Ln xs (d + 5) 1063 a (some 1060) σ F := by
  refine w_Ro_act ?_
  rw [if_pos ⟨h1, h2⟩]
  refine w_Ro_act_17 ⟨is_mk (ik_1063 h0), fun _ => w_Ro_act_36 ⟨is_mk (ik_1063 h0), fun _ => w_Ro_act_58 ⟨fun k => absurd k (by decide), fun _ => ⟨is_mk (ik_1063 h0), q_fact h0 (fun _ => h)⟩⟩, fun k => absurd (ii_13062_1063 h0) k⟩, fun k => absurd (ii_13062_1063 h0) k⟩
theorem q_policy {F : Int32 → am_S → Prop} (h0 : i_fm σ) (h : F (-2) σ) : k_Ro_policy nl Ln xs (d + 2) 1063 (some 1060) σ F := by
  refine w_Ro_policy ⟨q_ar h0 (by decide) (by decide), w_Rm_in ?_⟩
  intro _
  refine ⟨fun _ => ⟨q_ar h0 (by decide) (by decide), is_mk (ik_1063 h0), w_Rm_in ?_⟩, fun _ => h⟩
  intro _
  rw [ii_13001_1063 h0, q_in0]
  exact ⟨fun k => absurd k (by decide), fun _ => h⟩
theorem q_bundle {F : Int32 → am_S → Prop} (h0 : i_fm σ) (h : F (-2) σ) : k_Ro_bundle nl Ln xs (d + 3) 1063 (some 1060) σ F := by
  refine w_Ro_bundle ⟨q_ar h0 (by decide) (by decide), is_mk (ik_1063 h0), q_isPolicy h0 ?_⟩
  exact fun _ => ⟨fun k => absurd k (by decide), fun _ => h⟩
theorem q_period {F : Int32 → am_S → Prop} (h0 : i_fm σ) (h : F (-2) σ) : k_Ro_period nl Ln xs (d + 4) 1063 (some 1060) σ F := by
  refine w_Ro_period ⟨q_ar h0 (by decide) (by decide), is_mk (ik_1063 h0), q_isCover h0 ?_⟩
  exact fun _ => ⟨fun k => absurd k (by decide), fun _ => h⟩
theorem q_clauses {F : Int32 → am_S → Prop} (h0 : i_fm σ) (h : F (-2) σ) : k_Ro_clauses nl Ln xs (d + 4) 1063 (some 1060) σ F := by
  refine w_Ro_clauses ⟨q_ar h0 (by decide) (by decide), is_mk (ik_1063 h0), q_isCover h0 ?_⟩
  exact fun _ => ⟨fun k => absurd k (by decide), fun _ => h⟩
theorem q_ruleTold {F : Int32 → am_S → Prop} (h0 : i_fm σ) (h : F (-2) σ) : k_Ro_ruleTold nl Ln xs (d + 4) 1063 (some 1060) σ F := by
  refine w_Ro_ruleTold ⟨q_ar h0 (by decide) (by decide), is_mk (ik_1063 h0), q_isCover h0 ?_⟩
  exact fun _ => ⟨fun k => absurd k (by decide), fun _ => h⟩
theorem q_part {F : Int32 → am_S → Prop} (h0 : i_fm σ) (h : F (-2) σ) : k_Ro_part nl Ln xs (d + 4) 1063 (some 1060) σ F := by
  refine w_Ro_part ⟨q_ar h0 (by decide) (by decide), is_mk (ik_1063 h0), w_Rm_in ?_⟩
  intro _
  rw [ii_13035_1063 h0, q_in0]
  exact ⟨fun k => absurd k (by decide), fun _ => h⟩
theorem q_item {F : Int32 → am_S → Prop} (h0 : i_fm σ) (h : F (-2) σ) : k_Ro_item nl Ln xs (d + 4) 1063 (some 1060) σ F := by
  refine w_Ro_item ⟨q_ar h0 (by decide) (by decide), is_mk (ik_1063 h0), w_Rm_in ?_⟩
  intro _
  rw [ii_13035_1063 h0, q_in0]
  exact ⟨fun k => absurd k (by decide), fun _ => h⟩
theorem q_notified {F : Int32 → am_S → Prop} (h0 : i_fm σ) (h : F (-2) σ) : k_Ro_notified nl Ln xs (d + 4) 1063 (some 1060) σ F := by
  refine w_Ro_notified ⟨q_ar h0 (by decide) (by decide), is_mk (ik_1063 h0), q_isPolicy h0 ?_⟩
  exact fun _ => ⟨fun k => absurd k (by decide), fun _ => h⟩
theorem q_end {F : Int32 → am_S → Prop} (h0 : i_fm σ) (h : F (-3) σ) : k_Ro_end nl Ln xs (d + 4) 1063 (some 1060) σ F := w_Ro_end ⟨is_mk (ik_1063 h0), fun _ => h, fun k => absurd (ii_13062_1063 h0) k⟩
theorem q_undo {F : Int32 → am_S → Prop} (h0 : i_fm σ) (h : F (-3) σ) : k_Ro_undo nl Ln xs (d + 4) 1063 (some 1060) σ F := w_Ro_undo ⟨is_mk (ik_1063 h0), fun _ => h, fun k => absurd (ii_13062_1063 h0) k⟩
theorem q_Rm_policy {p0 : Int32} {p1 : Int32} {p2 : Int32} {p3 : Int32} {F : Int32 → am_S → Prop} (h0 : i_fm σ) (h : F (-2) (st_arg σ p0.toInt64 p1.toInt64 p2.toInt64 p3.toInt64 0 0)) : k_Rm_policy nl Ln xs (d + 8) 1053 p0 p1 p2 p3 σ F := by
  refine w_Rm_policy ⟨is_mk (ik_1053 h0), q_Rm_act h0 ?_⟩
  have h1 : i_fm (st_arg σ p0.toInt64 p1.toInt64 p2.toInt64 p3.toInt64 0 0) := h0
  exact q_act3 h1 (w_Ro_act_180 ⟨is_mk (ik_1063 h1), q_policy h1 (fun _ _ _ => h)⟩)
theorem q_Rm_bundle {p0 : Int32} {p1 : Int32} {p2 : Int32} {F : Int32 → am_S → Prop} (h0 : i_fm σ) (h : F (-2) (st_arg σ p0.toInt64 p1.toInt64 p2.toInt64 0 0 0)) : k_Rm_bundle nl Ln xs (d + 8) 1053 p0 p1 p2 σ F := by
  refine w_Rm_bundle ⟨is_mk (ik_1053 h0), q_Rm_act h0 ?_⟩
  have h1 : i_fm (st_arg σ p0.toInt64 p1.toInt64 p2.toInt64 0 0 0) := h0
  exact q_act4 h1 (w_Ro_act_186 ⟨is_mk (ik_1063 h1), q_bundle h1 (fun _ _ _ => h)⟩)
theorem q_Rm_period {p0 : Int32} {p1 : Int32} {p2 : Int64} {F : Int32 → am_S → Prop} (h0 : i_fm σ) (h : F (-2) (st_arg σ p0.toInt64 p1.toInt64 p2 0 0 0)) : k_Rm_period nl Ln xs (d + 8) 1053 p0 p1 p2 σ F := by
  refine w_Rm_period ⟨is_mk (ik_1053 h0), q_Rm_act h0 ?_⟩
  have h1 : i_fm (st_arg σ p0.toInt64 p1.toInt64 p2 0 0 0) := h0
  exact q_act5 h1 (w_Ro_act_192 ⟨is_mk (ik_1063 h1), q_period h1 (fun _ _ _ => h)⟩)
theorem q_Rm_shareRule {p0 : Int32} {p1 : Int32} {F : Int32 → am_S → Prop} (h0 : i_fm σ) (h : F (-2) (st_arg σ p0.toInt64 p1.toInt64 0 0 0 0)) : k_Rm_shareRule nl Ln xs (d + 8) 1053 p0 p1 σ F := by
  refine w_Rm_shareRule ⟨is_mk (ik_1053 h0), q_Rm_act h0 ?_⟩
  have h1 : i_fm (st_arg σ p0.toInt64 p1.toInt64 0 0 0 0) := h0
  exact q_act7 h1 (w_Ro_act_204 ⟨is_mk (ik_1063 h1), q_ruleTold h1 (fun _ _ _ => h)⟩)
theorem q_Rm_part {p0 : Int32} {p1 : Int32} {F : Int32 → am_S → Prop} (h0 : i_fm σ) (h : F (-2) (st_arg σ p0.toInt64 p1.toInt64 0 0 0 0)) : k_Rm_part nl Ln xs (d + 8) 1053 p0 p1 σ F := by
  refine w_Rm_part ⟨is_mk (ik_1053 h0), q_Rm_act h0 ?_⟩
  have h1 : i_fm (st_arg σ p0.toInt64 p1.toInt64 0 0 0 0) := h0
  exact q_act9 h1 (w_Ro_act_216 ⟨is_mk (ik_1063 h1), q_part h1 (fun _ _ _ => h)⟩)
theorem q_Rm_item {p0 : Int32} {p1 : Int32} {p2 : Int64} {p3 : Int64} {F : Int32 → am_S → Prop} (h0 : i_fm σ) (h : F (-2) (st_arg σ p0.toInt64 p1.toInt64 p2 p3 0 0)) : k_Rm_item nl Ln xs (d + 8) 1053 p0 p1 p2 p3 σ F := by
  refine w_Rm_item ⟨is_mk (ik_1053 h0), q_Rm_act h0 ?_⟩
  have h1 : i_fm (st_arg σ p0.toInt64 p1.toInt64 p2 p3 0 0) := h0
  exact q_act10 h1 (w_Ro_act_222 ⟨is_mk (ik_1063 h1), q_item h1 (fun _ _ _ => h)⟩)
theorem q_Rm_notify {p0 : Int32} {p1 : Int32} {p2 : Int32} {p3 : Int32} {F : Int32 → am_S → Prop} (h0 : i_fm σ) (h : F (-2) (st_arg σ p0.toInt64 p1.toInt64 p2.toInt64 p3.toInt64 0 0)) : k_Rm_notify nl Ln xs (d + 8) 1053 p0 p1 p2 p3 σ F := by
  refine w_Rm_notify ⟨is_mk (ik_1053 h0), q_Rm_act h0 ?_⟩
  have h1 : i_fm (st_arg σ p0.toInt64 p1.toInt64 p2.toInt64 p3.toInt64 0 0) := h0
  exact q_act11 h1 (w_Ro_act_228 ⟨is_mk (ik_1063 h1), q_notified h1 (fun _ _ _ => h)⟩)
theorem q_Rm_reserve {p0 : Int32} {p1 : Int32} {p2 : Int32} {p3 : Int64} {F : Int32 → am_S → Prop} (h0 : i_fm σ) (h : F (-2) (st_arg σ p0.toInt64 p1.toInt64 p2.toInt64 p3 0 0)) : k_Rm_reserve nl Ln xs (d + 8) 1053 p0 p1 p2 p3 σ F := by
  refine w_Rm_reserve ⟨is_mk (ik_1053 h0), q_Rm_act h0 ?_⟩
  have h1 : i_fm (st_arg σ p0.toInt64 p1.toInt64 p2.toInt64 p3 0 0) := h0
  exact q_actF h1 (by decide) (by decide) (fun _ _ => h)
theorem q_Rm_pay {p0 : Int32} {p1 : Int32} {p2 : Int64} {F : Int32 → am_S → Prop} (h0 : i_fm σ) (h : F (-2) (st_arg σ p0.toInt64 p1.toInt64 p2 0 0 0)) : k_Rm_pay nl Ln xs (d + 8) 1053 p0 p1 p2 σ F := by
  refine w_Rm_pay ⟨is_mk (ik_1053 h0), q_Rm_act h0 ?_⟩
  have h1 : i_fm (st_arg σ p0.toInt64 p1.toInt64 p2 0 0 0) := h0
  exact q_actF h1 (by decide) (by decide) (fun _ _ => h)
theorem q_Rm_close {p0 : Int32} {p1 : Int32} {F : Int32 → am_S → Prop} (h0 : i_fm σ) (h : F (-2) (st_arg σ p0.toInt64 p1.toInt64 0 0 0 0)) : k_Rm_close nl Ln xs (d + 8) 1053 p0 p1 σ F := by
  refine w_Rm_close ⟨is_mk (ik_1053 h0), q_Rm_act h0 ?_⟩
  have h1 : i_fm (st_arg σ p0.toInt64 p1.toInt64 0 0 0 0) := h0
  exact q_actF h1 (by decide) (by decide) (fun _ _ => h)
theorem q_Rm_reopen {p0 : Int32} {p1 : Int32} {p2 : Int32} {F : Int32 → am_S → Prop} (h0 : i_fm σ) (h : F (-2) (st_arg σ p0.toInt64 p1.toInt64 p2.toInt64 0 0 0)) : k_Rm_reopen nl Ln xs (d + 8) 1053 p0 p1 p2 σ F := by
  refine w_Rm_reopen ⟨is_mk (ik_1053 h0), q_Rm_act h0 ?_⟩
  have h1 : i_fm (st_arg σ p0.toInt64 p1.toInt64 p2.toInt64 0 0 0) := h0
  exact q_actF h1 (by decide) (by decide) (fun _ _ => h)
theorem q_Rm_share {p0 : Int32} {p1 : Int32} {p2 : Int32} {p3 : Int64} {F : Int32 → am_S → Prop} (h0 : i_fm σ) (h : F (-2) (st_arg σ p0.toInt64 p1.toInt64 p2.toInt64 p3 0 0)) : k_Rm_share nl Ln xs (d + 8) 1053 p0 p1 p2 p3 σ F := by
  refine w_Rm_share ⟨is_mk (ik_1053 h0), q_Rm_act h0 ?_⟩
  have h1 : i_fm (st_arg σ p0.toInt64 p1.toInt64 p2.toInt64 p3 0 0) := h0
  exact q_actF h1 (by decide) (by decide) (fun _ _ => h)
theorem q_Rm_salvage {p0 : Int32} {p1 : Int32} {p2 : Int64} {F : Int32 → am_S → Prop} (h0 : i_fm σ) (h : F (-2) (st_arg σ p0.toInt64 p1.toInt64 p2 0 0 0)) : k_Rm_salvage nl Ln xs (d + 8) 1053 p0 p1 p2 σ F := by
  refine w_Rm_salvage ⟨is_mk (ik_1053 h0), q_Rm_act h0 ?_⟩
  have h1 : i_fm (st_arg σ p0.toInt64 p1.toInt64 p2 0 0 0) := h0
  exact q_actF h1 (by decide) (by decide) (fun _ _ => h)
theorem q_Rm_recourse {p0 : Int32} {p1 : Int32} {p2 : Int64} {F : Int32 → am_S → Prop} (h0 : i_fm σ) (h : F (-2) (st_arg σ p0.toInt64 p1.toInt64 p2 0 0 0)) : k_Rm_recourse nl Ln xs (d + 8) 1053 p0 p1 p2 σ F := by
  refine w_Rm_recourse ⟨is_mk (ik_1053 h0), q_Rm_act h0 ?_⟩
  have h1 : i_fm (st_arg σ p0.toInt64 p1.toInt64 p2 0 0 0) := h0
  exact q_actF h1 (by decide) (by decide) (fun _ _ => h)
theorem q_Rm_end  {F : Int32 → am_S → Prop} (h0 : i_fm σ) (h : F (-3) (st_arg σ 0 0 0 0 0 0)) : k_Rm_end nl Ln xs (d + 8) 1053  σ F := by
  refine w_Rm_end ⟨is_mk (ik_1053 h0), q_Rm_act h0 ?_⟩
  have h1 : i_fm (st_arg σ 0 0 0 0 0 0) := h0
  exact q_act21 h1 (w_Ro_act_240 ⟨is_mk (ik_1063 h1), q_end h1 (fun _ _ _ => h)⟩)
theorem q_Rm_undo  {F : Int32 → am_S → Prop} (h0 : i_fm σ) (h : F (-3) (st_arg σ 0 0 0 0 0 0)) : k_Rm_undo nl Ln xs (d + 8) 1053  σ F := by
  refine w_Rm_undo ⟨is_mk (ik_1053 h0), q_Rm_act h0 ?_⟩
  have h1 : i_fm (st_arg σ 0 0 0 0 0 0) := h0
  exact q_act22 h1 (w_Ro_act_246 ⟨is_mk (ik_1063 h1), q_undo h1 (fun _ _ _ => h)⟩)
theorem q_Rm_correct {p0 p1 p2 p3 : Int32} {p4 : Int64} {p5 : Int32} {F : Int32 → am_S → Prop} (h0 : i_fm σ) (h : F (-2) (st_arg σ p0.toInt64 p1.toInt64 p2.toInt64 p3.toInt64 p4 p5.toInt64)) : k_Rm_correct nl Ln xs (d + 8) 1053 p0 p1 p2 p3 p4 p5 σ F := by
  refine w_Rm_correct ⟨is_mk (ik_1053 h0), by rw [ir_12018_1053 h0]; exact q_ar h0 (by decide) (by decide), ?_⟩
  intro s1 es1
  have g1 : i_fm s1 := by rw [es1]; exact h0
  rw [ir_12018_1053 h0, Option.getD_some, z0] at es1
  rw [ir_12018_1053 g1]
  refine ⟨q_ar g1 (by decide) (by decide), ?_⟩
  intro s2 es2
  have g2 : i_fm s2 := by rw [es2]; exact g1
  rw [Option.getD_some, z1] at es2
  rw [ir_12018_1053 g2]
  refine ⟨q_ar g2 (by decide) (by decide), ?_⟩
  intro s3 es3
  have g3 : i_fm s3 := by rw [es3]; exact g2
  rw [Option.getD_some, z2] at es3
  rw [ir_12018_1053 g3]
  refine ⟨q_ar g3 (by decide) (by decide), ?_⟩
  intro s4 es4
  have g4 : i_fm s4 := by rw [es4]; exact g3
  rw [Option.getD_some, z3] at es4
  rw [ir_12018_1053 g4]
  refine ⟨q_ar g4 (by decide) (by decide), ?_⟩
  intro s5 es5
  have g5 : i_fm s5 := by rw [es5]; exact g4
  rw [Option.getD_some, z4] at es5
  rw [ir_12018_1053 g5]
  refine ⟨q_ar g5 (by decide) (by decide), ?_⟩
  intro s6 es6
  have g6 : i_fm s6 := by rw [es6]; exact g5
  rw [Option.getD_some, z5] at es6
  rw [ir_12016_1053 g6, ir_12018_1053 g6, Option.getD_some]
  refine ⟨is_mk (ik_1063 g6), q_actF g6 (by decide) (by decide) (fun _ => ?_)⟩
  have e : s6 = st_arg σ p0.toInt64 p1.toInt64 p2.toInt64 p3.toInt64 p4 p5.toInt64 := by rw [es6, es5, es4, es3, es2, es1]; rfl
  rw [e]
  exact h
theorem q_Rm_clauses {p0 : Int32} {F : Int32 → am_S → Prop} (h0 : i_fm σ) (h : ∀ w, F (-2) (am_sfI (st_arg σ p0.toInt64 (0 : Int32).toInt64 0 0 0 0) 12003 1053 w)) : k_Rm_clauses nl Ln xs (d + 9) 1053 p0 σ F := by
  refine w_Rm_clauses ⟨is_mk (ik_1053 h0), by rw [ir_12016_1053 h0]; exact is_mk (ik_1063 h0), ?_⟩
  rw [ir_12016_1053 h0, Option.getD_some, ii_13062_1063 h0, ii_12003_1053 h0]
  refine ⟨fun _ => ⟨fun k => absurd k (by decide), fun _ => w_Rm_clauses_28 ⟨is_mk (ik_1053 h0), ?_⟩⟩, fun k => absurd rfl k⟩
  rw [ii_12003_1053 h0]
  refine ⟨fun k => absurd k (by decide), fun _ => q_Rm_act h0 ?_⟩
  have h1 : i_fm (st_arg σ p0.toInt64 (0 : Int32).toInt64 0 0 0 0) := h0
  refine q_act6 h1 (w_Ro_act_198 ⟨is_mk (ik_1063 h1), q_clauses h1 (fun _ _ _ => ?_)⟩)
  intro w13 _ s15 e15
  rw [e15]
  exact h w13
end
