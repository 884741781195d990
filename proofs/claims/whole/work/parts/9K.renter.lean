/-! ===== the reference: the list ===== -/
theorem zb_pcs_le (b : Nat) : ∀ k : Nat, zb_pcs b k ≤ k := by
  intro k
  induction k with
  | zero => exact Nat.le_refl _
  | succ k ih =>
    show zb_pcs b k + (if b.testBit k then 1 else 0) ≤ k + 1
    split <;> omega
theorem s_X12_bitsOf {d : Nat} {m : zb_M} {b : Nat} (hb : b < 1024) : zb_Tp K_X12_bitsOf (d + 1) [(0, (b : Int))] zb_E0 m (fun r => r = (zb_pc b : Int)) := by
  apply w_X12_bitsOf
  unfold PM_X12_bitsOf PL_X12_bitsOf_4
  intro X hX
  refine zb_lq (fun c v => 0 ≤ v ∧ c = (zb_pcs b v.toNat : Int)) 10 (fun c v ⟨v0, ec⟩ vn nxt => hX c v ⟨fun q => ?_, fun q => ?_⟩) 0 0 (by omega) ⟨by omega, rfl⟩
  · have hv : v = 10 := by omega
    rw [ec, hv]; rfl
  · have bt := zb_bit (b := b) (i := v) (by omega) v0 (by omega)
    obtain ⟨l, hl0, hl1, hl2⟩ : ∃ l : Int, (0 ≤ l ∧ l ≤ 1) ∧ (True → zb_and (zb_shr (b : Int) v) 1 = l) ∧ (True → c + l = (zb_pcs b (v + 1).toNat : Int)) := by
      refine ⟨if b.testBit v.toNat then 1 else 0, by clear bt; split <;> omega, fun _ => bt, fun _ => ?_⟩
      clear bt
      rw [show (v + 1).toNat = v.toNat + 1 by omega, ec]
      show (zb_pcs b v.toNat : Int) + _ = ((zb_pcs b v.toNat + (if b.testBit v.toNat then 1 else 0) : Nat) : Int)
      rw [Int.natCast_add]
      congr 1
      split <;> rfl
    clear bt
    have hc := zb_pcs_le b v.toNat
    rw [hl1 trivial]
    exact ⟨zb_inI_of (by omega) (by omega), zb_inI_of (by omega) (by omega), nxt (by omega) _ ⟨by omega, hl2 trivial⟩⟩
def zb_RLi (m : zb_M) (L : zb_Li) : Prop := m 500 52 = L.1 ∧ (0 < L.1 → m 500 53 = L.2.1) ∧ ∀ k, 0 ≤ k → k < L.1 → ∀ j, 0 ≤ j → j < zb_rsz L.2.1 → m 541 (32 * k + j) = L.2.2 k j
def zb_b9 (n : Int) (f : Int → Int) : Prop := ∀ j, 0 ≤ j → j < n → 0 ≤ f j ∧ f j ≤ 9
theorem s_X12_orderName {d : Nat} {m : zb_M} {i l : Int} {f g : Int → Int} (i0 : 0 ≤ i) (i1 : i ≤ 7) (l0 : 0 ≤ l) (l1 : l ≤ 31) (hf : zb_eqo l (m 525) f) (hg : ∀ j, 0 ≤ j → j < l → m 541 (32 * i + j) = g j) (bf : zb_b9 l f) (bg : zb_b9 l g) : zb_Tp K_X12_orderName (d + 1) [(2, 500), (0, i), (0, l)] zb_E0 m (fun r => (r = 0 ∧ zb_eqo l f g) ∨ (0 < r ∧ zb_lex l g f) ∨ (r < 0 ∧ zb_lex l f g)) := by
  apply w_X12_orderName
  unfold PM_X12_orderName PL_X12_orderName_2
  rw [zb_v_500_30, zb_v_500_54]
  intro X hX
  refine zb_lp0 (fun v => 0 ≤ v ∧ ∀ j, 0 ≤ j → j < v → f j = g j) l (fun v ⟨v0, hv⟩ vn nxt => hX v ⟨fun c => Or.inl ⟨rfl, fun j j0 j1 => hv j j0 (by omega)⟩, fun c => ?_⟩) 0 l0 ⟨by omega, fun j j0 j1 => by omega⟩
  have v1 : v < l := by omega
  have e1 := hf v v0 v1
  have e2 := hg v v0 v1
  have b1 := bf v v0 v1
  have b2 := bg v v0 v1
  rw [e1, e2]
  refine ⟨⟨v0, by omega⟩, zb_inI_of (by omega) (by omega), zb_inI_of (by omega) (by omega), ⟨by omega, by omega⟩, fun q => ⟨zb_inI_of (by omega) (by omega), nxt v1 ⟨by omega, fun j j0 j1 => ?_⟩⟩, fun q => ?_⟩
  · by_cases w : j = v
    · rw [w]; exact q
    · exact hv j j0 (by omega)
  · unfold PJ_X12_orderName_27
    rw [zb_v_500_30, zb_v_500_54, e1, e2]
    refine ⟨⟨v0, by omega⟩, zb_inI_of (by omega) (by omega), zb_inI_of (by omega) (by omega), ⟨by omega, by omega⟩, zb_inI_of (by omega) (by omega), ?_⟩
    by_cases w : f v < g v
    · exact Or.inr (Or.inr ⟨by omega, v, v0, v1, hv, w⟩)
    · exact Or.inr (Or.inl ⟨by omega, v, v0, v1, fun j j0 j1 => (hv j j0 j1).symm, by omega⟩)
theorem s_X12_enter {d : Nat} {m : zb_M} {l : Int} {L : zb_Li} {f : Int → Int} (l0 : 0 ≤ l) (l1 : l ≤ 31) (el : zb_rsz L.2.1 = l) (c0 : 0 ≤ L.1) (c1 : L.1 ≤ 7) (h : zb_RLi m L) (hf : zb_eqo l (m 525) f) (bf : zb_b9 l f) (bg : ∀ k, 0 ≤ k → k < L.1 → zb_b9 l (L.2.2 k)) (hst : ∀ i k, 0 ≤ i → i < k → k < L.1 → zb_lex l (L.2.2 i) (L.2.2 k)) : zb_T K_X12_enter (d + 2) [(2, 500), (0, l)] zb_E0 m (fun _ m1 => ((m1 = m ∧ ∃ k, (0 ≤ k ∧ k < L.1) ∧ zb_eqo l f (L.2.2 k)) ∨ ∃ i, (0 ≤ i ∧ i ≤ L.1) ∧ (∀ k, 0 ≤ k → k < i → zb_lex l (L.2.2 k) f) ∧ (∀ k, i ≤ k → k < L.1 → zb_lex l f (L.2.2 k)) ∧ m1 500 52 = L.1 + 1 ∧ ∀ k, 0 ≤ k → k < L.1 + 1 → ∀ j, 0 ≤ j → j < l → m1 541 (32 * k + j) = (zb_LI L i f).2.2 k j) ∧ (∀ x, x ≠ 500 → x ≠ 541 → m1 x = m x) ∧ ∀ j, j ≠ 52 → m1 500 j = m 500 j) := by
  apply w_X12_enter
  obtain ⟨h1, -, h2⟩ := h
  rw [el] at h2
  have ord := fun (k : Int) (k0 : 0 ≤ k) (k1 : k < L.1) => s_X12_orderName (d := d) (m := m) k0 (show k ≤ 7 by omega) l0 l1 hf (h2 k k0 k1) bf (bg k k0 k1)
  unfold PM_X12_enter PL_X12_enter_2
  rw [h1]
  have put : ∀ i, 0 ≤ i → i ≤ L.1 → (∀ k, 0 ≤ k → k < i → zb_lex l (L.2.2 k) f) → (∀ k, i ≤ k → k < L.1 → zb_lex l f (L.2.2 k)) → PJ_X12_enter_43 (d + 1) zb_E0 500 l m i (fun _ m1 => ((m1 = m ∧ ∃ k, (0 ≤ k ∧ k < L.1) ∧ zb_eqo l f (L.2.2 k)) ∨ ∃ i, (0 ≤ i ∧ i ≤ L.1) ∧ (∀ k, 0 ≤ k → k < i → zb_lex l (L.2.2 k) f) ∧ (∀ k, i ≤ k → k < L.1 → zb_lex l f (L.2.2 k)) ∧ m1 500 52 = L.1 + 1 ∧ ∀ k, 0 ≤ k → k < L.1 + 1 → ∀ j, 0 ≤ j → j < l → m1 541 (32 * k + j) = (zb_LI L i f).2.2 k j) ∧ (∀ x, x ≠ 500 → x ≠ 541 → m1 x = m x) ∧ ∀ j, j ≠ 52 → m1 500 j = m 500 j) := by
    intro i i0 i1 q1 q2
    unfold PJ_X12_enter_43
    rw [h1]
    refine ⟨zb_inI_of (by omega) (by omega), zb_inI_of (by omega) (by omega), ?_⟩
    unfold PL_X12_enter_53
    rw [zb_v_500_54]
    intro X hX
    have go : ∀ (u : Nat) (k : Int) (mm : zb_M), k + 1 - 32 * i ≤ u → 32 * i ≤ k + 1 → k + 1 ≤ 32 * L.1 → (∀ j, mm 541 j = if k + 32 < j ∧ j < 32 * L.1 + 32 then m 541 (j - 32) else m 541 j) → (∀ x, x ≠ 541 → mm x = m x) → X k mm := by
      intro u
      induction u with
      | zero =>
        intro k mm ku k0 k1 t1 t2
        refine hX k mm ⟨zb_inI_of (by omega) (by omega), fun c => ?_, fun c => by omega⟩
        unfold PJ_X12_enter_82 PL_X12_enter_84
        rw [zb_v_500_54, zb_v_500_30]
        intro Y hY
        refine zb_lp1 (fun v mn => 0 ≤ v ∧ (∀ j, mn 541 j = if 32 * i ≤ j ∧ j < 32 * i + v then f (j - 32 * i) else mm 541 j) ∧ ∀ x, x ≠ 541 → mn x = mm x) l (fun v mn ⟨v0, u1, u2⟩ vn nxt => hY v mn ⟨fun c => ?_, fun c => ⟨zb_inI_of (by omega) (by omega), zb_inI_of (by omega) (by omega), ⟨v0, by omega⟩, ⟨by omega, by omega⟩, fun m105 e105 => ⟨zb_inI_of (by omega) (by omega), nxt (by omega) m105 ⟨by omega, fun j => ?_, fun x hx => by rw [zb_u3 e105 hx]; exact u2 x hx⟩⟩⟩⟩) 0 mm l0 ⟨by omega, fun j => by rw [if_neg (by omega)], fun _ _ => rfl⟩
        · have hv : v = l := by omega
          subst hv
          unfold PJ_X12_enter_112
          have e52 : mn 500 52 = L.1 := by rw [u2 500 (by omega), t2 500 (by omega)]; exact h1
          rw [e52]
          refine ⟨zb_inI_of (by omega) (by omega), fun m119 e119 => ⟨Or.inr ⟨i, ⟨i0, i1⟩, q1, q2, zb_u1 e119, fun a a0 a1 j j0 j1 => ?_⟩, fun x x1 x2 => by rw [zb_u3 e119 x1, u2 x x2, t2 x x2], fun j hj => by rw [zb_u2 e119 (Or.inr hj), u2 500 (by omega), t2 500 (by omega)]⟩⟩
          rw [zb_u3 e119 (by omega), u1, t1]
          rcases Int.lt_trichotomy a i with w | w | w
          · rw [if_neg (by omega), if_neg (by omega), zb_LI_lt w]; exact h2 a a0 (by omega) j j0 j1
          · rw [if_pos (by omega), w, zb_LI_eq]; congr 1; omega
          · rw [if_neg (by omega), if_pos (by omega), zb_LI_gt w, show 32 * a + j - 32 = 32 * (a - 1) + j by omega]; exact h2 (a - 1) (by omega) (by omega) j j0 j1
        · by_cases w : j = 32 * i + v
          · rw [w, zb_u1 e105, if_pos (by omega), u2 525 (by omega), t2 525 (by omega), hf v v0 (by omega)]; congr 1; omega
          · rw [zb_u2 e105 (Or.inr w), u1]
            by_cases w2 : 32 * i ≤ j ∧ j < 32 * i + v
            · rw [if_pos w2, if_pos (by omega)]
            · rw [if_neg w2, if_neg (by omega)]
      | succ u ih =>
        intro k mm ku k0 k1 t1 t2
        by_cases z : k + 1 - 32 * i ≤ u
        · exact ih k mm z k0 k1 t1 t2
        · refine hX k mm ⟨zb_inI_of (by omega) (by omega), fun c => by omega, fun c => ⟨zb_inI_of (by omega) (by omega), ⟨by omega, by omega⟩, ⟨by omega, by omega⟩, fun m75 e75 => ⟨zb_inI_of (by omega) (by omega), ih (k + -1) m75 (by omega) (by omega) (by omega) (fun j => ?_) (fun x hx => by rw [zb_u3 e75 hx]; exact t2 x hx)⟩⟩⟩
          by_cases w : j = k + 32
          · rw [w, zb_u1 e75, t1, if_neg (by omega), if_pos (by omega)]; congr 1; omega
          · rw [zb_u2 e75 (Or.inr w), t1]
            by_cases w2 : k + 32 < j ∧ j < 32 * L.1 + 32
            · rw [if_pos w2, if_pos (by omega)]
            · rw [if_neg w2, if_neg (by omega)]
    exact go (32 * L.1 - 32 * i).toNat (32 * L.1 - 1) m (by omega) (by omega) (by omega) (fun j => by rw [if_neg (by omega)]) (fun _ _ => rfl)
  have at25 : ∀ i, 0 ≤ i → i ≤ L.1 → (∀ k, 0 ≤ k → k < i → zb_lex l (L.2.2 k) f) → (i < L.1 → zb_eqo l f (L.2.2 i) ∨ zb_lex l f (L.2.2 i)) → PJ_X12_enter_25 (d + 1) zb_E0 500 l m (fun _ m1 => ((m1 = m ∧ ∃ k, (0 ≤ k ∧ k < L.1) ∧ zb_eqo l f (L.2.2 k)) ∨ ∃ i, (0 ≤ i ∧ i ≤ L.1) ∧ (∀ k, 0 ≤ k → k < i → zb_lex l (L.2.2 k) f) ∧ (∀ k, i ≤ k → k < L.1 → zb_lex l f (L.2.2 k)) ∧ m1 500 52 = L.1 + 1 ∧ ∀ k, 0 ≤ k → k < L.1 + 1 → ∀ j, 0 ≤ j → j < l → m1 541 (32 * k + j) = (zb_LI L i f).2.2 k j) ∧ (∀ x, x ≠ 500 → x ≠ 541 → m1 x = m x) ∧ ∀ j, j ≠ 52 → m1 500 j = m 500 j) i := by
    intro i i0 i1 q1 q2
    unfold PJ_X12_enter_25
    rw [h1]
    refine ⟨fun c => put i i0 i1 q1 (fun k k0 k1 => by omega), fun c => (ord i i0 (by omega)).mono (fun r hr => ?_)⟩
    rcases hr with ⟨r1, e⟩ | ⟨r1, e⟩ | ⟨r1, e⟩
    · exact ⟨fun _ => ⟨Or.inl ⟨rfl, i, ⟨i0, by omega⟩, e⟩, fun _ _ _ => rfl, fun _ _ => rfl⟩, fun z => absurd r1 z⟩
    · rcases q2 (by omega) with w | w
      · exact (zb_lex_ir e (Or.inl w)).elim
      · exact (zb_lex_ir e (Or.inr w)).elim
    · refine ⟨fun z => by omega, fun _ => put i i0 i1 q1 (fun k k0 k1 => ?_)⟩
      by_cases w : k = i
      · rw [w]; exact e
      · exact zb_lex_tr e (hst i k i0 (by omega) k1)
  intro X hX
  refine zb_lp0 (fun v => 0 ≤ v ∧ ∀ k, 0 ≤ k → k < v → zb_lex l (L.2.2 k) f) L.1 (fun v ⟨v0, hv⟩ vn nxt => hX v ⟨fun c => at25 v v0 vn hv (fun z => by omega), fun c => (ord v v0 (by omega)).mono (fun r hr => ?_)⟩) 0 c0 ⟨by omega, fun k k0 k1 => by omega⟩
  rcases hr with ⟨r1, e⟩ | ⟨r1, e⟩ | ⟨r1, e⟩
  · exact ⟨fun _ => at25 v v0 vn hv (fun _ => Or.inl e), fun z => by omega⟩
  · refine ⟨fun z => by omega, fun _ => ⟨zb_inI_of (by omega) (by omega), nxt (by omega) ⟨by omega, fun k k0 k1 => ?_⟩⟩⟩
    by_cases w : k = v
    · rw [w]; exact e
    · exact hv k k0 (by omega)
  · exact ⟨fun _ => at25 v v0 vn hv (fun _ => Or.inr e), fun z => by omega⟩
