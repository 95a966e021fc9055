/-! Part 69: the class's search: all tails of a head, all heads -/
def CF (N : Nat) (M0 : Mem) (sz bx : Nat → Int) (n : Nat) (lie may : Bool) (stop : Int) (w : Nat → Nat) (a : Axr) : Axr := if I stop < a.1 then a else if 0 < n ∧ (wf sz w n).1 = (0, 0, 0, 0) ∧ (wf sz w n).2 = 0 then crg N M0 sz bx n lie may w a else a
theorem CF_stop {N : Nat} {M0 : Mem} {sz bx : Nat → Int} {n : Nat} {lie may : Bool} {stop : Int} {w : Nat → Nat} {a : Axr} (h : I stop < a.1) : CF N M0 sz bx n lie may stop w a = a := if_pos h
theorem fol_head {A : Type} {G : Nat → A → A} {r : Nat} {a : A} : fol G (r + 1) a = fol (fun c a => G (c + 1) a) r (G 0 a) := by
  have h := fol_add (G := G) (x := 1) (a := a) r
  rw [show r + 1 = 1 + r by omega, h]
  refine fol_cg r (fun c _ => ?_)
  rw [show 1 + c = c + 1 by omega]
theorem fol_skip {A : Type} {T : Nat → A → A} {fr t r : Nat} {a : A} (h : fr ≤ t) (ht : t < 1000) (hr : fr + r = 1000) (hs : ∀ u, fr ≤ u → u < t → T u a = a) : fol (fun c a => T (fr + c) a) r a = fol (fun c a => T (t + 1 + c) a) (999 - t) (T t a) := by
  have h1 := fol_add (G := fun c a => T (fr + c) a) (x := t - fr) (a := a) (999 - t + 1)
  rw [show t - fr + (999 - t + 1) = r by omega, fol_id (t - fr) (fun l hl => hs (fr + l) (by omega) (by omega)), fol_head] at h1
  rw [h1, show fr + (t - fr + 0) = t by omega]
  refine fol_cg _ (fun c _ => ?_)
  rw [show fr + (t - fr + (c + 1)) = t + 1 + c by omega]
theorem dg3_lt {wh : Nat → Nat} {q t : Nat} (hw : ∀ j, j < q → wh j < 10) : ∀ j, j < q + 3 → dg wh q 3 t j < 10 := by
  intro j hj
  by_cases c : j < q
  · rw [dg_out 3 t j (Or.inl c)]; exact hw j c
  · exact dg_lt 3 t j (by omega) hj
theorem tails {N n q m : Nat} {M0 : Mem} {sz bx sd lx ly : Nat → Int} {lie may : Bool} {wh : Nat → Nat} {stop : Int} (hq : q ≤ 3) (hn : n = q + 3) (hz : ∀ k, k < 7 → 0 ≤ sz k ∧ sz k ≤ 20) (hN : 2000 < N) (hT0 : TbM M0 sd m lx ly) (hwh : ∀ j, j < q → wh j < 10) :
    ∀ (r fr k n' : Nat) (M : Mem) (a : Axr), fr + r = 1000 → k ≤ fr → r < n' → CE sz bx sd lx ly m M → Rw M 25 q wh → XA n stop M a →
    ∃ M', l_X3_throughTails_31 N n' M (I n) (bI lie) (bI may) (I stop) (I q) (J (pkp (wf sz wh q).1 * 8 + (wf sz wh q).2)) (I (nxt (fun x => slotv (fend sz x) = slotv (J (pkp (wf sz wh q).1 * 8 + (wf sz wh q).2))) fr)) (I k) = some M' ∧ KpR rTh M M' ∧ Rw M' 25 q wh ∧ XA n stop M' (fol (fun c a => CF N M0 sz bx n lie may stop (dg wh q 3 (fr + c)) a) r a) := by
  generalize hEE : J (pkp (wf sz wh q).1 * 8 + (wf sz wh q).2) = EE
  have hclo : ∀ t, t < 1000 → ((0 < n ∧ (wf sz (dg wh q 3 t) n).1 = (0, 0, 0, 0) ∧ (wf sz (dg wh q 3 t) n).2 = 0) ↔ fend sz t = EE) := fun t ht => by
    rw [← hEE, hn]
    exact close_iff hz hq hwh ht
  have hne : ∀ t (a : Axr), t < 1000 → fend sz t ≠ EE → CF N M0 sz bx n lie may stop (dg wh q 3 t) a = a := fun t a ht h => by
    unfold CF
    by_cases c : I stop < a.1
    · rw [if_pos c]
    · rw [if_neg c, if_neg (fun h' => h ((hclo t ht).mp h'))]
  intro r
  induction r using Nat.strongRecOn with
  | _ r ih =>
  intro fr k n' M a h1 h2 h3 hE hw hA
  obtain ⟨n', rfl⟩ : ∃ q, n' = q + 1 := ⟨n' - 1, by omega⟩
  rw [l_X3_throughTails_31]
  have done : fol (fun c a => CF N M0 sz bx n lie may stop (dg wh q 3 (fr + c)) a) r a = a → ∃ M', some M = some M' ∧ KpR rTh M M' ∧ Rw M' 25 q wh ∧ XA n stop M' (fol (fun c a => CF N M0 sz bx n lie may stop (dg wh q 3 (fr + c)) a) r a) := fun h => ⟨M, rfl, KpR.rf, hw, by rw [h]; exact hA⟩
  by_cases ck : 1000 ≤ k
  · rw [if_pos (by rw [I_1000, I_le] <;> omega)]
    obtain rfl : r = 0 := by omega
    exact done rfl
  rw [if_neg (by rw [I_1000, I_le] <;> omega)]
  rcases nxt_ex (fun x => slotv (fend sz x) = slotv EE) r fr h1 with ⟨e1, e2⟩ | ⟨t, e1, e2, e3, e4, e5⟩
  · rw [e1, if_pos (by decide)]
    refine done (fol_id r (fun c hc => hne _ a (by omega) (fun h => ?_)))
    have := e2 (fr + c) (by omega) (by omega)
    rw [h] at this
    simp at this
  · rw [e1, if_neg (by rw [I_0, I_lt] <;> omega)]
    by_cases cs : I stop < a.1
    · rw [if_pos (by rw [hA.1]; exact cs)]
      exact done (fol_id r (fun c _ => CF_stop cs))
    · rw [if_neg (by rw [hA.1]; exact cs)]
      have hsz : szf M = sz := hE.2.2.1
      have hT : Tls M := hE.2.2.2.1
      unfold Tls at hT
      rw [hsz] at hT
      obtain ⟨t1, t2⟩ := hT.1 t e3
      have hp : slotv (fend sz t) = slotv EE := by simpa using e4
      rw [hp] at t2
      have nb := nxt_b (fun x => slotv (fend sz x) = slotv EE) (fr := t + 1) (by omega)
      have hsk := fol_skip (T := fun u a => CF N M0 sz bx n lie may stop (dg wh q 3 u) a) (a := a) e2 e3 h1 (fun u hu hu2 => hne u a (by omega) (fun h => by
        have := e5 u hu hu2
        rw [h] at this
        simp at this))
      have hsk : fol (fun c a => CF N M0 sz bx n lie may stop (dg wh q 3 (fr + c)) a) r a = fol (fun c a => CF N M0 sz bx n lie may stop (dg wh q 3 (t + 1 + c)) a) (999 - t) (CF N M0 sz bx n lie may stop (dg wh q 3 t) a) := hsk
      have a22 : f_X6_placeAt shp N M 22 (I t) = some (fend sz t, M) := by rw [pat_in (n := 1000) rfl (by decide) (by omega) (by omega), Int.toNat_natCast, t1]
      rw [a22]
      simp only [bd2]
      by_cases c : fend sz t = EE
      · rw [if_pos (show lg_cmp (fend sz t) EE = 0 by rw [lcmp0]; exact c)]
        obtain ⟨M1, l1, l2, l3, l4, l5⟩ := layAt_s (N := N) (i := q) (q := 3) (c := t) (M := M) (by omega) e3 hN
        have k1 : KpR rTh M M1 := ⟨fun x j hj => l4 x j (by rintro rfl; cases hj), fun x j _ => by rw [l5]⟩
        have hw1 : Rw M1 25 n (dg wh q 3 t) := fun j hj => by
          refine ⟨?_, dg3_lt hwh j (by omega)⟩
          by_cases cj : j < q
          · rw [l3 j (Or.inl cj), dg_out 3 t j (Or.inl cj)]
            exact (hw j cj).1
          · exact l2 wh j (by omega) (by omega)
        have hA1 : XA n stop M1 a := ⟨by rw [l4 21 9 (by decide)]; exact hA.1, fun k hk => by rw [l4 26 k (by decide)]; exact hA.2.1 k hk, fun h => absurd h cs⟩
        have hE1 := hE.kp k1
        obtain ⟨M2, c1, c2, c3, c4⟩ := cring (N := N) (M0 := M0) (n := n) (lie := lie) (may := may) (by omega) hz hN hT0 hE1 hw1 hA1 cs
        have hcf : CF N M0 sz bx n lie may stop (dg wh q 3 t) a = crg N M0 sz bx n lie may (dg wh q 3 t) a := by
          unfold CF
          rw [if_neg cs, if_pos ((hclo t e3).mpr c)]
        have k2 := k1.tr c2
        have hw2 : Rw M2 25 q wh := fun j hj => ⟨by rw [c3, l3 j (Or.inl hj)]; exact (hw j hj).1, hwh j hj⟩
        obtain ⟨M', g1, g2, g3, g4⟩ := ih (999 - t) (by omega) (t + 1) (k + 1) n' M2 (CF N M0 sz bx n lie may stop (dg wh q 3 t) a) (by omega) (by omega) (by omega) (hE.kp k2) hw2 (by rw [hcf]; exact c4)
        refine ⟨M', ?_, k2.tr g2, g3, by rw [hsk]; exact g4⟩
        rw [show f_X3_layAt N M (I q) 3 (I t) = _ from l1]
        simp only [bd]
        rw [lacks_s may hE1 (by omega) hw1 hN]
        simp only []
        rw [c1]
        simp only []
        rw [at_in (n := 1000) rfl (by decide) (by omega) (by omega)]
        simp only [Int.toNat_natCast]
        rw [c2.1 23 t rfl, l4 23 t (by decide), t2, I_1, I_add]
        exact g1
      · rw [if_neg (show ¬ lg_cmp (fend sz t) EE = 0 by rw [lcmp0]; exact c)]
        obtain ⟨M', g1, g2, g3, g4⟩ := ih (999 - t) (by omega) (t + 1) (k + 1) n' M (CF N M0 sz bx n lie may stop (dg wh q 3 t) a) (by omega) (by omega) (by omega) hE hw (by rw [hne t a e3 c]; exact hA)
        refine ⟨M', ?_, g2, g3, by rw [hsk]; exact g4⟩
        rw [at_in (n := 1000) rfl (by decide) (by omega) (by omega)]
        simp only [Int.toNat_natCast]
        rw [t2, I_1, I_add]
        exact g1
def HF (N : Nat) (M0 : Mem) (sz bx : Nat → Int) (n : Nat) (lie may : Bool) (stop : Int) (K q h : Nat) (a : Axr) : Axr := fol (fun t a => CF N M0 sz bx n lie may stop (dg (dg zw 0 q h) q 3 t) a) K a
theorem bd2_some {α β : Type} {x : α} {M : Mem} {k : α → Mem → Option β} : bd2 (some (x, M)) k = k x M := rfl
theorem ttails {N n q m K : Nat} {M0 M : Mem} {sz bx sd lx ly : Nat → Int} {lie may : Bool} {wh : Nat → Nat} {stop : Int} {a : Axr} (hK : K = 1000) (hq : q ≤ 3) (hn : n = q + 3) (hz : ∀ k, k < 7 → 0 ≤ sz k ∧ sz k ≤ 20) (hN : 2000 < N) (hT0 : TbM M0 sd m lx ly) (hE : CE sz bx sd lx ly m M) (hw : Rw M 25 q wh) (hA : XA n stop M a) :
    ∃ M', f_X3_throughTails N M (I n) (bI lie) (bI may) (I stop) = some M' ∧ KpR rTh M M' ∧ XA n stop M' (fol (fun t a => CF N M0 sz bx n lie may stop (dg wh q 3 t) a) K a) := by
  have hsz : szf M = sz := hE.2.2.1
  have he := endOf_s (N := N) (q := q) (u := 1) hE.1 hE.2.1 (Or.inl rfl) (by omega) hw hN
  rw [Int.one_mul, hsz] at he
  obtain ⟨M', g1, g2, -, g4⟩ := tails (N := N) (M0 := M0) (lie := lie) (may := may) (stop := stop) hq hn hz hN hT0 (fun j hj => (hw j hj).2) K 0 0 N M a (by omega) (Nat.le_refl 0) (by omega) hE hw hA
  generalize hEE : J (pkp (wf sz wh q).1 * 8 + (wf sz wh q).2) = EE at *
  obtain ⟨j0, hj0, hj1⟩ := slot_b EE
  have hT : Tls M := hE.2.2.2.1
  unfold Tls at hT
  rw [hsz] at hT
  have e24 := hT.2 j0 hj0
  refine ⟨M', ?_, g2, ?_⟩
  · unfold f_X3_throughTails
    simp only [nm]
    rw [I_3, I_sub, show (n : Int) - 3 = (q : Nat) by omega, show f_X3_endOf N M (I q) 1 = _ from he]
    rw [bd2_some, slot_s, hj1, bd2_some, at_in (n := 1024) rfl (by decide) (by omega) (by omega), bd2_some, Int.toNat_natCast, e24, ← hj1]
    exact g1
  · have : fol (fun c a => CF N M0 sz bx n lie may stop (dg wh q 3 (0 + c)) a) K a = fol (fun t a => CF N M0 sz bx n lie may stop (dg wh q 3 t) a) K a := fol_cg K (fun c _ => by rw [Nat.zero_add])
    rw [← this]
    exact g4
theorem lackS_mono {w w' : Nat → Nat} {n n' : Nat} {bx : Nat → Int} (h : ∀ k, cntK w k n ≤ cntK w' k n') : ∀ j, lackS w n bx j ≤ lackS w' n' bx j
  | 0 => Int.le_refl _
  | j + 1 => by
    have h1 := lackS_mono (bx := bx) h j
    have h2 := h j
    unfold lackS
    split <;> split <;> omega
theorem heads {N n q m K : Nat} {M0 : Mem} {sz bx sd lx ly : Nat → Int} {lie may : Bool} {stop : Int} {hs : Nat} (hK : K = 1000) (hq : q ≤ 3) (hn : n = q + 3) (hhs : hs ≤ 1000) (hz : ∀ k, k < 7 → 0 ≤ sz k ∧ sz k ≤ 20) (hN : 2000 < N) (hT0 : TbM M0 sd m lx ly) :
    ∀ (r h n' : Nat) (M : Mem) (a : Axr), h + r = hs → r < n' → CE sz bx sd lx ly m M → XA n stop M a →
    ∃ M', l_X3_through_57 N n' M (I n) (bI lie) (bI may) (I stop) (I hs) (I h) = some M' ∧ KpR rTh M M' ∧ XA n stop M' (fol (fun c a => HF N M0 sz bx n lie may stop K q (h + c) a) r a) := by
  intro r
  induction r with
  | zero =>
    intro h n' M a h1 h2 hE hA
    obtain ⟨n', rfl⟩ : ∃ q, n' = q + 1 := ⟨n' - 1, by omega⟩
    exact ⟨M, by rw [l_X3_through_57, if_pos (by rw [I_le] <;> omega)], KpR.rf, hA⟩
  | succ r ih =>
    intro h n' M a h1 h2 hE hA
    obtain ⟨n', rfl⟩ : ∃ q, n' = q + 1 := ⟨n' - 1, by omega⟩
    rw [l_X3_through_57, if_neg (by rw [I_le] <;> omega)]
    by_cases cs : I stop < a.1
    · rw [if_pos (by rw [hA.1]; exact cs)]
      refine ⟨M, rfl, KpR.rf, ?_⟩
      rw [fol_id (r + 1) (fun c _ => by unfold HF; exact fol_id K (fun t _ => CF_stop cs))]
      exact hA
    rw [if_neg (by rw [hA.1]; exact cs)]
    obtain ⟨M1, l1, l2, l3, l4, l5⟩ := layAt_s (N := N) (i := 0) (q := q) (c := h) (M := M) (by omega) (by omega) hN
    have k1 : KpR rTh M M1 := ⟨fun x j hj => l4 x j (by rintro rfl; cases hj), fun x j _ => by rw [l5]⟩
    have hw1 : Rw M1 25 q (dg zw 0 q h) := fun j hj => ⟨l2 zw j (by omega) (by omega), dg_lt q h j (by omega) (by omega)⟩
    have hA1 : XA n stop M1 a := ⟨by rw [l4 21 9 (by decide)]; exact hA.1, fun k hk => by rw [l4 26 k (by decide)]; exact hA.2.1 k hk, fun h => absurd h cs⟩
    have hE1 := hE.kp k1
    have hfold : fol (fun c a => HF N M0 sz bx n lie may stop K q (h + c) a) (r + 1) a = fol (fun c a => HF N M0 sz bx n lie may stop K q (h + 1 + c) a) r (HF N M0 sz bx n lie may stop K q h a) := by
      rw [fol_head]
      refine fol_cg r (fun c _ => ?_)
      rw [show h + (c + 1) = h + 1 + c by omega]
    rw [hfold]
    have eq : I n - 3 = I q := by rw [I_3, I_sub, show (n : Int) - 3 = (q : Nat) by omega]
    have el : I h + 1 = I (h + 1 : Nat) := by rw [I_1, I_add]; rfl
    have nx := fun (M2 : Mem) (b : Axr) => ih (h + 1) n' M2 b (by omega) (by omega)
    rw [eq, el, show f_X3_layAt N M 0 (I q) (I h) = _ from l1]
    simp only [bd]
    have skip : HF N M0 sz bx n lie may stop K q h a = a → ∃ M', l_X3_through_57 N n' M1 (I n) (bI lie) (bI may) (I stop) (I hs) (I (h + 1 : Nat)) = some M' ∧ KpR rTh M M' ∧ XA n stop M' (fol (fun c a => HF N M0 sz bx n lie may stop K q (h + 1 + c) a) r (HF N M0 sz bx n lie may stop K q h a)) := by
      intro hh
      rw [hh]
      obtain ⟨M', g1, g2, g3⟩ := nx M1 a hE1 hA1
      exact ⟨M', g1, k1.tr g2, g3⟩
    have hno : (∀ t, t < K → ¬ (lackS (dg (dg zw 0 q h) q 3 t) n bx 7 ≤ mayN may ∧ (frs n (dg (dg zw 0 q h) q 3 t) && (!lie || LIv N M0 sz n (dg (dg zw 0 q h) q 3 t))) = true)) → HF N M0 sz bx n lie may stop K q h a = a := by
      intro hh
      unfold HF
      refine fol_id K (fun t ht => ?_)
      unfold CF
      rw [if_neg cs]
      unfold crg
      rw [if_neg (hh t ht)]
      split <;> rfl
    obtain ⟨x, x1, x2⟩ := xfar (N := N) hE1.1 (by omega) hw1 hN
    rw [x1]
    simp only [bd2]
    rcases x2 with rfl | ⟨rfl, i, hi, hlt⟩
    · rw [if_neg (show ¬ (1 : Int32) = 0 by decide), lacks_s may hE1 (by omega) hw1 hN]
      simp only []
      have hbx : mkf M1 = bx := hE1.2.2.2.2.2.2.2
      have hlb := lackS_b (dg zw 0 q h) q bx (fun k hk => by rw [← hbx]; exact (hE1.2.2.2.2.2.2.1 k hk).1) 7 (Nat.le_refl 7)
      by_cases cl : lackS (dg zw 0 q h) q bx 7 ≤ mayN may
      · have hm1 : mayN may ≤ 1 := by cases may <;> decide
        rw [if_pos cl, if_neg (by rw [I_0, I_lt] <;> omega)]
        obtain ⟨M2, t1, t2, t3⟩ := ttails (N := N) (M0 := M0) (lie := lie) (may := may) hK hq hn hz hN hT0 hE1 hw1 hA1
        obtain ⟨M', g1, g2, g3⟩ := nx M2 (HF N M0 sz bx n lie may stop K q h a) (hE1.kp t2) t3
        rw [t1]
        exact ⟨M', g1, (k1.tr t2).tr g2, g3⟩
      · rw [if_neg cl, if_pos (by decide)]
        refine skip (hno (fun t _ hc => ?_))
        have hmono : lackS (dg zw 0 q h) q bx 7 ≤ lackS (dg (dg zw 0 q h) q 3 t) n bx 7 := lackS_mono (fun k => by
          have h6 := cntK_mono (w := dg (dg zw 0 q h) q 3 t) (k := k) (i := q) 3
          rw [cntK_cg (w := dg (dg zw 0 q h) q 3 t) (w' := dg zw 0 q h) q (fun j hj => dg_out 3 t j (Or.inl hj)), ← hn] at h6
          exact h6) 7
        have := hc.1
        omega
    · rw [if_pos rfl]
      refine skip (hno (fun t _ hc => ?_))
      have hf := not_frs (n := n) (w := dg (dg zw 0 q h) q 3 t) (i := i) (by omega) (by
        rw [dg_out 3 t i (Or.inl hi), dg_out 3 t 0 (Or.inl (by omega))]
        exact hlt)
      have h2 := hc.2
      rw [hf] at h2
      simp at h2
