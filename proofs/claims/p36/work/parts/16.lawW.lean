section LW
variable {p : Program} {l : Launch} {e : Env} {s : State} {m : MethodId} {AV : Array Value} {below : List Frame} {meth : Method} {c : Code} {Q : State → Prop} {cells slots : Nat} {g : gT} {h : Nat → Nat} {bb L : Nat} {xs : Nat → Int32}
def m_L_law_L1077 (σ : Int32 × Int32 × ST × (Nat → ST) × (Nat → Int32)) : Option ((Int32 × Int32 × ST × (Nat → ST) × (Nat → Int32)) ⊕ (Int32 × ST × (Nat → ST) × (Nat → Int32))) := (fun (q_50 : Int32 × Int32 × ST × (Nat → ST) × (Nat → Int32)) => un q_50 (fun y_18 q_50 => un q_50 (fun y_19 q_50 => un q_50 (fun b_20 q_50 => un q_50 (fun w_21 v_22 => gd (¬ ((1 : Int32) < 0 ∨ 54 ≤ (1 : Int32).toNatClampNeg)) (if ((v_22 (1 : Int32).toNatClampNeg) + (1 : Int32)) < y_19 then some (.inr (y_18, b_20, w_21, v_22)) else Option.bind (m_X9_sets b_20 y_19) (fun (q_47 : Int32 × ST) => un q_47 (fun r_45 b_46 => lt (y_18 + r_45) (fun x_48 => lt (y_19 + 1) (fun x_49 => some (.inl (x_48, x_49, b_46, w_21, v_22)))))))))))) σ
def m_L_law_L1033 (σ : Int32 × Int32 × ST × (Nat → ST) × (Nat → Int32)) : Option ((Int32 × Int32 × ST × (Nat → ST) × (Nat → Int32)) ⊕ (Int32 × ST × (Nat → ST) × (Nat → Int32))) := (fun (q_68 : Int32 × Int32 × ST × (Nat → ST) × (Nat → Int32)) => un q_68 (fun y_3 q_68 => un q_68 (fun y_4 q_68 => un q_68 (fun b_5 q_68 => un q_68 (fun w_6 v_7 => gd (¬ ((1 : Int32) < 0 ∨ 54 ≤ (1 : Int32).toNatClampNeg)) (if (v_7 (1 : Int32).toNatClampNeg) < y_4 then some (.inr (y_3, b_5, w_6, v_7)) else Option.bind (m_X9_sets b_5 y_4) (fun (q_65 : Int32 × ST) => un q_65 (fun r_63 b_64 => lt (y_3 + r_63) (fun x_66 => lt (y_4 + 1) (fun x_67 => some (.inl (x_66, x_67, b_64, w_6, v_7)))))))))))) σ
def m_L_law_S1016 (y3 : Int32) (b : ST) (w : Nat → ST) (v : Nat → Int32) : Option ((ST × (Nat → ST) × (Nat → Int32)) ⊕ (Int32 × ST × (Nat → ST) × (Nat → Int32))) := gd (¬ ((1 : Int32) < 0 ∨ 54 ≤ (1 : Int32).toNatClampNeg)) (if (10 : Int32) ≤ (v (1 : Int32).toNatClampNeg) then some (.inl (b, w, v)) else Option.bind (vLoop (m_L_law_L1033) FUEL ((0 : Int32), (0 : Int32), b, w, v)) (fun (q_69 : Int32 × ST × (Nat → ST) × (Nat → Int32)) => un q_69 (fun j_8 q_69 => un q_69 (fun b_9 q_69 => un q_69 (fun w_10 v_11 => Option.bind (m_X9_link b_9 (0 : Int32) (1 : Int32) (1 : Int32) (2 : Int32)) (fun (q_15 : Int32 × ST) => un q_15 (fun r_13 b_14 => gd (¬ ((1 : Int32) < 0 ∨ 54 ≤ (1 : Int32).toNatClampNeg)) (if r_13 = (v_11 (1 : Int32).toNatClampNeg) then Option.bind (vLoop (m_L_law_L1077) FUEL ((0 : Int32), (0 : Int32), b_14, w_10, v_11)) (fun (q_51 : Int32 × ST × (Nat → ST) × (Nat → Int32)) => un q_51 (fun j_23 q_51 => un q_51 (fun b_24 q_51 => un q_51 (fun w_25 v_26 => if j_23 < ((2 : Int32) * j_8) then some (.inr ((0 : Int32), b_24, w_25, v_26)) else Option.bind (m_X9_back b_24) (fun (q_31 : Int32 × ST) => un q_31 (fun r_29 b_30 => gd (¬ ((1 : Int32) < 0 ∨ 54 ≤ (1 : Int32).toNatClampNeg)) (if r_29 = (v_26 (1 : Int32).toNatClampNeg) then some (.inl (b_30, w_25, v_26)) else some (.inr ((0 : Int32), b_30, w_25, v_26))))))))) else some (.inr ((0 : Int32), b_14, w_10, v_11))))))))))
def m_L_law_S927 (y3 : Int32) (y23 : Int32) (y24 : Int32) (b : ST) (w : Nat → ST) (v : Nat → Int32) : Option ((ST × (Nat → ST) × (Nat → Int32)) ⊕ (Int32 × ST × (Nat → ST) × (Nat → Int32))) := Option.bind (m_X9_like b y24 y23 (0 : Int32)) (fun (q_4 : Int64 × ST) => un q_4 (fun r_2 b_3 => Option.bind (m_X9_like b_3 y24 y23 (1 : Int32)) (fun (q_8 : Int64 × ST) => un q_8 (fun r_6 b_7 => Option.bind (m_L_divisor r_2 r_6) (fun (r_10 : Int64) => Option.bind (m_X9_reach b_7 (0 : Int32)) (fun (q_14 : Int64 × ST) => un q_14 (fun r_12 b_13 => gd (¬ r_10 = 0) (if (lg_cmp r_12 (r_2 / r_10)) = 0 then Option.bind (m_X9_reach b_13 (1 : Int32)) (fun (q_20 : Int64 × ST) => un q_20 (fun r_18 b_19 => gd (¬ r_10 = 0) (if (lg_cmp r_18 (r_6 / r_10)) = 0 then Option.bind (m_X9_joined b_19 w (0 : Int32)) (fun (q_27 : Int64 × ST × (Nat → ST)) => un q_27 (fun r_24 q_27 => un q_27 (fun b_25 w_26 => Option.bind (m_X9_reach b_25 (0 : Int32)) (fun (q_31 : Int64 × ST) => un q_31 (fun r_29 b_30 => if (lg_cmp r_24 r_29) = 0 then Option.bind (m_X9_joined b_30 w_26 (1 : Int32)) (fun (q_37 : Int64 × ST × (Nat → ST)) => un q_37 (fun r_34 q_37 => un q_37 (fun b_35 w_36 => Option.bind (m_X9_reach b_35 (1 : Int32)) (fun (q_41 : Int64 × ST) => un q_41 (fun r_39 b_40 => if (lg_cmp r_34 r_39) = 0 then m_L_law_S1016 y3 b_40 w_36 v else some (.inr ((0 : Int32), b_40, w_36, v))))))) else some (.inr ((0 : Int32), b_30, w_26, v))))))) else some (.inr ((0 : Int32), b_19, w, v))))) else some (.inr ((0 : Int32), b_13, w, v))))))))))
def m_L_law_L888 (x_3 : Int32) (r_5 : Int32) (σ : Int32 × ST × (Nat → ST) × (Nat → Int32)) : Option ((Int32 × ST × (Nat → ST) × (Nat → Int32)) ⊕ ((ST × (Nat → ST) × (Nat → Int32)) ⊕ (Int32 × ST × (Nat → ST) × (Nat → Int32)))) := (fun (q_33 : Int32 × ST × (Nat → ST) × (Nat → Int32)) => un q_33 (fun y_6 q_33 => un q_33 (fun b_7 q_33 => un q_33 (fun w_8 v_9 => gd (¬ ((1 : Int32) < 0 ∨ 54 ≤ (1 : Int32).toNatClampNeg)) (if (v_9 (1 : Int32).toNatClampNeg) ≤ y_6 then some (.inr (.inl (b_7, w_8, v_9))) else Option.bind (m_X9_see b_7 y_6 (0 : Int32)) (fun (q_25 : Int32 × ST) => un q_25 (fun r_23 b_24 => if r_23 < 0 then some (.inr (.inr ((0 : Int32), b_24, w_8, v_9))) else Option.bind (m_X9_chance b_24 y_6 r_5 x_3) (fun (q_30 : Int32 × ST) => un q_30 (fun r_28 b_29 => if 0 ≤ r_28 then lt (y_6 + 1) (fun x_32 => some (.inl (x_32, b_29, w_8, v_9))) else some (.inr (.inr ((0 : Int32), b_29, w_8, v_9)))))))))))) σ
def m_L_law_S857 (y3 : Int32) (y4 : Int32) (b : ST) (w : Nat → ST) (v : Nat → Int32) : Option ((ST × (Nat → ST) × (Nat → Int32)) ⊕ (Int32 × ST × (Nat → ST) × (Nat → Int32))) := Option.bind (m_L_up ((y4 >>> ((12 : Int32) &&& 31))) (8 : Int32)) (fun (r_2 : Int32) => lt ((2 : Int32) + r_2) (fun x_3 => Option.bind (m_L_up ((y4 >>> ((16 : Int32) &&& 31))) ((x_3 + (1 : Int32)))) (fun (r_5 : Int32) => Option.bind (vLoop (m_L_law_L888 x_3 r_5) FUEL ((0 : Int32), b, w, v)) (fun z => ex z (fun (q_35 : ST × (Nat → ST) × (Nat → Int32)) => un q_35 (fun b_10 q_35 => un q_35 (fun w_11 v_12 => m_L_law_S927 y3 x_3 r_5 b_10 w_11 v_12))) (fun r_36 => some (.inr r_36))))))
def m_L_law_S845 (y3 : Int32) (y4 : Int32) (y20 : Int32) (y22 : Int32) (b : ST) (w : Nat → ST) (v : Nat → Int32) : Option ((ST × (Nat → ST) × (Nat → Int32)) ⊕ (Int32 × ST × (Nat → ST) × (Nat → Int32))) := if y22 = 0 then if y20 = 0 then m_L_law_S857 y3 y4 b w v else some (.inr ((0 : Int32), b, w, v)) else m_L_law_S857 y3 y4 b w v
def m_L_law_S822 (y3 : Int32) (y4 : Int32) (y19 : Int32) (y20 : Int32) (y22 : Int32) (b : ST) (w : Nat → ST) (v : Nat → Int32) : Option ((ST × (Nat → ST) × (Nat → Int32)) ⊕ (Int32 × ST × (Nat → ST) × (Nat → Int32))) := if y19 < 0 then some (.inr ((0 : Int32), b, w, v)) else gd (¬ ((1 : Int32) < 0 ∨ 54 ≤ (1 : Int32).toNatClampNeg)) (if (v (1 : Int32).toNatClampNeg) ≤ 0 then m_L_law_S845 y3 y4 y20 y22 b w v else gd (¬ ((1 : Int32) < 0 ∨ 54 ≤ (1 : Int32).toNatClampNeg)) (Option.bind (m_X9_wide b (((v (1 : Int32).toNatClampNeg) - (1 : Int32)))) (fun (q_8 : Int32 × ST) => un q_8 (fun r_6 b_7 => if r_6 = 0 then m_L_law_S845 y3 y4 y20 y22 b_7 w v else some (.inr ((0 : Int32), b_7, w, v))))))
def m_L_law_S807 (y3 : Int32) (y4 : Int32) (y19 : Int32) (y20 : Int32) (y21 : Int32) (y22 : Int32) (b : ST) (w : Nat → ST) (v : Nat → Int32) : Option ((ST × (Nat → ST) × (Nat → Int32)) ⊕ (Int32 × ST × (Nat → ST) × (Nat → Int32))) := if y21 < 0 then m_L_law_S822 y3 y4 y19 y20 y22 b w v else Option.bind (m_X9_sets b y21) (fun (q_5 : Int32 × ST) => un q_5 (fun r_3 b_4 => if r_3 < (1 : Int32) then some (.inr ((0 : Int32), b_4, w, v)) else m_L_law_S822 y3 y4 y19 y20 y22 b_4 w v))
def m_L_law_S791 (y3 : Int32) (y4 : Int32) (y19 : Int32) (y20 : Int32) (y21 : Int32) (y22 : Int32) (b : ST) (w : Nat → ST) (v : Nat → Int32) : Option ((ST × (Nat → ST) × (Nat → Int32)) ⊕ (Int32 × ST × (Nat → ST) × (Nat → Int32))) := if y21 ≤ 0 then m_L_law_S807 y3 y4 y19 y20 y21 y22 b w v else Option.bind (m_X9_sets b ((y21 - (1 : Int32)))) (fun (q_5 : Int32 × ST) => un q_5 (fun r_3 b_4 => if r_3 = 0 then m_L_law_S807 y3 y4 y19 y20 y21 y22 b_4 w v else some (.inr ((0 : Int32), b_4, w, v))))
def m_L_law_S765 (y3 : Int32) (y4 : Int32) (y19 : Int32) (y20 : Int32) (y21 : Int32) (y22 : Int32) (b : ST) (w : Nat → ST) (v : Nat → Int32) : Option ((ST × (Nat → ST) × (Nat → Int32)) ⊕ (Int32 × ST × (Nat → ST) × (Nat → Int32))) := gd (¬ ((1 : Int32) < 0 ∨ 54 ≤ (1 : Int32).toNatClampNeg)) (Option.bind (m_X9_sets b ((v (1 : Int32).toNatClampNeg))) (fun (q_5 : Int32 × ST) => un q_5 (fun r_3 b_4 => if (1 : Int32) < r_3 then some (.inr ((0 : Int32), b_4, w, v)) else Option.bind (if y21 < 0 then some (0 : Int32) else some (1 : Int32)) (fun (j_8 : Int32) => if y22 = j_8 then m_L_law_S791 y3 y4 y19 y20 y21 y22 b_4 w v else some (.inr ((0 : Int32), b_4, w, v))))))
def m_L_law_S727 (y3 : Int32) (y4 : Int32) (b : ST) (w : Nat → ST) (v : Nat → Int32) : Option ((ST × (Nat → ST) × (Nat → Int32)) ⊕ (Int32 × ST × (Nat → ST) × (Nat → Int32))) := Option.bind (m_X9_widest b) (fun (q_4 : Int32 × ST) => un q_4 (fun r_2 b_3 => Option.bind (m_X9_least b_3 (0 : Int32)) (fun (r_6 : Int32) => Option.bind (m_X9_least b_3 (1 : Int32)) (fun (r_8 : Int32) => gd (¬ ((1 : Int32) < 0 ∨ 54 ≤ (1 : Int32).toNatClampNeg)) (Option.bind (m_X9_sets b_3 ((v (1 : Int32).toNatClampNeg))) (fun (q_13 : Int32 × ST) => un q_13 (fun r_11 b_12 => if r_11 = (1 : Int32) then m_L_law_S765 y3 y4 r_2 r_6 r_8 (1 : Int32) b_12 w v else m_L_law_S765 y3 y4 r_2 r_6 r_8 (0 : Int32) b_12 w v)))))))
def m_L_law_S686 (y3 : Int32) (y4 : Int32) (b : ST) (w : Nat → ST) (v : Nat → Int32) : Option ((ST × (Nat → ST) × (Nat → Int32)) ⊕ (Int32 × ST × (Nat → ST) × (Nat → Int32))) := Option.bind (m_X9_rule b (0 : Int32)) (fun (q_4 : Int64 × ST) => un q_4 (fun r_2 b_3 => Option.bind (m_X9_rule b_3 (1 : Int32)) (fun (q_8 : Int64 × ST) => un q_8 (fun r_6 b_7 => Option.bind (m_L_less r_2 r_6 (1 : Int64) (1 : Int64)) (fun (r_10 : Int32) => if r_10 = 0 then gd (¬ ((0 : Int32) < 0 ∨ 54 ≤ (0 : Int32).toNatClampNeg)) (Option.bind (m_X9_rule b_7 (0 : Int32)) (fun (q_16 : Int64 × ST) => un q_16 (fun r_14 b_15 => Option.bind (m_X9_rule b_15 (1 : Int32)) (fun (q_20 : Int64 × ST) => un q_20 (fun r_18 b_19 => Option.bind (m_L_less ((v (0 : Int32).toNatClampNeg).toInt64) (1 : Int64) r_14 r_18) (fun (r_22 : Int32) => if r_22 = 0 then m_L_law_S727 y3 y4 b_19 w v else some (.inr ((0 : Int32), b_19, w, v)))))))) else some (.inr ((0 : Int32), b_7, w, v)))))))
def m_L_law_S671 (y3 : Int32) (y4 : Int32) (y11 : Int32) (y13 : Int32) (y14 : Int64) (y16 : Int64) (b : ST) (w : Nat → ST) (v : Nat → Int32) : Option ((ST × (Nat → ST) × (Nat → Int32)) ⊕ (Int32 × ST × (Nat → ST) × (Nat → Int32))) := if y11 = y13 then if (lg_cmp y14 y16) = 0 then m_L_law_S686 y3 y4 b w v else some (.inr ((0 : Int32), b, w, v)) else m_L_law_S686 y3 y4 b w v
def m_L_law_S622 (y3 : Int32) (y4 : Int32) (y5 : Int64) (y7 : Int64) (y11 : Int32) (y13 : Int32) (y14 : Int64) (y16 : Int64) (y18 : Int32) (b : ST) (w : Nat → ST) (v : Nat → Int32) : Option ((ST × (Nat → ST) × (Nat → Int32)) ⊕ (Int32 × ST × (Nat → ST) × (Nat → Int32))) := Option.bind (m_X9_pair b y13 y11 (0 : Int32)) (fun (q_4 : Int64 × ST) => un q_4 (fun r_2 b_3 => if (lg_cmp r_2 y14) = 0 then Option.bind (m_X9_pair b_3 y13 y11 (1 : Int32)) (fun (q_9 : Int64 × ST) => un q_9 (fun r_7 b_8 => if (lg_cmp r_7 y16) = 0 then if y18 = 0 then m_L_law_S671 y3 y4 y11 y13 y14 y16 b_8 w v else Option.bind (m_L_less y14 y16 y5 y7) (fun (r_13 : Int32) => if r_13 = 0 then m_L_law_S671 y3 y4 y11 y13 y14 y16 b_8 w v else some (.inr ((0 : Int32), b_8, w, v))) else some (.inr ((0 : Int32), b_8, w, v)))) else some (.inr ((0 : Int32), b_3, w, v))))
def m_L_law_S556 (y3 : Int32) (y4 : Int32) (y5 : Int64) (y7 : Int64) (y11 : Int32) (b : ST) (w : Nat → ST) (v : Nat → Int32) : Option ((ST × (Nat → ST) × (Nat → Int32)) ⊕ (Int32 × ST × (Nat → ST) × (Nat → Int32))) := gd (¬ ((0 : Int32) < 0 ∨ 54 ≤ (0 : Int32).toNatClampNeg)) (Option.bind (m_L_up ((y4 >>> ((8 : Int32) &&& 31))) ((v (0 : Int32).toNatClampNeg))) (fun (r_3 : Int32) => Option.bind (m_X9_pair b y11 r_3 (0 : Int32)) (fun (q_7 : Int64 × ST) => un q_7 (fun r_5 b_6 => Option.bind (m_X9_pair b_6 y11 r_3 (1 : Int32)) (fun (q_11 : Int64 × ST) => un q_11 (fun r_9 b_10 => gd (¬ ((2 : Int32) < 0 ∨ 54 ≤ (2 : Int32).toNatClampNeg)) (lt (((v (2 : Int32).toNatClampNeg) >>> (y11 &&& 31)) &&& (1 : Int32)) (fun x_13 => if x_13 = (1 : Int32) then gd (¬ ((2 : Int32) < 0 ∨ 54 ≤ (2 : Int32).toNatClampNeg)) (lt (((v (2 : Int32).toNatClampNeg) >>> (r_3 &&& 31)) &&& (1 : Int32)) (fun x_16 => if x_16 = (1 : Int32) then m_L_law_S622 y3 y4 y5 y7 y11 r_3 r_5 r_9 (1 : Int32) b_10 w v else m_L_law_S622 y3 y4 y5 y7 y11 r_3 r_5 r_9 (0 : Int32) b_10 w v)) else m_L_law_S622 y3 y4 y5 y7 y11 r_3 r_5 r_9 (0 : Int32) b_10 w v))))))))
def m_L_law_S469 (y3 : Int32) (y4 : Int32) (y5 : Int64) (y7 : Int64) (b : ST) (w : Nat → ST) (v : Nat → Int32) : Option ((ST × (Nat → ST) × (Nat → Int32)) ⊕ (Int32 × ST × (Nat → ST) × (Nat → Int32))) := gd (¬ ((0 : Int32) < 0 ∨ 54 ≤ (0 : Int32).toNatClampNeg)) (Option.bind (m_L_up ((y4 >>> ((4 : Int32) &&& 31))) ((v (0 : Int32).toNatClampNeg))) (fun (r_3 : Int32) => Option.bind (m_X9_count b (3 : Int32)) (fun (r_5 : Int32) => Option.bind (m_X9_goals b ((r_5 ||| ((1 : Int32) <<< (r_3 &&& 31))))) (fun (q_9 : Int32 × ST) => un q_9 (fun r_7 b_8 => if r_7 = r_5 then Option.bind (m_X9_reach b_8 (0 : Int32)) (fun (q_14 : Int64 × ST) => un q_14 (fun r_12 b_13 => Option.bind (m_X9_reach b_13 (1 : Int32)) (fun (q_18 : Int64 × ST) => un q_18 (fun r_16 b_17 => Option.bind (m_L_less y5 y7 r_12 r_16) (fun (r_20 : Int32) => if r_20 = 0 then Option.bind (m_X9_joined b_17 w (0 : Int32)) (fun (q_26 : Int64 × ST × (Nat → ST)) => un q_26 (fun r_23 q_26 => un q_26 (fun b_24 w_25 => Option.bind (m_X9_reach b_24 (0 : Int32)) (fun (q_30 : Int64 × ST) => un q_30 (fun r_28 b_29 => if (lg_cmp r_23 r_28) = 0 then Option.bind (m_X9_goals b_29 r_5) (fun (q_35 : Int32 × ST) => un q_35 (fun r_33 b_34 => if r_33 = (r_5 ||| ((1 : Int32) <<< (r_3 &&& 31))) then m_L_law_S556 y3 y4 y5 y7 r_3 b_34 w_25 v else some (.inr ((0 : Int32), b_34, w_25, v)))) else some (.inr ((0 : Int32), b_29, w_25, v))))))) else some (.inr ((0 : Int32), b_17, w, v))))))) else some (.inr ((0 : Int32), b_8, w, v)))))))
def m_L_law_S342 (y3 : Int32) (y4 : Int32) (y5 : Int64) (y7 : Int64) (b : ST) (w : Nat → ST) (v : Nat → Int32) : Option ((ST × (Nat → ST) × (Nat → Int32)) ⊕ (Int32 × ST × (Nat → ST) × (Nat → Int32))) := Option.bind (m_L_up y4 (10 : Int32)) (fun (r_2 : Int32) => gd (¬ ((1 : Int32) < 0 ∨ 54 ≤ (1 : Int32).toNatClampNeg)) (if (v (1 : Int32).toNatClampNeg) ≤ r_2 then m_L_law_S469 y3 y4 y5 y7 b w v else Option.bind (m_X9_info b r_2 (3 : Int32)) (fun (r_6 : Int32) => Option.bind (m_X9_info b r_2 (2 : Int32)) (fun (r_8 : Int32) => Option.bind (m_X9_better b r_2 r_8 r_6 (0 : Int32)) (fun (q_12 : Int64 × ST) => un q_12 (fun r_10 b_11 => Option.bind (m_X9_better b_11 r_2 r_8 r_6 (1 : Int32)) (fun (q_16 : Int64 × ST) => un q_16 (fun r_14 b_15 => Option.bind (m_X9_better b_15 r_2 r_6 r_6 (0 : Int32)) (fun (q_20 : Int64 × ST) => un q_20 (fun r_18 b_19 => Option.bind (m_X9_better b_19 r_2 r_6 r_6 (1 : Int32)) (fun (q_24 : Int64 × ST) => un q_24 (fun r_22 b_23 => Option.bind (m_L_less r_18 r_22 r_10 r_14) (fun (r_26 : Int32) => if r_26 = 0 then Option.bind (m_X9_info b_23 r_2 (2 : Int32)) (fun (r_29 : Int32) => if r_29 = r_8 then Option.bind (m_X9_info b_23 r_2 (3 : Int32)) (fun (r_32 : Int32) => if r_32 = r_6 then m_L_law_S469 y3 y4 y5 y7 b_23 w v else some (.inr ((0 : Int32), b_23, w, v))) else some (.inr ((0 : Int32), b_23, w, v))) else some (.inr ((0 : Int32), b_23, w, v)))))))))))))))
def m_L_law_L243 (r_2 : Int32) (σ : Int32 × ST × (Nat → ST) × (Nat → Int32)) : Option ((Int32 × ST × (Nat → ST) × (Nat → Int32)) ⊕ ((ST × (Nat → ST) × (Nat → Int32)) ⊕ (Int32 × ST × (Nat → ST) × (Nat → Int32)))) := (fun (q_95 : Int32 × ST × (Nat → ST) × (Nat → Int32)) => un q_95 (fun y_5 q_95 => un q_95 (fun b_6 q_95 => un q_95 (fun w_7 v_8 => gd (¬ ((1 : Int32) < 0 ∨ 54 ≤ (1 : Int32).toNatClampNeg)) (if (v_8 (1 : Int32).toNatClampNeg) ≤ y_5 then some (.inr (.inl (b_6, w_7, v_8))) else Option.bind (m_X9_info b_6 y_5 (4 : Int32)) (fun (r_22 : Int32) => Option.bind (if r_22 = 0 then some (1 : Int32) else some (0 : Int32)) (fun (j_24 : Int32) => if 0 ≤ r_2 then if r_2 < 0 then if r_2 = y_5 then if j_24 = 0 then some (.inr (.inr ((0 : Int32), b_6, w_7, v_8))) else lt (y_5 + 1) (fun x_30 => some (.inl (x_30, b_6, w_7, v_8))) else lt (y_5 + 1) (fun x_28 => some (.inl (x_28, b_6, w_7, v_8))) else if j_24 = 0 then if r_2 = y_5 then if j_24 = 0 then some (.inr (.inr ((0 : Int32), b_6, w_7, v_8))) else lt (y_5 + 1) (fun x_35 => some (.inl (x_35, b_6, w_7, v_8))) else lt (y_5 + 1) (fun x_33 => some (.inl (x_33, b_6, w_7, v_8))) else Option.bind (m_X9_worth b_6 r_2 (0 : Int32)) (fun (q_39 : Int64 × ST) => un q_39 (fun r_37 b_38 => Option.bind (m_X9_worth b_38 r_2 (1 : Int32)) (fun (q_43 : Int64 × ST) => un q_43 (fun r_41 b_42 => Option.bind (m_X9_worth b_42 y_5 (0 : Int32)) (fun (q_47 : Int64 × ST) => un q_47 (fun r_45 b_46 => Option.bind (m_X9_worth b_46 y_5 (1 : Int32)) (fun (q_51 : Int64 × ST) => un q_51 (fun r_49 b_50 => Option.bind (m_L_less r_37 r_41 r_45 r_49) (fun (r_53 : Int32) => if r_53 = 0 then if r_2 = y_5 then if j_24 = 0 then some (.inr (.inr ((0 : Int32), b_50, w_7, v_8))) else lt (y_5 + 1) (fun x_58 => some (.inl (x_58, b_50, w_7, v_8))) else lt (y_5 + 1) (fun x_56 => some (.inl (x_56, b_50, w_7, v_8))) else some (.inr (.inr ((0 : Int32), b_50, w_7, v_8)))))))))))) else if j_24 = 0 then if r_2 < 0 then if r_2 = y_5 then if j_24 = 0 then some (.inr (.inr ((0 : Int32), b_6, w_7, v_8))) else lt (y_5 + 1) (fun x_64 => some (.inl (x_64, b_6, w_7, v_8))) else lt (y_5 + 1) (fun x_62 => some (.inl (x_62, b_6, w_7, v_8))) else if j_24 = 0 then if r_2 = y_5 then if j_24 = 0 then some (.inr (.inr ((0 : Int32), b_6, w_7, v_8))) else lt (y_5 + 1) (fun x_69 => some (.inl (x_69, b_6, w_7, v_8))) else lt (y_5 + 1) (fun x_67 => some (.inl (x_67, b_6, w_7, v_8))) else Option.bind (m_X9_worth b_6 r_2 (0 : Int32)) (fun (q_73 : Int64 × ST) => un q_73 (fun r_71 b_72 => Option.bind (m_X9_worth b_72 r_2 (1 : Int32)) (fun (q_77 : Int64 × ST) => un q_77 (fun r_75 b_76 => Option.bind (m_X9_worth b_76 y_5 (0 : Int32)) (fun (q_81 : Int64 × ST) => un q_81 (fun r_79 b_80 => Option.bind (m_X9_worth b_80 y_5 (1 : Int32)) (fun (q_85 : Int64 × ST) => un q_85 (fun r_83 b_84 => Option.bind (m_L_less r_71 r_75 r_79 r_83) (fun (r_87 : Int32) => if r_87 = 0 then if r_2 = y_5 then if j_24 = 0 then some (.inr (.inr ((0 : Int32), b_84, w_7, v_8))) else lt (y_5 + 1) (fun x_92 => some (.inl (x_92, b_84, w_7, v_8))) else lt (y_5 + 1) (fun x_90 => some (.inl (x_90, b_84, w_7, v_8))) else some (.inr (.inr ((0 : Int32), b_84, w_7, v_8)))))))))))) else some (.inr (.inr ((0 : Int32), b_6, w_7, v_8)))))))))) σ
def m_L_law_S234 (y3 : Int32) (y4 : Int32) (y5 : Int64) (y7 : Int64) (b : ST) (w : Nat → ST) (v : Nat → Int32) : Option ((ST × (Nat → ST) × (Nat → Int32)) ⊕ (Int32 × ST × (Nat → ST) × (Nat → Int32))) := Option.bind (m_X9_worthiest b) (fun (q_4 : Int32 × ST) => un q_4 (fun r_2 b_3 => Option.bind (vLoop (m_L_law_L243 r_2) FUEL ((0 : Int32), b_3, w, v)) (fun z => ex z (fun (q_97 : ST × (Nat → ST) × (Nat → Int32)) => un q_97 (fun b_9 q_97 => un q_97 (fun w_10 v_11 => m_L_law_S342 y3 y4 y5 y7 b_9 w_10 v_11))) (fun r_98 => some (.inr r_98)))))
def m_L_law_S210 (y3 : Int32) (y4 : Int32) (y5 : Int64) (y7 : Int64) (b : ST) (w : Nat → ST) (v : Nat → Int32) : Option ((ST × (Nat → ST) × (Nat → Int32)) ⊕ (Int32 × ST × (Nat → ST) × (Nat → Int32))) := Option.bind (m_X9_reach b (0 : Int32)) (fun (q_4 : Int64 × ST) => un q_4 (fun r_2 b_3 => if (lg_cmp r_2 y5) = 0 then Option.bind (m_X9_reach b_3 (1 : Int32)) (fun (q_9 : Int64 × ST) => un q_9 (fun r_7 b_8 => if (lg_cmp r_7 y7) = 0 then m_L_law_S234 y3 y4 y5 y7 b_8 w v else some (.inr ((0 : Int32), b_8, w, v)))) else some (.inr ((0 : Int32), b_3, w, v))))
def m_L_law_L185 (σ : Int32 × ST × (Nat → ST) × (Nat → Int32)) : Option ((Int32 × ST × (Nat → ST) × (Nat → Int32)) ⊕ ((ST × (Nat → ST) × (Nat → Int32)) ⊕ (Int32 × ST × (Nat → ST) × (Nat → Int32)))) := (fun (q_23 : Int32 × ST × (Nat → ST) × (Nat → Int32)) => un q_23 (fun y_1 q_23 => un q_23 (fun b_2 q_23 => un q_23 (fun w_3 v_4 => gd (¬ ((1 : Int32) < 0 ∨ 54 ≤ (1 : Int32).toNatClampNeg)) (if (v_4 (1 : Int32).toNatClampNeg) ≤ y_1 then some (.inr (.inl (b_2, w_3, v_4))) else Option.bind (m_L_splits b_2 y_1) (fun (q_20 : Int32 × ST) => un q_20 (fun r_18 b_19 => if r_18 = 0 then some (.inr (.inr ((0 : Int32), b_19, w_3, v_4))) else lt (y_1 + 1) (fun x_22 => some (.inl (x_22, b_19, w_3, v_4)))))))))) σ
def m_L_law_S182 (y3 : Int32) (y4 : Int32) (y5 : Int64) (y7 : Int64) (b : ST) (w : Nat → ST) (v : Nat → Int32) : Option ((ST × (Nat → ST) × (Nat → Int32)) ⊕ (Int32 × ST × (Nat → ST) × (Nat → Int32))) := Option.bind (vLoop (m_L_law_L185) FUEL ((0 : Int32), b, w, v)) (fun z => ex z (fun (q_25 : ST × (Nat → ST) × (Nat → Int32)) => un q_25 (fun b_5 q_25 => un q_25 (fun w_6 v_7 => m_L_law_S210 y3 y4 y5 y7 b_5 w_6 v_7))) (fun r_26 => some (.inr r_26)))
def m_L_law_S35 (L : Nat) (xs : Nat → Int32) (y3 : Int32) (b : ST) (w : Nat → ST) (v : Nat → Int32) : Option ((ST × (Nat → ST) × (Nat → Int32)) ⊕ (Int32 × ST × (Nat → ST) × (Nat → Int32))) := Option.bind (m_L_cell L xs ((((13 : Int32) * y3) + (11 : Int32)))) (fun (r_2 : Int32) => Option.bind (m_X9_reach b (0 : Int32)) (fun (q_6 : Int64 × ST) => un q_6 (fun r_4 b_5 => Option.bind (m_X9_reach b_5 (1 : Int32)) (fun (q_10 : Int64 × ST) => un q_10 (fun r_8 b_9 => if (lg_cmp r_4 (0 : Int64)) < 0 then some (.inr ((0 : Int32), b_9, w, v)) else if 0 < (lg_cmp r_4 r_8) then some (.inr ((0 : Int32), b_9, w, v)) else Option.bind (m_L_divisor r_4 r_8) (fun (r_14 : Int64) => if (lg_cmp r_14 (1 : Int64)) = 0 then Option.bind (m_X9_joined b_9 w (0 : Int32)) (fun (q_20 : Int64 × ST × (Nat → ST)) => un q_20 (fun r_17 q_20 => un q_20 (fun b_18 w_19 => if (lg_cmp r_17 r_4) = 0 then Option.bind (m_X9_joined b_18 w_19 (1 : Int32)) (fun (q_26 : Int64 × ST × (Nat → ST)) => un q_26 (fun r_23 q_26 => un q_26 (fun b_24 w_25 => if (lg_cmp r_23 r_8) = 0 then Option.bind (m_X9_joined b_24 w_25 (3 : Int32)) (fun (q_32 : Int64 × ST × (Nat → ST)) => un q_32 (fun r_29 q_32 => un q_32 (fun b_30 w_31 => gd (¬ ((1 : Int32) < 0 ∨ 54 ≤ (1 : Int32).toNatClampNeg)) (if 0 < (lg_cmp r_29 (((v (1 : Int32).toNatClampNeg) + (1 : Int32)).toInt64)) then some (.inr ((0 : Int32), b_30, w_31, v)) else Option.bind (m_X9_joined b_30 w_31 (2 : Int32)) (fun (q_39 : Int64 × ST × (Nat → ST)) => un q_39 (fun r_36 q_39 => un q_39 (fun b_37 w_38 => Option.bind (m_X9_joined b_37 w_38 (3 : Int32)) (fun (q_44 : Int64 × ST × (Nat → ST)) => un q_44 (fun r_41 q_44 => un q_44 (fun b_42 w_43 => if (lg_cmp r_36 r_41) < 0 then some (.inr ((0 : Int32), b_42, w_43, v)) else Option.bind (m_X9_joined b_42 w_43 (4 : Int32)) (fun (q_50 : Int64 × ST × (Nat → ST)) => un q_50 (fun r_47 q_50 => un q_50 (fun b_48 w_49 => gd (¬ ((1 : Int32) < 0 ∨ 54 ≤ (1 : Int32).toNatClampNeg)) (Option.bind (m_X9_joined b_48 w_49 (2 : Int32)) (fun (q_56 : Int64 × ST × (Nat → ST)) => un q_56 (fun r_53 q_56 => un q_56 (fun b_54 w_55 => lt (((2 : Int64) * (v (1 : Int32).toNatClampNeg).toInt64) * r_53) (fun x_57 => if 0 < (lg_cmp r_47 x_57) then some (.inr ((0 : Int32), b_54, w_55, v)) else if (lg_cmp r_4 (0 : Int64)) ≤ 0 then m_L_law_S182 y3 r_2 r_4 r_8 b_54 w_55 v else Option.bind (m_X9_count b_54 (6 : Int32)) (fun (r_61 : Int32) => if r_61 = (1 : Int32) then m_L_law_S182 y3 r_2 r_4 r_8 b_54 w_55 v else some (.inr ((0 : Int32), b_54, w_55, v))))))))))))))))))))) else some (.inr ((0 : Int32), b_24, w_25, v))))) else some (.inr ((0 : Int32), b_18, w_19, v))))) else some (.inr ((0 : Int32), b_9, w, v))))))))
def m_L_law_S20 (L : Nat) (xs : Nat → Int32) (y3 : Int32) (b : ST) (w : Nat → ST) (v : Nat → Int32) : Option ((ST × (Nat → ST) × (Nat → Int32)) ⊕ (Int32 × ST × (Nat → ST) × (Nat → Int32))) := Option.bind (m_L_tells L xs b w v (((13 : Int32) * y3))) (fun (q_6 : Int32 × ST × (Nat → ST) × (Nat → Int32)) => un q_6 (fun r_2 q_6 => un q_6 (fun b_3 q_6 => un q_6 (fun w_4 v_5 => if r_2 = 0 then some (.inr ((0 : Int32), b_3, w_4, v_5)) else m_L_law_S35 L xs y3 b_3 w_4 v_5))))
set_option maxHeartbeats 4000000 in
set_option maxRecDepth 100000 in
theorem w_S1016 (X : Cx g p s m AV c cL_law RL 34) (hX : va_X bb L xs s s.heap) (hbl : bb < s.heap.size) (hbA : ¬ AW 80 h s.heap.size bb) (hcs : cells ≤ room_1.cells ∧ slots ≤ room_1.slots) {y3 : Int32} {b : ST} {w : Nat → ST} {v : Nat → Int32} {z : (ST × (Nat → ST) × (Nat → Int32)) ⊕ (Int32 × ST × (Nat → ST) × (Nat → Int32))} (hz : m_L_law_S1016 y3 b w v = some z) (hn : ∀ (b : ST) (w : Nat → ST) (v : Nat → Int32), z = .inl (b, w, v) → ∀ (H : Heap) (locs : List Loc) (ls : Array Slot), Wd g 80 h (cW g h (b, w) v) s H locs → lv_has ls 34 [(0, .ref bb), (1, .ref (h 0)), (2, .ref (h 79)), (3, .int y3)] → W p l e room_1 s m AV below meth c H locs cells slots Q (F0 m 1125 ls [])) (hx : ∀ (r : Int32) (b : ST) (w : Nat → ST) (v : Nat → Int32), z = .inr (r, b, w, v) → ∀ (H : Heap) (locs : List Loc) (pc : Nat) (ls : Array Slot), Wd g 80 h (cW g h (b, w) v) s H locs → decode cL_law pc = .ok (.ireturn, 1) → (r = 0 ∨ r = 1) → W p l e room_1 s m AV below meth c H locs cells slots Q (F0 m pc ls [.int r])) {H : Heap} {locs : List Loc} {ls : Array Slot} (hw : Wd g 80 h (cW g h (b, w) v) s H locs) (hl : lv_has ls 34 [(0, .ref (bb)), (1, .ref (h 0)), (2, .ref (h 79)), (3, .int y3)]) : W p l e room_1 s m AV below meth c H locs cells slots Q (F0 m 1016 ls []) := by
  unfold m_L_law_S1016 at hz
  refine lv_aload_n X.1 X.2.1 dL_law_1016 rfl (lv_at hl 2 rfl) ?_
  refine lv_iconst (v := 1) X.1 X.2.1 dL_law_1017 (by decide) ?_
  replace hz := gd_e hz
  obtain ⟨g_1, hz⟩ := hz
  refine lV X hw g_1 dL_law_1018 ?_
  refine lv_bipush (v := 10) X.1 X.2.1 dL_law_1019 (by decide) ?_
  refine lv_icmp_ge (tgt := 1125) X.1 X.2.1 dL_law_1021 (by decide) (fun c_2 => ?_) (fun c_2 => ?_)
  · replace hz := it_p hz c_2
    exact hn _ _ _ (Option.some.inj hz).symm _ _ _ hw (lv_sub hl [0, 1, 2, 3] rfl)
  · replace hz := it_n hz c_2
    refine lv_iconst (v := 0) X.1 X.2.1 dL_law_1024 (by decide) ?_
    refine lv_istore (lv' := [(31, .int (0 : Int32)), (0, .ref (bb)), (1, .ref (h 0)), (2, .ref (h 79)), (3, .int y3)]) X.1 X.2.1 dL_law_1025 hl (by decide) rfl (fun ls hl => ?_)
    refine lv_iconst (v := 0) X.1 X.2.1 dL_law_1027 (by decide) ?_
    refine lv_istore (lv' := [(32, .int (0 : Int32)), (31, .int (0 : Int32)), (0, .ref (bb)), (1, .ref (h 0)), (2, .ref (h 79)), (3, .int y3)]) X.1 X.2.1 dL_law_1028 hl (by decide) rfl (fun ls hl => ?_)
    refine lv_iconst (v := 0) X.1 X.2.1 dL_law_1030 (by decide) ?_
    refine lv_istore (lv' := [(33, .int (0 : Int32)), (32, .int (0 : Int32)), (31, .int (0 : Int32)), (0, .ref (bb)), (1, .ref (h 0)), (2, .ref (h 79)), (3, .int y3)]) X.1 X.2.1 dL_law_1031 hl (by decide) rfl (fun ls hl => ?_)
    replace hz := ob_e hz
    obtain ⟨⟨j_8, b_9, w_10, v_11⟩, hL_57, hz⟩ := hz
    replace hz := un_e hz
    replace hz := un_e hz
    replace hz := un_e hz
    have J_56 : ∀ (H : Heap) (locs : List Loc) (ls : Array Slot), Wd g 80 h (cW g h (b_9, w_10) v_11) s H locs → lv_has ls 34 [(0, .ref (bb)), (1, .ref (h 0)), (2, .ref (h 79)), (3, .int y3), (31, .int j_8), (32, .int (0 : Int32))] → W p l e room_1 s m AV below meth c H locs cells slots Q (F0 m 1058 ls []) := by
      intro H locs ls hw hl
      refine lv_aload_n X.1 X.2.1 dL_law_1058 rfl (lv_at hl 1 rfl) ?_
      refine lv_iconst (v := 0) X.1 X.2.1 dL_law_1059 (by decide) ?_
      refine lv_iconst (v := 1) X.1 X.2.1 dL_law_1060 (by decide) ?_
      refine lv_iconst (v := 1) X.1 X.2.1 dL_law_1061 (by decide) ?_
      refine lv_iconst (v := 2) X.1 X.2.1 dL_law_1062 (by decide) ?_
      replace hz := ob_e hz
      obtain ⟨⟨r_13, b_14⟩, h_12, hz⟩ := hz
      replace hz := un_e hz
      refine kE_Vi (k := 0) (As := [.int (0 : Int32), .int (1 : Int32), .int (1 : Int32), .int (2 : Int32)]) (n := 79) (cel' := cW g h (b_14, w_10) v_11) X hl.1 hw (c_X9_link h_12) (by decide) (cW_0 g h _ _) (cW_0 g h _ _) (cW_2 g h _ _ _) (by decide) (he_X9 g h _ _) rfl ⟨wq_6_6, wq_6_7, wq_6_8, wq_1_2, wq_6_9⟩ yo_X9_link rfl ⟨Nat.le_of_ble_eq_true rfl, Nat.le_of_ble_eq_true rfl⟩ (Nat.le_of_ble_eq_true rfl) hcs dL_law_1063 (fun H locs hw => ?_)
      refine lv_aload_n X.1 X.2.1 dL_law_1066 rfl (lv_at hl 2 rfl) ?_
      refine lv_iconst (v := 1) X.1 X.2.1 dL_law_1067 (by decide) ?_
      replace hz := gd_e hz
      obtain ⟨g_16, hz⟩ := hz
      refine lV X hw g_16 dL_law_1068 ?_
      refine lv_icmp_eq (tgt := 1074) X.1 X.2.1 dL_law_1069 (by decide) (fun c_17 => ?_) (fun c_17 => ?_)
      · replace hz := it_p hz c_17
        refine lv_iconst (v := 0) X.1 X.2.1 dL_law_1074 (by decide) ?_
        refine lv_istore (lv' := [(33, .int (0 : Int32)), (0, .ref (bb)), (1, .ref (h 0)), (2, .ref (h 79)), (3, .int y3), (31, .int j_8), (32, .int (0 : Int32))]) X.1 X.2.1 dL_law_1075 hl (by decide) rfl (fun ls hl => ?_)
        replace hz := ob_e hz
        obtain ⟨⟨j_23, b_24, w_25, v_26⟩, hL_39, hz⟩ := hz
        replace hz := un_e hz
        replace hz := un_e hz
        replace hz := un_e hz
        have J_38 : ∀ (H : Heap) (locs : List Loc) (ls : Array Slot), Wd g 80 h (cW g h (b_24, w_25) v_26) s H locs → lv_has ls 34 [(0, .ref (bb)), (1, .ref (h 0)), (2, .ref (h 79)), (3, .int y3), (31, .int j_8), (32, .int j_23)] → W p l e room_1 s m AV below meth c H locs cells slots Q (F0 m 1104 ls []) := by
          intro H locs ls hw hl
          refine lv_iload X.1 X.2.1 dL_law_1104 (lv_at hl 5 rfl) ?_
          refine lv_iconst (v := 2) X.1 X.2.1 dL_law_1106 (by decide) ?_
          refine lv_iload X.1 X.2.1 dL_law_1107 (lv_at hl 4 rfl) ?_
          refine lv_imul X.1 X.2.1 dL_law_1109 ?_
          refine lv_icmp_lt (tgt := 1123) X.1 X.2.1 dL_law_1110 (by decide) (fun c_27 => ?_) (fun c_27 => ?_)
          · replace hz := it_p hz c_27
            refine lv_iconst (v := 0) X.1 X.2.1 dL_law_1123 (by decide) ?_
            have hret := hx _ _ _ _ (Option.some.inj hz).symm
            exact hret _ _ _ _ hw dL_law_1124 (Or.inl rfl)
          · replace hz := it_n hz c_27
            refine lv_aload_n X.1 X.2.1 dL_law_1113 rfl (lv_at hl 1 rfl) ?_
            replace hz := ob_e hz
            obtain ⟨⟨r_29, b_30⟩, h_28, hz⟩ := hz
            replace hz := un_e hz
            refine kE_Vi (k := 0) (As := []) (n := 79) (cel' := cW g h (b_30, w_25) v_26) X hl.1 hw (c_X9_back h_28) (by decide) (cW_0 g h _ _) (cW_0 g h _ _) (cW_2 g h _ _ _) (by decide) (he_X9 g h _ _) rfl ⟨wq_27_9, wq_27_10, wq_27_11, wq_1_2, wq_27_12⟩ yo_X9_back rfl ⟨Nat.le_of_ble_eq_true rfl, Nat.le_of_ble_eq_true rfl⟩ (Nat.le_of_ble_eq_true rfl) hcs dL_law_1114 (fun H locs hw => ?_)
            refine lv_aload_n X.1 X.2.1 dL_law_1117 rfl (lv_at hl 2 rfl) ?_
            refine lv_iconst (v := 1) X.1 X.2.1 dL_law_1118 (by decide) ?_
            replace hz := gd_e hz
            obtain ⟨g_32, hz⟩ := hz
            refine lV X hw g_32 dL_law_1119 ?_
            refine lv_icmp_eq (tgt := 1125) X.1 X.2.1 dL_law_1120 (by decide) (fun c_33 => ?_) (fun c_33 => ?_)
            · replace hz := it_p hz c_33
              exact hn _ _ _ (Option.some.inj hz).symm _ _ _ hw (lv_sub hl [0, 1, 2, 3] rfl)
            · replace hz := it_n hz c_33
              refine lv_iconst (v := 0) X.1 X.2.1 dL_law_1123 (by decide) ?_
              have hret := hx _ _ _ _ (Option.some.inj hz).symm
              exact hret _ _ _ _ hw dL_law_1124 (Or.inl rfl)
        refine vLoop_ind (B := (m_L_law_L1077)) (fun σ => ∀ (H : Heap) (locs : List Loc) (ls : Array Slot), Wd g 80 h (cW g h (σ.2.2.1, σ.2.2.2.1) σ.2.2.2.2) s H locs → lv_has ls 34 [(0, .ref (bb)), (1, .ref (h 0)), (2, .ref (h 79)), (3, .int y3), (31, .int j_8), (32, .int σ.1), (33, .int σ.2.1)] → W p l e room_1 s m AV below meth c H locs cells slots Q (F0 m 1077 ls [])) (fun z' => z' = (j_23, b_24, w_25, v_26)) ?_ FUEL _ _ hL_39 rfl _ _ _ hw (lv_sub hl [1, 2, 3, 4, 5, 6, 0] rfl)
        intro σ z_37 hz_34 hn_35 hx_36
        obtain ⟨y_18, y_19, b_20, w_21, v_22⟩ := σ
        intro H locs ls hw hl
        replace hw : Wd g 80 h (cW g h (b_20, w_21) v_22) s H locs := hw
        replace hl : lv_has ls 34 [(0, .ref (bb)), (1, .ref (h 0)), (2, .ref (h 79)), (3, .int y3), (31, .int j_8), (32, .int y_18), (33, .int y_19)] := hl
        unfold m_L_law_L1077 at hz_34
        replace hz_34 := un_e hz_34
        replace hz_34 := un_e hz_34
        replace hz_34 := un_e hz_34
        replace hz_34 := un_e hz_34
        refine lv_iload X.1 X.2.1 dL_law_1077 (lv_at hl 6 rfl) ?_
        refine lv_aload_n X.1 X.2.1 dL_law_1079 rfl (lv_at hl 2 rfl) ?_
        refine lv_iconst (v := 1) X.1 X.2.1 dL_law_1080 (by decide) ?_
        replace hz_34 := gd_e hz_34
        obtain ⟨g_41, hz_34⟩ := hz_34
        refine lV X hw g_41 dL_law_1081 ?_
        refine lv_iconst (v := 1) X.1 X.2.1 dL_law_1082 (by decide) ?_
        refine lv_iadd X.1 X.2.1 dL_law_1083 ?_
        refine lv_icmp_gt (tgt := 1104) X.1 X.2.1 dL_law_1084 (by decide) (fun c_42 => ?_) (fun c_42 => ?_)
        · replace hz_34 := it_p hz_34 c_42
          obtain ⟨rfl, q_43⟩ := Prod.mk.inj (hx_36 _ (Option.some.inj hz_34).symm)
          obtain ⟨rfl, q_43'⟩ := Prod.mk.inj q_43
          obtain ⟨rfl, rfl⟩ := Prod.mk.inj q_43'
          exact J_38 _ _ _ hw (lv_sub hl [0, 1, 2, 3, 4, 5] rfl)
        · replace hz_34 := it_n hz_34 c_42
          refine lv_iload X.1 X.2.1 dL_law_1087 (lv_at hl 5 rfl) ?_
          refine lv_aload_n X.1 X.2.1 dL_law_1089 rfl (lv_at hl 1 rfl) ?_
          refine lv_iload X.1 X.2.1 dL_law_1090 (lv_at hl 6 rfl) ?_
          replace hz_34 := ob_e hz_34
          obtain ⟨⟨r_45, b_46⟩, h_44, hz_34⟩ := hz_34
          replace hz_34 := un_e hz_34
          refine kE_Vi (k := 0) (As := [.int y_19]) (n := 79) (cel' := cW g h (b_46, w_21) v_22) X hl.1 hw (c_X9_sets h_44) (by decide) (cW_0 g h _ _) (cW_0 g h _ _) (cW_2 g h _ _ _) (by decide) (he_X9 g h _ _) rfl ⟨wq_25_7, wq_25_8, wq_25_9, wq_1_2, wq_25_10⟩ yo_X9_sets rfl ⟨Nat.le_of_ble_eq_true rfl, Nat.le_of_ble_eq_true rfl⟩ (Nat.le_of_ble_eq_true rfl) hcs dL_law_1092 (fun H locs hw => ?_)
          refine lv_iadd X.1 X.2.1 dL_law_1095 ?_
          refine lv_topi (fun x_48 ex_48 => ?_)
          replace hz_34 := lt_e hz_34 ex_48
          refine lv_istore (lv' := [(32, .int x_48), (0, .ref (bb)), (1, .ref (h 0)), (2, .ref (h 79)), (3, .int y3), (31, .int j_8), (33, .int y_19)]) X.1 X.2.1 dL_law_1096 hl (by decide) rfl (fun ls hl => ?_)
          obtain ⟨x_49, ex_49⟩ : ∃ y : Int32, y = y_19 + 1 := ⟨_, rfl⟩
          replace hz_34 := lt_e hz_34 ex_49
          refine lv_iinc (v := x_49) (lv' := [(33, .int x_49), (32, .int x_48), (0, .ref (bb)), (1, .ref (h 0)), (2, .ref (h 79)), (3, .int y3), (31, .int j_8)]) X.1 X.2.1 dL_law_1098 hl (k := 6) rfl (by rw [ex_49]; rfl) (by decide) rfl (fun ls hl => ?_)
          refine lv_goto (tgt := 1077) X.1 X.2.1 dL_law_1101 (by decide) ?_
          exact hn_35 _ (Option.some.inj hz_34).symm _ _ _ hw (lv_sub hl [2, 3, 4, 5, 6, 1, 0] rfl)
      · replace hz := it_n hz c_17
        refine lv_iconst (v := 0) X.1 X.2.1 dL_law_1072 (by decide) ?_
        have hret := hx _ _ _ _ (Option.some.inj hz).symm
        exact hret _ _ _ _ hw dL_law_1073 (Or.inl rfl)
    refine vLoop_ind (B := (m_L_law_L1033)) (fun σ => ∀ (H : Heap) (locs : List Loc) (ls : Array Slot), Wd g 80 h (cW g h (σ.2.2.1, σ.2.2.2.1) σ.2.2.2.2) s H locs → lv_has ls 34 [(0, .ref (bb)), (1, .ref (h 0)), (2, .ref (h 79)), (3, .int y3), (31, .int σ.1), (32, .int (0 : Int32)), (33, .int σ.2.1)] → W p l e room_1 s m AV below meth c H locs cells slots Q (F0 m 1033 ls [])) (fun z' => z' = (j_8, b_9, w_10, v_11)) ?_ FUEL _ _ hL_57 rfl _ _ _ hw (lv_sub hl [3, 4, 5, 6, 2, 1, 0] rfl)
    intro σ z_55 hz_52 hn_53 hx_54
    obtain ⟨y_3, y_4, b_5, w_6, v_7⟩ := σ
    intro H locs ls hw hl
    replace hw : Wd g 80 h (cW g h (b_5, w_6) v_7) s H locs := hw
    replace hl : lv_has ls 34 [(0, .ref (bb)), (1, .ref (h 0)), (2, .ref (h 79)), (3, .int y3), (31, .int y_3), (32, .int (0 : Int32)), (33, .int y_4)] := hl
    unfold m_L_law_L1033 at hz_52
    replace hz_52 := un_e hz_52
    replace hz_52 := un_e hz_52
    replace hz_52 := un_e hz_52
    replace hz_52 := un_e hz_52
    refine lv_iload X.1 X.2.1 dL_law_1033 (lv_at hl 6 rfl) ?_
    refine lv_aload_n X.1 X.2.1 dL_law_1035 rfl (lv_at hl 2 rfl) ?_
    refine lv_iconst (v := 1) X.1 X.2.1 dL_law_1036 (by decide) ?_
    replace hz_52 := gd_e hz_52
    obtain ⟨g_59, hz_52⟩ := hz_52
    refine lV X hw g_59 dL_law_1037 ?_
    refine lv_icmp_gt (tgt := 1058) X.1 X.2.1 dL_law_1038 (by decide) (fun c_60 => ?_) (fun c_60 => ?_)
    · replace hz_52 := it_p hz_52 c_60
      obtain ⟨rfl, q_61⟩ := Prod.mk.inj (hx_54 _ (Option.some.inj hz_52).symm)
      obtain ⟨rfl, q_61'⟩ := Prod.mk.inj q_61
      obtain ⟨rfl, rfl⟩ := Prod.mk.inj q_61'
      exact J_56 _ _ _ hw (lv_sub hl [0, 1, 2, 3, 4, 5] rfl)
    · replace hz_52 := it_n hz_52 c_60
      refine lv_iload X.1 X.2.1 dL_law_1041 (lv_at hl 4 rfl) ?_
      refine lv_aload_n X.1 X.2.1 dL_law_1043 rfl (lv_at hl 1 rfl) ?_
      refine lv_iload X.1 X.2.1 dL_law_1044 (lv_at hl 6 rfl) ?_
      replace hz_52 := ob_e hz_52
      obtain ⟨⟨r_63, b_64⟩, h_62, hz_52⟩ := hz_52
      replace hz_52 := un_e hz_52
      refine kE_Vi (k := 0) (As := [.int y_4]) (n := 79) (cel' := cW g h (b_64, w_6) v_7) X hl.1 hw (c_X9_sets h_62) (by decide) (cW_0 g h _ _) (cW_0 g h _ _) (cW_2 g h _ _ _) (by decide) (he_X9 g h _ _) rfl ⟨wq_25_7, wq_25_8, wq_25_9, wq_1_2, wq_25_10⟩ yo_X9_sets rfl ⟨Nat.le_of_ble_eq_true rfl, Nat.le_of_ble_eq_true rfl⟩ (Nat.le_of_ble_eq_true rfl) hcs dL_law_1046 (fun H locs hw => ?_)
      refine lv_iadd X.1 X.2.1 dL_law_1049 ?_
      refine lv_topi (fun x_66 ex_66 => ?_)
      replace hz_52 := lt_e hz_52 ex_66
      refine lv_istore (lv' := [(31, .int x_66), (0, .ref (bb)), (1, .ref (h 0)), (2, .ref (h 79)), (3, .int y3), (32, .int (0 : Int32)), (33, .int y_4)]) X.1 X.2.1 dL_law_1050 hl (by decide) rfl (fun ls hl => ?_)
      obtain ⟨x_67, ex_67⟩ : ∃ y : Int32, y = y_4 + 1 := ⟨_, rfl⟩
      replace hz_52 := lt_e hz_52 ex_67
      refine lv_iinc (v := x_67) (lv' := [(33, .int x_67), (31, .int x_66), (0, .ref (bb)), (1, .ref (h 0)), (2, .ref (h 79)), (3, .int y3), (32, .int (0 : Int32))]) X.1 X.2.1 dL_law_1052 hl (k := 6) rfl (by rw [ex_67]; rfl) (by decide) rfl (fun ls hl => ?_)
      refine lv_goto (tgt := 1033) X.1 X.2.1 dL_law_1055 (by decide) ?_
      exact hn_53 _ (Option.some.inj hz_52).symm _ _ _ hw (lv_sub hl [2, 3, 4, 5, 1, 6, 0] rfl)
set_option maxHeartbeats 4000000 in
set_option maxRecDepth 100000 in
theorem w_S927 (X : Cx g p s m AV c cL_law RL 34) (hX : va_X bb L xs s s.heap) (hbl : bb < s.heap.size) (hbA : ¬ AW 80 h s.heap.size bb) (hcs : cells ≤ room_1.cells ∧ slots ≤ room_1.slots) {y3 : Int32} {y23 : Int32} {y24 : Int32} {b : ST} {w : Nat → ST} {v : Nat → Int32} {z : (ST × (Nat → ST) × (Nat → Int32)) ⊕ (Int32 × ST × (Nat → ST) × (Nat → Int32))} (hz : m_L_law_S927 y3 y23 y24 b w v = some z) (hn : ∀ (b : ST) (w : Nat → ST) (v : Nat → Int32), z = .inl (b, w, v) → ∀ (H : Heap) (locs : List Loc) (ls : Array Slot), Wd g 80 h (cW g h (b, w) v) s H locs → lv_has ls 34 [(0, .ref bb), (1, .ref (h 0)), (2, .ref (h 79)), (3, .int y3)] → W p l e room_1 s m AV below meth c H locs cells slots Q (F0 m 1125 ls [])) (hx : ∀ (r : Int32) (b : ST) (w : Nat → ST) (v : Nat → Int32), z = .inr (r, b, w, v) → ∀ (H : Heap) (locs : List Loc) (pc : Nat) (ls : Array Slot), Wd g 80 h (cW g h (b, w) v) s H locs → decode cL_law pc = .ok (.ireturn, 1) → (r = 0 ∨ r = 1) → W p l e room_1 s m AV below meth c H locs cells slots Q (F0 m pc ls [.int r])) {H : Heap} {locs : List Loc} {ls : Array Slot} (hw : Wd g 80 h (cW g h (b, w) v) s H locs) (hl : lv_has ls 34 [(0, .ref (bb)), (1, .ref (h 0)), (2, .ref (h 79)), (3, .int y3), (23, .int y23), (24, .int y24)]) : W p l e room_1 s m AV below meth c H locs cells slots Q (F0 m 927 ls []) := by
  unfold m_L_law_S927 at hz
  refine lv_aload_n X.1 X.2.1 dL_law_927 rfl (lv_at hl 1 rfl) ?_
  refine lv_iload X.1 X.2.1 dL_law_928 (lv_at hl 5 rfl) ?_
  refine lv_iload X.1 X.2.1 dL_law_930 (lv_at hl 4 rfl) ?_
  refine lv_iconst (v := 0) X.1 X.2.1 dL_law_932 (by decide) ?_
  replace hz := ob_e hz
  obtain ⟨⟨r_2, b_3⟩, h_1, hz⟩ := hz
  replace hz := un_e hz
  refine kE_Vl (k := 0) (As := [.int y24, .int y23, .int (0 : Int32)]) (n := 79) (cel' := cW g h (b_3, w) v) X hl.1 hw (c_X9_like h_1) (by decide) (cW_0 g h _ _) (cW_0 g h _ _) (cW_2 g h _ _ _) (by decide) (he_X9 g h _ _) rfl ⟨wq_26_8, wq_26_9, wq_26_10, wq_1_2, wq_26_11⟩ yo_X9_like rfl ⟨Nat.le_of_ble_eq_true rfl, Nat.le_of_ble_eq_true rfl⟩ (Nat.le_of_ble_eq_true rfl) hcs dL_law_933 (fun H locs hw => ?_)
  refine lv_lstore (lv' := [(25, .long r_2), (0, .ref (bb)), (1, .ref (h 0)), (2, .ref (h 79)), (3, .int y3), (23, .int y23), (24, .int y24)]) X.1 X.2.1 dL_law_936 hl (by decide) rfl (fun ls hl => ?_)
  refine lv_aload_n X.1 X.2.1 dL_law_938 rfl (lv_at hl 2 rfl) ?_
  refine lv_iload X.1 X.2.1 dL_law_939 (lv_at hl 6 rfl) ?_
  refine lv_iload X.1 X.2.1 dL_law_941 (lv_at hl 5 rfl) ?_
  refine lv_iconst (v := 1) X.1 X.2.1 dL_law_943 (by decide) ?_
  replace hz := ob_e hz
  obtain ⟨⟨r_6, b_7⟩, h_5, hz⟩ := hz
  replace hz := un_e hz
  refine kE_Vl (k := 0) (As := [.int y24, .int y23, .int (1 : Int32)]) (n := 79) (cel' := cW g h (b_7, w) v) X hl.1 hw (c_X9_like h_5) (by decide) (cW_0 g h _ _) (cW_0 g h _ _) (cW_2 g h _ _ _) (by decide) (he_X9 g h _ _) rfl ⟨wq_26_8, wq_26_9, wq_26_10, wq_1_2, wq_26_11⟩ yo_X9_like rfl ⟨Nat.le_of_ble_eq_true rfl, Nat.le_of_ble_eq_true rfl⟩ (Nat.le_of_ble_eq_true rfl) hcs dL_law_944 (fun H locs hw => ?_)
  refine lv_lstore (lv' := [(27, .long r_6), (25, .long r_2), (0, .ref (bb)), (1, .ref (h 0)), (2, .ref (h 79)), (3, .int y3), (23, .int y23), (24, .int y24)]) X.1 X.2.1 dL_law_947 hl (by decide) rfl (fun ls hl => ?_)
  refine lv_lload X.1 X.2.1 dL_law_949 (lv_at hl 1 rfl) ?_
  refine lv_lload X.1 X.2.1 dL_law_951 (lv_at hl 0 rfl) ?_
  replace hz := ob_e hz
  obtain ⟨r_10, h_9, hz⟩ := hz
  refine kE_Sl (As := [.long r_2, .long r_6]) (n := 80) (c0 := cW g h (b_7, w) v) (c1 := cW g h (b_7, w) v) (cel' := cW g h (b_7, w) v) X hl.1 hw (c_L_divisor h_9) (Nat.le_refl _) (fun _ _ => rfl) (fun _ _ => rfl) (fun _ _ _ => rfl) ⟨wq_14_13, wq_14_14, wq_5_5, wq_14_15⟩ yo_L_divisor rfl ⟨Nat.le_of_ble_eq_true rfl, Nat.le_of_ble_eq_true rfl⟩ (Nat.le_of_ble_eq_true rfl) hcs dL_law_953 (fun H locs hw => ?_)
  refine lv_lstore (lv' := [(29, .long r_10), (27, .long r_6), (25, .long r_2), (0, .ref (bb)), (1, .ref (h 0)), (2, .ref (h 79)), (3, .int y3), (23, .int y23), (24, .int y24)]) X.1 X.2.1 dL_law_956 hl (by decide) rfl (fun ls hl => ?_)
  refine lv_aload_n X.1 X.2.1 dL_law_958 rfl (lv_at hl 4 rfl) ?_
  refine lv_iconst (v := 0) X.1 X.2.1 dL_law_959 (by decide) ?_
  replace hz := ob_e hz
  obtain ⟨⟨r_12, b_13⟩, h_11, hz⟩ := hz
  replace hz := un_e hz
  refine kE_Vl (k := 0) (As := [.int (0 : Int32)]) (n := 79) (cel' := cW g h (b_13, w) v) X hl.1 hw (c_X9_reach h_11) (by decide) (cW_0 g h _ _) (cW_0 g h _ _) (cW_2 g h _ _ _) (by decide) (he_X9 g h _ _) rfl ⟨wq_12_5, wq_12_6, wq_12_7, wq_1_2, wq_12_8⟩ yo_X9_reach rfl ⟨Nat.le_of_ble_eq_true rfl, Nat.le_of_ble_eq_true rfl⟩ (Nat.le_of_ble_eq_true rfl) hcs dL_law_960 (fun H locs hw => ?_)
  refine lv_lload X.1 X.2.1 dL_law_963 (lv_at hl 2 rfl) ?_
  refine lv_lload X.1 X.2.1 dL_law_965 (lv_at hl 0 rfl) ?_
  replace hz := gd_e hz
  obtain ⟨g_15, hz⟩ := hz
  refine lv_ldiv X.1 X.2.1 dL_law_967 g_15 ?_
  refine W.lcmp X.1 X.2.1 dL_law_968 ?_
  refine lv_if_ne (tgt := 1014) X.1 X.2.1 dL_law_969 (by decide) (fun c_16 => ?_) (fun c_16 => ?_)
  · replace hz := it_n hz c_16
    refine lv_iconst (v := 0) X.1 X.2.1 dL_law_1014 (by decide) ?_
    have hret := hx _ _ _ _ (Option.some.inj hz).symm
    exact hret _ _ _ _ hw dL_law_1015 (Or.inl rfl)
  · replace hz := it_p hz c_16
    refine lv_aload_n X.1 X.2.1 dL_law_972 rfl (lv_at hl 4 rfl) ?_
    refine lv_iconst (v := 1) X.1 X.2.1 dL_law_973 (by decide) ?_
    replace hz := ob_e hz
    obtain ⟨⟨r_18, b_19⟩, h_17, hz⟩ := hz
    replace hz := un_e hz
    refine kE_Vl (k := 0) (As := [.int (1 : Int32)]) (n := 79) (cel' := cW g h (b_19, w) v) X hl.1 hw (c_X9_reach h_17) (by decide) (cW_0 g h _ _) (cW_0 g h _ _) (cW_2 g h _ _ _) (by decide) (he_X9 g h _ _) rfl ⟨wq_12_5, wq_12_6, wq_12_7, wq_1_2, wq_12_8⟩ yo_X9_reach rfl ⟨Nat.le_of_ble_eq_true rfl, Nat.le_of_ble_eq_true rfl⟩ (Nat.le_of_ble_eq_true rfl) hcs dL_law_974 (fun H locs hw => ?_)
    refine lv_lload X.1 X.2.1 dL_law_977 (lv_at hl 1 rfl) ?_
    refine lv_lload X.1 X.2.1 dL_law_979 (lv_at hl 0 rfl) ?_
    replace hz := gd_e hz
    obtain ⟨g_21, hz⟩ := hz
    refine lv_ldiv X.1 X.2.1 dL_law_981 g_21 ?_
    refine W.lcmp X.1 X.2.1 dL_law_982 ?_
    refine lv_if_ne (tgt := 1014) X.1 X.2.1 dL_law_983 (by decide) (fun c_22 => ?_) (fun c_22 => ?_)
    · replace hz := it_n hz c_22
      refine lv_iconst (v := 0) X.1 X.2.1 dL_law_1014 (by decide) ?_
      have hret := hx _ _ _ _ (Option.some.inj hz).symm
      exact hret _ _ _ _ hw dL_law_1015 (Or.inl rfl)
    · replace hz := it_p hz c_22
      refine lv_aload_n X.1 X.2.1 dL_law_986 rfl (lv_at hl 4 rfl) ?_
      refine lv_iconst (v := 0) X.1 X.2.1 dL_law_987 (by decide) ?_
      replace hz := ob_e hz
      obtain ⟨⟨r_24, b_25, w_26⟩, h_23, hz⟩ := hz
      replace hz := un_e hz
      replace hz := un_e hz
      refine kE_Vl (k := 0) (As := [.int (0 : Int32)]) (n := 79) (cel' := cW g h (b_25, w_26) v) X hl.1 hw (c_X9_joined h_23) (by decide) (cW_0 g h _ _) (cW_0 g h _ _) (cW_2 g h _ _ _) (by decide) (he_X9 g h _ _) rfl ⟨wq_14_16, wq_14_17, wq_14_18, wq_1_2, wq_14_19⟩ yo_X9_joined rfl ⟨Nat.le_of_ble_eq_true rfl, Nat.le_of_ble_eq_true rfl⟩ (Nat.le_of_ble_eq_true rfl) hcs dL_law_988 (fun H locs hw => ?_)
      refine lv_aload_n X.1 X.2.1 dL_law_991 rfl (lv_at hl 4 rfl) ?_
      refine lv_iconst (v := 0) X.1 X.2.1 dL_law_992 (by decide) ?_
      replace hz := ob_e hz
      obtain ⟨⟨r_29, b_30⟩, h_28, hz⟩ := hz
      replace hz := un_e hz
      refine kE_Vl (k := 0) (As := [.int (0 : Int32)]) (n := 79) (cel' := cW g h (b_30, w_26) v) X hl.1 hw (c_X9_reach h_28) (by decide) (cW_0 g h _ _) (cW_0 g h _ _) (cW_2 g h _ _ _) (by decide) (he_X9 g h _ _) rfl ⟨wq_12_5, wq_12_6, wq_12_7, wq_1_2, wq_12_8⟩ yo_X9_reach rfl ⟨Nat.le_of_ble_eq_true rfl, Nat.le_of_ble_eq_true rfl⟩ (Nat.le_of_ble_eq_true rfl) hcs dL_law_993 (fun H locs hw => ?_)
      refine W.lcmp X.1 X.2.1 dL_law_996 ?_
      refine lv_if_ne (tgt := 1014) X.1 X.2.1 dL_law_997 (by decide) (fun c_32 => ?_) (fun c_32 => ?_)
      · replace hz := it_n hz c_32
        refine lv_iconst (v := 0) X.1 X.2.1 dL_law_1014 (by decide) ?_
        have hret := hx _ _ _ _ (Option.some.inj hz).symm
        exact hret _ _ _ _ hw dL_law_1015 (Or.inl rfl)
      · replace hz := it_p hz c_32
        refine lv_aload_n X.1 X.2.1 dL_law_1000 rfl (lv_at hl 4 rfl) ?_
        refine lv_iconst (v := 1) X.1 X.2.1 dL_law_1001 (by decide) ?_
        replace hz := ob_e hz
        obtain ⟨⟨r_34, b_35, w_36⟩, h_33, hz⟩ := hz
        replace hz := un_e hz
        replace hz := un_e hz
        refine kE_Vl (k := 0) (As := [.int (1 : Int32)]) (n := 79) (cel' := cW g h (b_35, w_36) v) X hl.1 hw (c_X9_joined h_33) (by decide) (cW_0 g h _ _) (cW_0 g h _ _) (cW_2 g h _ _ _) (by decide) (he_X9 g h _ _) rfl ⟨wq_14_16, wq_14_17, wq_14_18, wq_1_2, wq_14_19⟩ yo_X9_joined rfl ⟨Nat.le_of_ble_eq_true rfl, Nat.le_of_ble_eq_true rfl⟩ (Nat.le_of_ble_eq_true rfl) hcs dL_law_1002 (fun H locs hw => ?_)
        refine lv_aload_n X.1 X.2.1 dL_law_1005 rfl (lv_at hl 4 rfl) ?_
        refine lv_iconst (v := 1) X.1 X.2.1 dL_law_1006 (by decide) ?_
        replace hz := ob_e hz
        obtain ⟨⟨r_39, b_40⟩, h_38, hz⟩ := hz
        replace hz := un_e hz
        refine kE_Vl (k := 0) (As := [.int (1 : Int32)]) (n := 79) (cel' := cW g h (b_40, w_36) v) X hl.1 hw (c_X9_reach h_38) (by decide) (cW_0 g h _ _) (cW_0 g h _ _) (cW_2 g h _ _ _) (by decide) (he_X9 g h _ _) rfl ⟨wq_12_5, wq_12_6, wq_12_7, wq_1_2, wq_12_8⟩ yo_X9_reach rfl ⟨Nat.le_of_ble_eq_true rfl, Nat.le_of_ble_eq_true rfl⟩ (Nat.le_of_ble_eq_true rfl) hcs dL_law_1007 (fun H locs hw => ?_)
        refine W.lcmp X.1 X.2.1 dL_law_1010 ?_
        refine lv_if_eq (tgt := 1016) X.1 X.2.1 dL_law_1011 (by decide) (fun c_42 => ?_) (fun c_42 => ?_)
        · replace hz := it_p hz c_42
          exact w_S1016 X hX hbl hbA hcs hz hn hx hw (lv_sub hl [3, 4, 5, 6] rfl)
        · replace hz := it_n hz c_42
          refine lv_iconst (v := 0) X.1 X.2.1 dL_law_1014 (by decide) ?_
          have hret := hx _ _ _ _ (Option.some.inj hz).symm
          exact hret _ _ _ _ hw dL_law_1015 (Or.inl rfl)
set_option maxHeartbeats 4000000 in
set_option maxRecDepth 100000 in
theorem w_S857 (X : Cx g p s m AV c cL_law RL 34) (hX : va_X bb L xs s s.heap) (hbl : bb < s.heap.size) (hbA : ¬ AW 80 h s.heap.size bb) (hcs : cells ≤ room_1.cells ∧ slots ≤ room_1.slots) {y3 : Int32} {y4 : Int32} {b : ST} {w : Nat → ST} {v : Nat → Int32} {z : (ST × (Nat → ST) × (Nat → Int32)) ⊕ (Int32 × ST × (Nat → ST) × (Nat → Int32))} (hz : m_L_law_S857 y3 y4 b w v = some z) (hn : ∀ (b : ST) (w : Nat → ST) (v : Nat → Int32), z = .inl (b, w, v) → ∀ (H : Heap) (locs : List Loc) (ls : Array Slot), Wd g 80 h (cW g h (b, w) v) s H locs → lv_has ls 34 [(0, .ref bb), (1, .ref (h 0)), (2, .ref (h 79)), (3, .int y3)] → W p l e room_1 s m AV below meth c H locs cells slots Q (F0 m 1125 ls [])) (hx : ∀ (r : Int32) (b : ST) (w : Nat → ST) (v : Nat → Int32), z = .inr (r, b, w, v) → ∀ (H : Heap) (locs : List Loc) (pc : Nat) (ls : Array Slot), Wd g 80 h (cW g h (b, w) v) s H locs → decode cL_law pc = .ok (.ireturn, 1) → (r = 0 ∨ r = 1) → W p l e room_1 s m AV below meth c H locs cells slots Q (F0 m pc ls [.int r])) {H : Heap} {locs : List Loc} {ls : Array Slot} (hw : Wd g 80 h (cW g h (b, w) v) s H locs) (hl : lv_has ls 34 [(0, .ref (bb)), (1, .ref (h 0)), (2, .ref (h 79)), (3, .int y3), (4, .int y4)]) : W p l e room_1 s m AV below meth c H locs cells slots Q (F0 m 857 ls []) := by
  unfold m_L_law_S857 at hz
  refine lv_iconst (v := 2) X.1 X.2.1 dL_law_857 (by decide) ?_
  refine lv_iload X.1 X.2.1 dL_law_858 (lv_at hl 4 rfl) ?_
  refine lv_bipush (v := 12) X.1 X.2.1 dL_law_860 (by decide) ?_
  refine lv_ishr X.1 X.2.1 dL_law_862 ?_
  refine lv_bipush (v := 8) X.1 X.2.1 dL_law_863 (by decide) ?_
  replace hz := ob_e hz
  obtain ⟨r_2, h_1, hz⟩ := hz
  refine kE_Si (As := [.int (y4 >>> ((12 : Int32) &&& 31)), .int (8 : Int32)]) (n := 80) (c0 := cW g h (b, w) v) (c1 := cW g h (b, w) v) (cel' := cW g h (b, w) v) X hl.1 hw (c_L_up h_1) (Nat.le_refl _) (fun _ _ => rfl) (fun _ _ => rfl) (fun _ _ _ => rfl) ⟨wq_5_11, wq_5_12, wq_5_5, wq_5_13⟩ yo_L_up rfl ⟨Nat.le_of_ble_eq_true rfl, Nat.le_of_ble_eq_true rfl⟩ (Nat.le_of_ble_eq_true rfl) hcs dL_law_865 (fun H locs hw => ?_)
  refine lv_iadd X.1 X.2.1 dL_law_868 ?_
  refine lv_topi (fun x_3 ex_3 => ?_)
  replace hz := lt_e hz ex_3
  refine lv_istore (lv' := [(23, .int x_3), (0, .ref (bb)), (1, .ref (h 0)), (2, .ref (h 79)), (3, .int y3), (4, .int y4)]) X.1 X.2.1 dL_law_869 hl (by decide) rfl (fun ls hl => ?_)
  refine lv_iload X.1 X.2.1 dL_law_871 (lv_at hl 5 rfl) ?_
  refine lv_bipush (v := 16) X.1 X.2.1 dL_law_873 (by decide) ?_
  refine lv_ishr X.1 X.2.1 dL_law_875 ?_
  refine lv_iload X.1 X.2.1 dL_law_876 (lv_at hl 0 rfl) ?_
  refine lv_iconst (v := 1) X.1 X.2.1 dL_law_878 (by decide) ?_
  refine lv_iadd X.1 X.2.1 dL_law_879 ?_
  replace hz := ob_e hz
  obtain ⟨r_5, h_4, hz⟩ := hz
  refine kE_Si (As := [.int (y4 >>> ((16 : Int32) &&& 31)), .int (x_3 + (1 : Int32))]) (n := 80) (c0 := cW g h (b, w) v) (c1 := cW g h (b, w) v) (cel' := cW g h (b, w) v) X hl.1 hw (c_L_up h_4) (Nat.le_refl _) (fun _ _ => rfl) (fun _ _ => rfl) (fun _ _ _ => rfl) ⟨wq_5_11, wq_5_12, wq_5_5, wq_5_13⟩ yo_L_up rfl ⟨Nat.le_of_ble_eq_true rfl, Nat.le_of_ble_eq_true rfl⟩ (Nat.le_of_ble_eq_true rfl) hcs dL_law_880 (fun H locs hw => ?_)
  refine lv_istore (lv' := [(24, .int r_5), (23, .int x_3), (0, .ref (bb)), (1, .ref (h 0)), (2, .ref (h 79)), (3, .int y3), (4, .int y4)]) X.1 X.2.1 dL_law_883 hl (by decide) rfl (fun ls hl => ?_)
  refine lv_iconst (v := 0) X.1 X.2.1 dL_law_885 (by decide) ?_
  refine lv_istore (lv' := [(25, .int (0 : Int32)), (24, .int r_5), (23, .int x_3), (0, .ref (bb)), (1, .ref (h 0)), (2, .ref (h 79)), (3, .int y3), (4, .int y4)]) X.1 X.2.1 dL_law_886 hl (by decide) rfl (fun ls hl => ?_)
  replace hz := ob_e hz
  obtain ⟨z_34, hL_18, hz⟩ := hz
  have J_17 : ∀ (b_10 : ST) (w_11 : (Nat → ST)) (v_12 : (Nat → Int32)), z_34 = .inl (b_10, w_11, v_12) → ∀ (H : Heap) (locs : List Loc) (ls : Array Slot), Wd g 80 h (cW g h (b_10, w_11) v_12) s H locs → lv_has ls 34 [(0, .ref (bb)), (1, .ref (h 0)), (2, .ref (h 79)), (3, .int y3), (23, .int x_3), (24, .int r_5)] → W p l e room_1 s m AV below meth c H locs cells slots Q (F0 m 927 ls []) := by
    intro b_10 w_11 v_12 hj
    subst hj
    replace hz := ex_l hz
    replace hz := un_e hz
    replace hz := un_e hz
    intro H locs ls hw hl
    exact w_S927 X hX hbl hbA hcs hz hn hx hw (lv_sub hl [0, 1, 2, 3, 4, 5] rfl)
  refine vLoop_ind (B := (m_L_law_L888 x_3 r_5)) (fun σ => ∀ (H : Heap) (locs : List Loc) (ls : Array Slot), Wd g 80 h (cW g h (σ.2.1, σ.2.2.1) σ.2.2.2) s H locs → lv_has ls 34 [(0, .ref (bb)), (1, .ref (h 0)), (2, .ref (h 79)), (3, .int y3), (23, .int x_3), (24, .int r_5), (25, .int σ.1)] → W p l e room_1 s m AV below meth c H locs cells slots Q (F0 m 888 ls [])) (fun z' => z' = z_34) ?_ FUEL _ _ hL_18 rfl _ _ _ hw (lv_sub hl [3, 4, 5, 6, 2, 1, 0] rfl)
  intro σ z_16 hz_13 hn_14 hx_15
  obtain ⟨y_6, b_7, w_8, v_9⟩ := σ
  intro H locs ls hw hl
  replace hw : Wd g 80 h (cW g h (b_7, w_8) v_9) s H locs := hw
  replace hl : lv_has ls 34 [(0, .ref (bb)), (1, .ref (h 0)), (2, .ref (h 79)), (3, .int y3), (23, .int x_3), (24, .int r_5), (25, .int y_6)] := hl
  unfold m_L_law_L888 at hz_13
  replace hz_13 := un_e hz_13
  replace hz_13 := un_e hz_13
  replace hz_13 := un_e hz_13
  refine lv_iload X.1 X.2.1 dL_law_888 (lv_at hl 6 rfl) ?_
  refine lv_aload_n X.1 X.2.1 dL_law_890 rfl (lv_at hl 2 rfl) ?_
  refine lv_iconst (v := 1) X.1 X.2.1 dL_law_891 (by decide) ?_
  replace hz_13 := gd_e hz_13
  obtain ⟨g_20, hz_13⟩ := hz_13
  refine lV X hw g_20 dL_law_892 ?_
  refine lv_icmp_ge (tgt := 927) X.1 X.2.1 dL_law_893 (by decide) (fun c_21 => ?_) (fun c_21 => ?_)
  · replace hz_13 := it_p hz_13 c_21
    have he_19 := hx_15 _ (Option.some.inj hz_13).symm
    exact J_17 _ _ _ he_19.symm _ _ _ hw (lv_sub hl [0, 1, 2, 3, 4, 5] rfl)
  · replace hz_13 := it_n hz_13 c_21
    refine lv_aload_n X.1 X.2.1 dL_law_896 rfl (lv_at hl 1 rfl) ?_
    refine lv_iload X.1 X.2.1 dL_law_897 (lv_at hl 6 rfl) ?_
    refine lv_iconst (v := 0) X.1 X.2.1 dL_law_899 (by decide) ?_
    replace hz_13 := ob_e hz_13
    obtain ⟨⟨r_23, b_24⟩, h_22, hz_13⟩ := hz_13
    replace hz_13 := un_e hz_13
    refine kE_Vi (k := 0) (As := [.int y_6, .int (0 : Int32)]) (n := 79) (cel' := cW g h (b_24, w_8) v_9) X hl.1 hw (c_X9_see h_22) (by decide) (cW_0 g h _ _) (cW_0 g h _ _) (cW_2 g h _ _ _) (by decide) (he_X9 g h _ _) rfl ⟨wq_8_12, wq_8_13, wq_8_14, wq_1_2, wq_8_15⟩ yo_X9_see rfl ⟨Nat.le_of_ble_eq_true rfl, Nat.le_of_ble_eq_true rfl⟩ (Nat.le_of_ble_eq_true rfl) hcs dL_law_900 (fun H locs hw => ?_)
    refine lv_if_lt (tgt := 919) X.1 X.2.1 dL_law_903 (by decide) (fun c_26 => ?_) (fun c_26 => ?_)
    · replace hz_13 := it_p hz_13 c_26
      refine lv_iconst (v := 0) X.1 X.2.1 dL_law_919 (by decide) ?_
      have he_19 := hx_15 _ (Option.some.inj hz_13).symm
      subst he_19
      replace hz := ex_r hz
      have hret := hx _ _ _ _ (Option.some.inj hz).symm
      exact hret _ _ _ _ hw dL_law_920 (Or.inl rfl)
    · replace hz_13 := it_n hz_13 c_26
      refine lv_aload_n X.1 X.2.1 dL_law_906 rfl (lv_at hl 1 rfl) ?_
      refine lv_iload X.1 X.2.1 dL_law_907 (lv_at hl 6 rfl) ?_
      refine lv_iload X.1 X.2.1 dL_law_909 (lv_at hl 5 rfl) ?_
      refine lv_iload X.1 X.2.1 dL_law_911 (lv_at hl 4 rfl) ?_
      replace hz_13 := ob_e hz_13
      obtain ⟨⟨r_28, b_29⟩, h_27, hz_13⟩ := hz_13
      replace hz_13 := un_e hz_13
      refine kE_Vi (k := 0) (As := [.int y_6, .int r_5, .int x_3]) (n := 79) (cel' := cW g h (b_29, w_8) v_9) X hl.1 hw (c_X9_chance h_27) (by decide) (cW_0 g h _ _) (cW_0 g h _ _) (cW_2 g h _ _ _) (by decide) (he_X9 g h _ _) rfl ⟨wq_26_0, wq_26_1, wq_26_2, wq_1_2, wq_26_3⟩ yo_X9_chance rfl ⟨Nat.le_of_ble_eq_true rfl, Nat.le_of_ble_eq_true rfl⟩ (Nat.le_of_ble_eq_true rfl) hcs dL_law_913 (fun H locs hw => ?_)
      refine lv_if_ge (tgt := 921) X.1 X.2.1 dL_law_916 (by decide) (fun c_31 => ?_) (fun c_31 => ?_)
      · replace hz_13 := it_p hz_13 c_31
        obtain ⟨x_32, ex_32⟩ : ∃ y : Int32, y = y_6 + 1 := ⟨_, rfl⟩
        replace hz_13 := lt_e hz_13 ex_32
        refine lv_iinc (v := x_32) (lv' := [(25, .int x_32), (0, .ref (bb)), (1, .ref (h 0)), (2, .ref (h 79)), (3, .int y3), (23, .int x_3), (24, .int r_5)]) X.1 X.2.1 dL_law_921 hl (k := 6) rfl (by rw [ex_32]; rfl) (by decide) rfl (fun ls hl => ?_)
        refine lv_goto (tgt := 888) X.1 X.2.1 dL_law_924 (by decide) ?_
        exact hn_14 _ (Option.some.inj hz_13).symm _ _ _ hw (lv_sub hl [1, 2, 3, 4, 5, 6, 0] rfl)
      · replace hz_13 := it_n hz_13 c_31
        refine lv_iconst (v := 0) X.1 X.2.1 dL_law_919 (by decide) ?_
        have he_19 := hx_15 _ (Option.some.inj hz_13).symm
        subst he_19
        replace hz := ex_r hz
        have hret := hx _ _ _ _ (Option.some.inj hz).symm
        exact hret _ _ _ _ hw dL_law_920 (Or.inl rfl)
set_option maxHeartbeats 4000000 in
set_option maxRecDepth 100000 in
theorem w_S845 (X : Cx g p s m AV c cL_law RL 34) (hX : va_X bb L xs s s.heap) (hbl : bb < s.heap.size) (hbA : ¬ AW 80 h s.heap.size bb) (hcs : cells ≤ room_1.cells ∧ slots ≤ room_1.slots) {y3 : Int32} {y4 : Int32} {y20 : Int32} {y22 : Int32} {b : ST} {w : Nat → ST} {v : Nat → Int32} {z : (ST × (Nat → ST) × (Nat → Int32)) ⊕ (Int32 × ST × (Nat → ST) × (Nat → Int32))} (hz : m_L_law_S845 y3 y4 y20 y22 b w v = some z) (hn : ∀ (b : ST) (w : Nat → ST) (v : Nat → Int32), z = .inl (b, w, v) → ∀ (H : Heap) (locs : List Loc) (ls : Array Slot), Wd g 80 h (cW g h (b, w) v) s H locs → lv_has ls 34 [(0, .ref bb), (1, .ref (h 0)), (2, .ref (h 79)), (3, .int y3)] → W p l e room_1 s m AV below meth c H locs cells slots Q (F0 m 1125 ls [])) (hx : ∀ (r : Int32) (b : ST) (w : Nat → ST) (v : Nat → Int32), z = .inr (r, b, w, v) → ∀ (H : Heap) (locs : List Loc) (pc : Nat) (ls : Array Slot), Wd g 80 h (cW g h (b, w) v) s H locs → decode cL_law pc = .ok (.ireturn, 1) → (r = 0 ∨ r = 1) → W p l e room_1 s m AV below meth c H locs cells slots Q (F0 m pc ls [.int r])) {H : Heap} {locs : List Loc} {ls : Array Slot} (hw : Wd g 80 h (cW g h (b, w) v) s H locs) (hl : lv_has ls 34 [(0, .ref (bb)), (1, .ref (h 0)), (2, .ref (h 79)), (3, .int y3), (4, .int y4), (20, .int y20), (22, .int y22)]) : W p l e room_1 s m AV below meth c H locs cells slots Q (F0 m 845 ls []) := by
  unfold m_L_law_S845 at hz
  refine lv_iload X.1 X.2.1 dL_law_845 (lv_at hl 6 rfl) ?_
  refine lv_if_ne (tgt := 857) X.1 X.2.1 dL_law_847 (by decide) (fun c_1 => ?_) (fun c_1 => ?_)
  · replace hz := it_n hz c_1
    exact w_S857 X hX hbl hbA hcs hz hn hx hw (lv_sub hl [0, 1, 2, 3, 4] rfl)
  · replace hz := it_p hz c_1
    refine lv_iload X.1 X.2.1 dL_law_850 (lv_at hl 5 rfl) ?_
    refine lv_if_eq (tgt := 857) X.1 X.2.1 dL_law_852 (by decide) (fun c_2 => ?_) (fun c_2 => ?_)
    · replace hz := it_p hz c_2
      exact w_S857 X hX hbl hbA hcs hz hn hx hw (lv_sub hl [0, 1, 2, 3, 4] rfl)
    · replace hz := it_n hz c_2
      refine lv_iconst (v := 0) X.1 X.2.1 dL_law_855 (by decide) ?_
      have hret := hx _ _ _ _ (Option.some.inj hz).symm
      exact hret _ _ _ _ hw dL_law_856 (Or.inl rfl)
set_option maxHeartbeats 4000000 in
set_option maxRecDepth 100000 in
theorem w_S822 (X : Cx g p s m AV c cL_law RL 34) (hX : va_X bb L xs s s.heap) (hbl : bb < s.heap.size) (hbA : ¬ AW 80 h s.heap.size bb) (hcs : cells ≤ room_1.cells ∧ slots ≤ room_1.slots) {y3 : Int32} {y4 : Int32} {y19 : Int32} {y20 : Int32} {y22 : Int32} {b : ST} {w : Nat → ST} {v : Nat → Int32} {z : (ST × (Nat → ST) × (Nat → Int32)) ⊕ (Int32 × ST × (Nat → ST) × (Nat → Int32))} (hz : m_L_law_S822 y3 y4 y19 y20 y22 b w v = some z) (hn : ∀ (b : ST) (w : Nat → ST) (v : Nat → Int32), z = .inl (b, w, v) → ∀ (H : Heap) (locs : List Loc) (ls : Array Slot), Wd g 80 h (cW g h (b, w) v) s H locs → lv_has ls 34 [(0, .ref bb), (1, .ref (h 0)), (2, .ref (h 79)), (3, .int y3)] → W p l e room_1 s m AV below meth c H locs cells slots Q (F0 m 1125 ls [])) (hx : ∀ (r : Int32) (b : ST) (w : Nat → ST) (v : Nat → Int32), z = .inr (r, b, w, v) → ∀ (H : Heap) (locs : List Loc) (pc : Nat) (ls : Array Slot), Wd g 80 h (cW g h (b, w) v) s H locs → decode cL_law pc = .ok (.ireturn, 1) → (r = 0 ∨ r = 1) → W p l e room_1 s m AV below meth c H locs cells slots Q (F0 m pc ls [.int r])) {H : Heap} {locs : List Loc} {ls : Array Slot} (hw : Wd g 80 h (cW g h (b, w) v) s H locs) (hl : lv_has ls 34 [(0, .ref (bb)), (1, .ref (h 0)), (2, .ref (h 79)), (3, .int y3), (4, .int y4), (19, .int y19), (20, .int y20), (22, .int y22)]) : W p l e room_1 s m AV below meth c H locs cells slots Q (F0 m 822 ls []) := by
  unfold m_L_law_S822 at hz
  refine lv_iload X.1 X.2.1 dL_law_822 (lv_at hl 5 rfl) ?_
  refine lv_if_lt (tgt := 855) X.1 X.2.1 dL_law_824 (by decide) (fun c_1 => ?_) (fun c_1 => ?_)
  · replace hz := it_p hz c_1
    refine lv_iconst (v := 0) X.1 X.2.1 dL_law_855 (by decide) ?_
    have hret := hx _ _ _ _ (Option.some.inj hz).symm
    exact hret _ _ _ _ hw dL_law_856 (Or.inl rfl)
  · replace hz := it_n hz c_1
    refine lv_aload_n X.1 X.2.1 dL_law_827 rfl (lv_at hl 2 rfl) ?_
    refine lv_iconst (v := 1) X.1 X.2.1 dL_law_828 (by decide) ?_
    replace hz := gd_e hz
    obtain ⟨g_2, hz⟩ := hz
    refine lV X hw g_2 dL_law_829 ?_
    refine lv_if_le (tgt := 845) X.1 X.2.1 dL_law_830 (by decide) (fun c_3 => ?_) (fun c_3 => ?_)
    · replace hz := it_p hz c_3
      exact w_S845 X hX hbl hbA hcs hz hn hx hw (lv_sub hl [0, 1, 2, 3, 4, 6, 7] rfl)
    · replace hz := it_n hz c_3
      refine lv_aload_n X.1 X.2.1 dL_law_833 rfl (lv_at hl 1 rfl) ?_
      refine lv_aload_n X.1 X.2.1 dL_law_834 rfl (lv_at hl 2 rfl) ?_
      refine lv_iconst (v := 1) X.1 X.2.1 dL_law_835 (by decide) ?_
      replace hz := gd_e hz
      obtain ⟨g_4, hz⟩ := hz
      refine lV X hw g_4 dL_law_836 ?_
      refine lv_iconst (v := 1) X.1 X.2.1 dL_law_837 (by decide) ?_
      refine lv_isub X.1 X.2.1 dL_law_838 ?_
      replace hz := ob_e hz
      obtain ⟨⟨r_6, b_7⟩, h_5, hz⟩ := hz
      replace hz := un_e hz
      refine kE_Vi (k := 0) (As := [.int ((v (1 : Int32).toNatClampNeg) - (1 : Int32))]) (n := 79) (cel' := cW g h (b_7, w) v) X hl.1 hw (c_X9_wide h_5) (by decide) (cW_0 g h _ _) (cW_0 g h _ _) (cW_2 g h _ _ _) (by decide) (he_X9 g h _ _) rfl ⟨wq_25_19, wq_25_20, wq_25_21, wq_1_2, wq_25_22⟩ yo_X9_wide rfl ⟨Nat.le_of_ble_eq_true rfl, Nat.le_of_ble_eq_true rfl⟩ (Nat.le_of_ble_eq_true rfl) hcs dL_law_839 (fun H locs hw => ?_)
      refine lv_if_ne (tgt := 855) X.1 X.2.1 dL_law_842 (by decide) (fun c_9 => ?_) (fun c_9 => ?_)
      · replace hz := it_n hz c_9
        refine lv_iconst (v := 0) X.1 X.2.1 dL_law_855 (by decide) ?_
        have hret := hx _ _ _ _ (Option.some.inj hz).symm
        exact hret _ _ _ _ hw dL_law_856 (Or.inl rfl)
      · replace hz := it_p hz c_9
        exact w_S845 X hX hbl hbA hcs hz hn hx hw (lv_sub hl [0, 1, 2, 3, 4, 6, 7] rfl)
set_option maxHeartbeats 4000000 in
set_option maxRecDepth 100000 in
theorem w_S807 (X : Cx g p s m AV c cL_law RL 34) (hX : va_X bb L xs s s.heap) (hbl : bb < s.heap.size) (hbA : ¬ AW 80 h s.heap.size bb) (hcs : cells ≤ room_1.cells ∧ slots ≤ room_1.slots) {y3 : Int32} {y4 : Int32} {y19 : Int32} {y20 : Int32} {y21 : Int32} {y22 : Int32} {b : ST} {w : Nat → ST} {v : Nat → Int32} {z : (ST × (Nat → ST) × (Nat → Int32)) ⊕ (Int32 × ST × (Nat → ST) × (Nat → Int32))} (hz : m_L_law_S807 y3 y4 y19 y20 y21 y22 b w v = some z) (hn : ∀ (b : ST) (w : Nat → ST) (v : Nat → Int32), z = .inl (b, w, v) → ∀ (H : Heap) (locs : List Loc) (ls : Array Slot), Wd g 80 h (cW g h (b, w) v) s H locs → lv_has ls 34 [(0, .ref bb), (1, .ref (h 0)), (2, .ref (h 79)), (3, .int y3)] → W p l e room_1 s m AV below meth c H locs cells slots Q (F0 m 1125 ls [])) (hx : ∀ (r : Int32) (b : ST) (w : Nat → ST) (v : Nat → Int32), z = .inr (r, b, w, v) → ∀ (H : Heap) (locs : List Loc) (pc : Nat) (ls : Array Slot), Wd g 80 h (cW g h (b, w) v) s H locs → decode cL_law pc = .ok (.ireturn, 1) → (r = 0 ∨ r = 1) → W p l e room_1 s m AV below meth c H locs cells slots Q (F0 m pc ls [.int r])) {H : Heap} {locs : List Loc} {ls : Array Slot} (hw : Wd g 80 h (cW g h (b, w) v) s H locs) (hl : lv_has ls 34 [(0, .ref (bb)), (1, .ref (h 0)), (2, .ref (h 79)), (3, .int y3), (4, .int y4), (19, .int y19), (20, .int y20), (21, .int y21), (22, .int y22)]) : W p l e room_1 s m AV below meth c H locs cells slots Q (F0 m 807 ls []) := by
  unfold m_L_law_S807 at hz
  refine lv_iload X.1 X.2.1 dL_law_807 (lv_at hl 7 rfl) ?_
  refine lv_if_lt (tgt := 822) X.1 X.2.1 dL_law_809 (by decide) (fun c_1 => ?_) (fun c_1 => ?_)
  · replace hz := it_p hz c_1
    exact w_S822 X hX hbl hbA hcs hz hn hx hw (lv_sub hl [0, 1, 2, 3, 4, 5, 6, 8] rfl)
  · replace hz := it_n hz c_1
    refine lv_aload_n X.1 X.2.1 dL_law_812 rfl (lv_at hl 1 rfl) ?_
    refine lv_iload X.1 X.2.1 dL_law_813 (lv_at hl 7 rfl) ?_
    replace hz := ob_e hz
    obtain ⟨⟨r_3, b_4⟩, h_2, hz⟩ := hz
    replace hz := un_e hz
    refine kE_Vi (k := 0) (As := [.int y21]) (n := 79) (cel' := cW g h (b_4, w) v) X hl.1 hw (c_X9_sets h_2) (by decide) (cW_0 g h _ _) (cW_0 g h _ _) (cW_2 g h _ _ _) (by decide) (he_X9 g h _ _) rfl ⟨wq_25_7, wq_25_8, wq_25_9, wq_1_2, wq_25_10⟩ yo_X9_sets rfl ⟨Nat.le_of_ble_eq_true rfl, Nat.le_of_ble_eq_true rfl⟩ (Nat.le_of_ble_eq_true rfl) hcs dL_law_815 (fun H locs hw => ?_)
    refine lv_iconst (v := 1) X.1 X.2.1 dL_law_818 (by decide) ?_
    refine lv_icmp_lt (tgt := 855) X.1 X.2.1 dL_law_819 (by decide) (fun c_6 => ?_) (fun c_6 => ?_)
    · replace hz := it_p hz c_6
      refine lv_iconst (v := 0) X.1 X.2.1 dL_law_855 (by decide) ?_
      have hret := hx _ _ _ _ (Option.some.inj hz).symm
      exact hret _ _ _ _ hw dL_law_856 (Or.inl rfl)
    · replace hz := it_n hz c_6
      exact w_S822 X hX hbl hbA hcs hz hn hx hw (lv_sub hl [0, 1, 2, 3, 4, 5, 6, 8] rfl)
set_option maxHeartbeats 4000000 in
set_option maxRecDepth 100000 in
theorem w_S791 (X : Cx g p s m AV c cL_law RL 34) (hX : va_X bb L xs s s.heap) (hbl : bb < s.heap.size) (hbA : ¬ AW 80 h s.heap.size bb) (hcs : cells ≤ room_1.cells ∧ slots ≤ room_1.slots) {y3 : Int32} {y4 : Int32} {y19 : Int32} {y20 : Int32} {y21 : Int32} {y22 : Int32} {b : ST} {w : Nat → ST} {v : Nat → Int32} {z : (ST × (Nat → ST) × (Nat → Int32)) ⊕ (Int32 × ST × (Nat → ST) × (Nat → Int32))} (hz : m_L_law_S791 y3 y4 y19 y20 y21 y22 b w v = some z) (hn : ∀ (b : ST) (w : Nat → ST) (v : Nat → Int32), z = .inl (b, w, v) → ∀ (H : Heap) (locs : List Loc) (ls : Array Slot), Wd g 80 h (cW g h (b, w) v) s H locs → lv_has ls 34 [(0, .ref bb), (1, .ref (h 0)), (2, .ref (h 79)), (3, .int y3)] → W p l e room_1 s m AV below meth c H locs cells slots Q (F0 m 1125 ls [])) (hx : ∀ (r : Int32) (b : ST) (w : Nat → ST) (v : Nat → Int32), z = .inr (r, b, w, v) → ∀ (H : Heap) (locs : List Loc) (pc : Nat) (ls : Array Slot), Wd g 80 h (cW g h (b, w) v) s H locs → decode cL_law pc = .ok (.ireturn, 1) → (r = 0 ∨ r = 1) → W p l e room_1 s m AV below meth c H locs cells slots Q (F0 m pc ls [.int r])) {H : Heap} {locs : List Loc} {ls : Array Slot} (hw : Wd g 80 h (cW g h (b, w) v) s H locs) (hl : lv_has ls 34 [(0, .ref (bb)), (1, .ref (h 0)), (2, .ref (h 79)), (3, .int y3), (4, .int y4), (19, .int y19), (20, .int y20), (21, .int y21), (22, .int y22)]) : W p l e room_1 s m AV below meth c H locs cells slots Q (F0 m 791 ls []) := by
  unfold m_L_law_S791 at hz
  refine lv_iload X.1 X.2.1 dL_law_791 (lv_at hl 7 rfl) ?_
  refine lv_if_le (tgt := 807) X.1 X.2.1 dL_law_793 (by decide) (fun c_1 => ?_) (fun c_1 => ?_)
  · replace hz := it_p hz c_1
    exact w_S807 X hX hbl hbA hcs hz hn hx hw (lv_sub hl [0, 1, 2, 3, 4, 5, 6, 7, 8] rfl)
  · replace hz := it_n hz c_1
    refine lv_aload_n X.1 X.2.1 dL_law_796 rfl (lv_at hl 1 rfl) ?_
    refine lv_iload X.1 X.2.1 dL_law_797 (lv_at hl 7 rfl) ?_
    refine lv_iconst (v := 1) X.1 X.2.1 dL_law_799 (by decide) ?_
    refine lv_isub X.1 X.2.1 dL_law_800 ?_
    replace hz := ob_e hz
    obtain ⟨⟨r_3, b_4⟩, h_2, hz⟩ := hz
    replace hz := un_e hz
    refine kE_Vi (k := 0) (As := [.int (y21 - (1 : Int32))]) (n := 79) (cel' := cW g h (b_4, w) v) X hl.1 hw (c_X9_sets h_2) (by decide) (cW_0 g h _ _) (cW_0 g h _ _) (cW_2 g h _ _ _) (by decide) (he_X9 g h _ _) rfl ⟨wq_25_7, wq_25_8, wq_25_9, wq_1_2, wq_25_10⟩ yo_X9_sets rfl ⟨Nat.le_of_ble_eq_true rfl, Nat.le_of_ble_eq_true rfl⟩ (Nat.le_of_ble_eq_true rfl) hcs dL_law_801 (fun H locs hw => ?_)
    refine lv_if_ne (tgt := 855) X.1 X.2.1 dL_law_804 (by decide) (fun c_6 => ?_) (fun c_6 => ?_)
    · replace hz := it_n hz c_6
      refine lv_iconst (v := 0) X.1 X.2.1 dL_law_855 (by decide) ?_
      have hret := hx _ _ _ _ (Option.some.inj hz).symm
      exact hret _ _ _ _ hw dL_law_856 (Or.inl rfl)
    · replace hz := it_p hz c_6
      exact w_S807 X hX hbl hbA hcs hz hn hx hw (lv_sub hl [0, 1, 2, 3, 4, 5, 6, 7, 8] rfl)
set_option maxHeartbeats 4000000 in
set_option maxRecDepth 100000 in
theorem w_S765 (X : Cx g p s m AV c cL_law RL 34) (hX : va_X bb L xs s s.heap) (hbl : bb < s.heap.size) (hbA : ¬ AW 80 h s.heap.size bb) (hcs : cells ≤ room_1.cells ∧ slots ≤ room_1.slots) {y3 : Int32} {y4 : Int32} {y19 : Int32} {y20 : Int32} {y21 : Int32} {y22 : Int32} {b : ST} {w : Nat → ST} {v : Nat → Int32} {z : (ST × (Nat → ST) × (Nat → Int32)) ⊕ (Int32 × ST × (Nat → ST) × (Nat → Int32))} (hz : m_L_law_S765 y3 y4 y19 y20 y21 y22 b w v = some z) (hn : ∀ (b : ST) (w : Nat → ST) (v : Nat → Int32), z = .inl (b, w, v) → ∀ (H : Heap) (locs : List Loc) (ls : Array Slot), Wd g 80 h (cW g h (b, w) v) s H locs → lv_has ls 34 [(0, .ref bb), (1, .ref (h 0)), (2, .ref (h 79)), (3, .int y3)] → W p l e room_1 s m AV below meth c H locs cells slots Q (F0 m 1125 ls [])) (hx : ∀ (r : Int32) (b : ST) (w : Nat → ST) (v : Nat → Int32), z = .inr (r, b, w, v) → ∀ (H : Heap) (locs : List Loc) (pc : Nat) (ls : Array Slot), Wd g 80 h (cW g h (b, w) v) s H locs → decode cL_law pc = .ok (.ireturn, 1) → (r = 0 ∨ r = 1) → W p l e room_1 s m AV below meth c H locs cells slots Q (F0 m pc ls [.int r])) {H : Heap} {locs : List Loc} {ls : Array Slot} (hw : Wd g 80 h (cW g h (b, w) v) s H locs) (hl : lv_has ls 34 [(0, .ref (bb)), (1, .ref (h 0)), (2, .ref (h 79)), (3, .int y3), (4, .int y4), (19, .int y19), (20, .int y20), (21, .int y21), (22, .int y22)]) : W p l e room_1 s m AV below meth c H locs cells slots Q (F0 m 765 ls []) := by
  unfold m_L_law_S765 at hz
  refine lv_aload_n X.1 X.2.1 dL_law_765 rfl (lv_at hl 1 rfl) ?_
  refine lv_aload_n X.1 X.2.1 dL_law_766 rfl (lv_at hl 2 rfl) ?_
  refine lv_iconst (v := 1) X.1 X.2.1 dL_law_767 (by decide) ?_
  replace hz := gd_e hz
  obtain ⟨g_1, hz⟩ := hz
  refine lV X hw g_1 dL_law_768 ?_
  replace hz := ob_e hz
  obtain ⟨⟨r_3, b_4⟩, h_2, hz⟩ := hz
  replace hz := un_e hz
  refine kE_Vi (k := 0) (As := [.int (v (1 : Int32).toNatClampNeg)]) (n := 79) (cel' := cW g h (b_4, w) v) X hl.1 hw (c_X9_sets h_2) (by decide) (cW_0 g h _ _) (cW_0 g h _ _) (cW_2 g h _ _ _) (by decide) (he_X9 g h _ _) rfl ⟨wq_25_7, wq_25_8, wq_25_9, wq_1_2, wq_25_10⟩ yo_X9_sets rfl ⟨Nat.le_of_ble_eq_true rfl, Nat.le_of_ble_eq_true rfl⟩ (Nat.le_of_ble_eq_true rfl) hcs dL_law_769 (fun H locs hw => ?_)
  refine lv_iconst (v := 1) X.1 X.2.1 dL_law_772 (by decide) ?_
  refine lv_icmp_gt (tgt := 855) X.1 X.2.1 dL_law_773 (by decide) (fun c_6 => ?_) (fun c_6 => ?_)
  · replace hz := it_p hz c_6
    refine lv_iconst (v := 0) X.1 X.2.1 dL_law_855 (by decide) ?_
    have hret := hx _ _ _ _ (Option.some.inj hz).symm
    exact hret _ _ _ _ hw dL_law_856 (Or.inl rfl)
  · replace hz := it_n hz c_6
    refine lv_iload X.1 X.2.1 dL_law_776 (lv_at hl 8 rfl) ?_
    refine lv_iload X.1 X.2.1 dL_law_778 (lv_at hl 7 rfl) ?_
    replace hz := ob_e hz
    obtain ⟨j_8, hg_10, hz⟩ := hz
    have J_11 : ∀ (H : Heap) (locs : List Loc) (ls : Array Slot), Wd g 80 h (cW g h (b_4, w) v) s H locs → lv_has ls 34 [(0, .ref (bb)), (1, .ref (h 0)), (2, .ref (h 79)), (3, .int y3), (4, .int y4), (19, .int y19), (20, .int y20), (21, .int y21), (22, .int y22)] → W p l e room_1 s m AV below meth c H locs cells slots Q (F0 m 788 ls [.int j_8, .int y22]) := by
      intro H locs ls hw hl
      refine lv_icmp_ne (tgt := 855) X.1 X.2.1 dL_law_788 (by decide) (fun c_9 => ?_) (fun c_9 => ?_)
      · replace hz := it_n hz c_9
        refine lv_iconst (v := 0) X.1 X.2.1 dL_law_855 (by decide) ?_
        have hret := hx _ _ _ _ (Option.some.inj hz).symm
        exact hret _ _ _ _ hw dL_law_856 (Or.inl rfl)
      · replace hz := it_p hz c_9
        exact w_S791 X hX hbl hbA hcs hz hn hx hw (lv_sub hl [0, 1, 2, 3, 4, 5, 6, 7, 8] rfl)
    refine lv_if_lt (tgt := 787) X.1 X.2.1 dL_law_780 (by decide) (fun c_7 => ?_) (fun c_7 => ?_)
    · replace hg_10 := it_p hg_10 c_7
      refine lv_iconst (v := 0) X.1 X.2.1 dL_law_787 (by decide) ?_
      obtain rfl := Option.some.inj hg_10
      exact J_11 _ _ _ hw (lv_sub hl [0, 1, 2, 3, 4, 5, 6, 7, 8] rfl)
    · replace hg_10 := it_n hg_10 c_7
      refine lv_iconst (v := 1) X.1 X.2.1 dL_law_783 (by decide) ?_
      refine lv_goto (tgt := 788) X.1 X.2.1 dL_law_784 (by decide) ?_
      obtain rfl := Option.some.inj hg_10
      exact J_11 _ _ _ hw (lv_sub hl [0, 1, 2, 3, 4, 5, 6, 7, 8] rfl)
set_option maxHeartbeats 4000000 in
set_option maxRecDepth 100000 in
theorem w_S727 (X : Cx g p s m AV c cL_law RL 34) (hX : va_X bb L xs s s.heap) (hbl : bb < s.heap.size) (hbA : ¬ AW 80 h s.heap.size bb) (hcs : cells ≤ room_1.cells ∧ slots ≤ room_1.slots) {y3 : Int32} {y4 : Int32} {b : ST} {w : Nat → ST} {v : Nat → Int32} {z : (ST × (Nat → ST) × (Nat → Int32)) ⊕ (Int32 × ST × (Nat → ST) × (Nat → Int32))} (hz : m_L_law_S727 y3 y4 b w v = some z) (hn : ∀ (b : ST) (w : Nat → ST) (v : Nat → Int32), z = .inl (b, w, v) → ∀ (H : Heap) (locs : List Loc) (ls : Array Slot), Wd g 80 h (cW g h (b, w) v) s H locs → lv_has ls 34 [(0, .ref bb), (1, .ref (h 0)), (2, .ref (h 79)), (3, .int y3)] → W p l e room_1 s m AV below meth c H locs cells slots Q (F0 m 1125 ls [])) (hx : ∀ (r : Int32) (b : ST) (w : Nat → ST) (v : Nat → Int32), z = .inr (r, b, w, v) → ∀ (H : Heap) (locs : List Loc) (pc : Nat) (ls : Array Slot), Wd g 80 h (cW g h (b, w) v) s H locs → decode cL_law pc = .ok (.ireturn, 1) → (r = 0 ∨ r = 1) → W p l e room_1 s m AV below meth c H locs cells slots Q (F0 m pc ls [.int r])) {H : Heap} {locs : List Loc} {ls : Array Slot} (hw : Wd g 80 h (cW g h (b, w) v) s H locs) (hl : lv_has ls 34 [(0, .ref (bb)), (1, .ref (h 0)), (2, .ref (h 79)), (3, .int y3), (4, .int y4)]) : W p l e room_1 s m AV below meth c H locs cells slots Q (F0 m 727 ls []) := by
  unfold m_L_law_S727 at hz
  refine lv_aload_n X.1 X.2.1 dL_law_727 rfl (lv_at hl 1 rfl) ?_
  replace hz := ob_e hz
  obtain ⟨⟨r_2, b_3⟩, h_1, hz⟩ := hz
  replace hz := un_e hz
  refine kE_Vi (k := 0) (As := []) (n := 79) (cel' := cW g h (b_3, w) v) X hl.1 hw (c_X9_widest h_1) (by decide) (cW_0 g h _ _) (cW_0 g h _ _) (cW_2 g h _ _ _) (by decide) (he_X9 g h _ _) rfl ⟨wq_22_15, wq_22_16, wq_22_17, wq_1_2, wq_22_18⟩ yo_X9_widest rfl ⟨Nat.le_of_ble_eq_true rfl, Nat.le_of_ble_eq_true rfl⟩ (Nat.le_of_ble_eq_true rfl) hcs dL_law_728 (fun H locs hw => ?_)
  refine lv_istore (lv' := [(19, .int r_2), (0, .ref (bb)), (1, .ref (h 0)), (2, .ref (h 79)), (3, .int y3), (4, .int y4)]) X.1 X.2.1 dL_law_731 hl (by decide) rfl (fun ls hl => ?_)
  refine lv_aload_n X.1 X.2.1 dL_law_733 rfl (lv_at hl 2 rfl) ?_
  refine lv_iconst (v := 0) X.1 X.2.1 dL_law_734 (by decide) ?_
  replace hz := ob_e hz
  obtain ⟨r_6, h_5, hz⟩ := hz
  refine kE_Vi (k := 0) (As := [.int (0 : Int32)]) (n := 79) (cel' := cW g h (b_3, w) v) X hl.1 hw (c_X9_least h_5) (by decide) (cW_0 g h _ _) (cW_0 g h _ _) (cW_2 g h _ _ _) (by decide) (he_X9 g h _ _) rfl ⟨wq_24_12, wq_24_13, wq_24_14, wq_1_2, wq_24_15⟩ yo_X9_least rfl ⟨Nat.le_of_ble_eq_true rfl, Nat.le_of_ble_eq_true rfl⟩ (Nat.le_of_ble_eq_true rfl) hcs dL_law_735 (fun H locs hw => ?_)
  refine lv_istore (lv' := [(20, .int r_6), (19, .int r_2), (0, .ref (bb)), (1, .ref (h 0)), (2, .ref (h 79)), (3, .int y3), (4, .int y4)]) X.1 X.2.1 dL_law_738 hl (by decide) rfl (fun ls hl => ?_)
  refine lv_aload_n X.1 X.2.1 dL_law_740 rfl (lv_at hl 3 rfl) ?_
  refine lv_iconst (v := 1) X.1 X.2.1 dL_law_741 (by decide) ?_
  replace hz := ob_e hz
  obtain ⟨r_8, h_7, hz⟩ := hz
  refine kE_Vi (k := 0) (As := [.int (1 : Int32)]) (n := 79) (cel' := cW g h (b_3, w) v) X hl.1 hw (c_X9_least h_7) (by decide) (cW_0 g h _ _) (cW_0 g h _ _) (cW_2 g h _ _ _) (by decide) (he_X9 g h _ _) rfl ⟨wq_24_12, wq_24_13, wq_24_14, wq_1_2, wq_24_15⟩ yo_X9_least rfl ⟨Nat.le_of_ble_eq_true rfl, Nat.le_of_ble_eq_true rfl⟩ (Nat.le_of_ble_eq_true rfl) hcs dL_law_742 (fun H locs hw => ?_)
  refine lv_istore (lv' := [(21, .int r_8), (20, .int r_6), (19, .int r_2), (0, .ref (bb)), (1, .ref (h 0)), (2, .ref (h 79)), (3, .int y3), (4, .int y4)]) X.1 X.2.1 dL_law_745 hl (by decide) rfl (fun ls hl => ?_)
  refine lv_aload_n X.1 X.2.1 dL_law_747 rfl (lv_at hl 4 rfl) ?_
  refine lv_aload_n X.1 X.2.1 dL_law_748 rfl (lv_at hl 5 rfl) ?_
  refine lv_iconst (v := 1) X.1 X.2.1 dL_law_749 (by decide) ?_
  replace hz := gd_e hz
  obtain ⟨g_9, hz⟩ := hz
  refine lV X hw g_9 dL_law_750 ?_
  replace hz := ob_e hz
  obtain ⟨⟨r_11, b_12⟩, h_10, hz⟩ := hz
  replace hz := un_e hz
  refine kE_Vi (k := 0) (As := [.int (v (1 : Int32).toNatClampNeg)]) (n := 79) (cel' := cW g h (b_12, w) v) X hl.1 hw (c_X9_sets h_10) (by decide) (cW_0 g h _ _) (cW_0 g h _ _) (cW_2 g h _ _ _) (by decide) (he_X9 g h _ _) rfl ⟨wq_25_7, wq_25_8, wq_25_9, wq_1_2, wq_25_10⟩ yo_X9_sets rfl ⟨Nat.le_of_ble_eq_true rfl, Nat.le_of_ble_eq_true rfl⟩ (Nat.le_of_ble_eq_true rfl) hcs dL_law_751 (fun H locs hw => ?_)
  refine lv_iconst (v := 1) X.1 X.2.1 dL_law_754 (by decide) ?_
  refine lv_icmp_ne (tgt := 762) X.1 X.2.1 dL_law_755 (by decide) (fun c_14 => ?_) (fun c_14 => ?_)
  · replace hz := it_n hz c_14
    refine lv_iconst (v := 0) X.1 X.2.1 dL_law_762 (by decide) ?_
    refine lv_istore (lv' := [(22, .int (0 : Int32)), (21, .int r_8), (20, .int r_6), (19, .int r_2), (0, .ref (bb)), (1, .ref (h 0)), (2, .ref (h 79)), (3, .int y3), (4, .int y4)]) X.1 X.2.1 dL_law_763 hl (by decide) rfl (fun ls hl => ?_)
    exact w_S765 X hX hbl hbA hcs hz hn hx hw (lv_sub hl [4, 5, 6, 7, 8, 3, 2, 1, 0] rfl)
  · replace hz := it_p hz c_14
    refine lv_iconst (v := 1) X.1 X.2.1 dL_law_758 (by decide) ?_
    refine lv_goto (tgt := 763) X.1 X.2.1 dL_law_759 (by decide) ?_
    refine lv_istore (lv' := [(22, .int (1 : Int32)), (21, .int r_8), (20, .int r_6), (19, .int r_2), (0, .ref (bb)), (1, .ref (h 0)), (2, .ref (h 79)), (3, .int y3), (4, .int y4)]) X.1 X.2.1 dL_law_763 hl (by decide) rfl (fun ls hl => ?_)
    exact w_S765 X hX hbl hbA hcs hz hn hx hw (lv_sub hl [4, 5, 6, 7, 8, 3, 2, 1, 0] rfl)
set_option maxHeartbeats 4000000 in
set_option maxRecDepth 100000 in
theorem w_S686 (X : Cx g p s m AV c cL_law RL 34) (hX : va_X bb L xs s s.heap) (hbl : bb < s.heap.size) (hbA : ¬ AW 80 h s.heap.size bb) (hcs : cells ≤ room_1.cells ∧ slots ≤ room_1.slots) {y3 : Int32} {y4 : Int32} {b : ST} {w : Nat → ST} {v : Nat → Int32} {z : (ST × (Nat → ST) × (Nat → Int32)) ⊕ (Int32 × ST × (Nat → ST) × (Nat → Int32))} (hz : m_L_law_S686 y3 y4 b w v = some z) (hn : ∀ (b : ST) (w : Nat → ST) (v : Nat → Int32), z = .inl (b, w, v) → ∀ (H : Heap) (locs : List Loc) (ls : Array Slot), Wd g 80 h (cW g h (b, w) v) s H locs → lv_has ls 34 [(0, .ref bb), (1, .ref (h 0)), (2, .ref (h 79)), (3, .int y3)] → W p l e room_1 s m AV below meth c H locs cells slots Q (F0 m 1125 ls [])) (hx : ∀ (r : Int32) (b : ST) (w : Nat → ST) (v : Nat → Int32), z = .inr (r, b, w, v) → ∀ (H : Heap) (locs : List Loc) (pc : Nat) (ls : Array Slot), Wd g 80 h (cW g h (b, w) v) s H locs → decode cL_law pc = .ok (.ireturn, 1) → (r = 0 ∨ r = 1) → W p l e room_1 s m AV below meth c H locs cells slots Q (F0 m pc ls [.int r])) {H : Heap} {locs : List Loc} {ls : Array Slot} (hw : Wd g 80 h (cW g h (b, w) v) s H locs) (hl : lv_has ls 34 [(0, .ref (bb)), (1, .ref (h 0)), (2, .ref (h 79)), (3, .int y3), (4, .int y4)]) : W p l e room_1 s m AV below meth c H locs cells slots Q (F0 m 686 ls []) := by
  unfold m_L_law_S686 at hz
  refine lv_aload_n X.1 X.2.1 dL_law_686 rfl (lv_at hl 1 rfl) ?_
  refine lv_iconst (v := 0) X.1 X.2.1 dL_law_687 (by decide) ?_
  replace hz := ob_e hz
  obtain ⟨⟨r_2, b_3⟩, h_1, hz⟩ := hz
  replace hz := un_e hz
  refine kE_Vl (k := 0) (As := [.int (0 : Int32)]) (n := 79) (cel' := cW g h (b_3, w) v) X hl.1 hw (c_X9_rule h_1) (by decide) (cW_0 g h _ _) (cW_0 g h _ _) (cW_2 g h _ _ _) (by decide) (he_X9 g h _ _) rfl ⟨wq_22_5, wq_22_6, wq_22_7, wq_1_2, wq_22_8⟩ yo_X9_rule rfl ⟨Nat.le_of_ble_eq_true rfl, Nat.le_of_ble_eq_true rfl⟩ (Nat.le_of_ble_eq_true rfl) hcs dL_law_688 (fun H locs hw => ?_)
  refine lv_aload_n X.1 X.2.1 dL_law_691 rfl (lv_at hl 1 rfl) ?_
  refine lv_iconst (v := 1) X.1 X.2.1 dL_law_692 (by decide) ?_
  replace hz := ob_e hz
  obtain ⟨⟨r_6, b_7⟩, h_5, hz⟩ := hz
  replace hz := un_e hz
  refine kE_Vl (k := 0) (As := [.int (1 : Int32)]) (n := 79) (cel' := cW g h (b_7, w) v) X hl.1 hw (c_X9_rule h_5) (by decide) (cW_0 g h _ _) (cW_0 g h _ _) (cW_2 g h _ _ _) (by decide) (he_X9 g h _ _) rfl ⟨wq_22_5, wq_22_6, wq_22_7, wq_1_2, wq_22_8⟩ yo_X9_rule rfl ⟨Nat.le_of_ble_eq_true rfl, Nat.le_of_ble_eq_true rfl⟩ (Nat.le_of_ble_eq_true rfl) hcs dL_law_693 (fun H locs hw => ?_)
  refine lv_lconst (v := 1) X.1 X.2.1 dL_law_696 (by decide) ?_
  refine lv_lconst (v := 1) X.1 X.2.1 dL_law_697 (by decide) ?_
  replace hz := ob_e hz
  obtain ⟨r_10, h_9, hz⟩ := hz
  refine kE_Si (As := [.long r_2, .long r_6, .long (1 : Int64), .long (1 : Int64)]) (n := 80) (c0 := cW g h (b_7, w) v) (c1 := cW g h (b_7, w) v) (cel' := cW g h (b_7, w) v) X hl.1 hw (c_L_less h_9) (Nat.le_refl _) (fun _ _ => rfl) (fun _ _ => rfl) (fun _ _ _ => rfl) ⟨wq_21_0, wq_21_1, wq_5_5, wq_21_2⟩ yo_L_less rfl ⟨Nat.le_of_ble_eq_true rfl, Nat.le_of_ble_eq_true rfl⟩ (Nat.le_of_ble_eq_true rfl) hcs dL_law_698 (fun H locs hw => ?_)
  refine lv_if_ne (tgt := 725) X.1 X.2.1 dL_law_701 (by decide) (fun c_11 => ?_) (fun c_11 => ?_)
  · replace hz := it_n hz c_11
    refine lv_iconst (v := 0) X.1 X.2.1 dL_law_725 (by decide) ?_
    have hret := hx _ _ _ _ (Option.some.inj hz).symm
    exact hret _ _ _ _ hw dL_law_726 (Or.inl rfl)
  · replace hz := it_p hz c_11
    refine lv_aload_n X.1 X.2.1 dL_law_704 rfl (lv_at hl 2 rfl) ?_
    refine lv_iconst (v := 0) X.1 X.2.1 dL_law_705 (by decide) ?_
    replace hz := gd_e hz
    obtain ⟨g_12, hz⟩ := hz
    refine lV X hw g_12 dL_law_706 ?_
    refine lv_i2l X.1 X.2.1 dL_law_707 rfl ?_
    refine lv_lconst (v := 1) X.1 X.2.1 dL_law_708 (by decide) ?_
    refine lv_aload_n X.1 X.2.1 dL_law_709 rfl (lv_at hl 1 rfl) ?_
    refine lv_iconst (v := 0) X.1 X.2.1 dL_law_710 (by decide) ?_
    replace hz := ob_e hz
    obtain ⟨⟨r_14, b_15⟩, h_13, hz⟩ := hz
    replace hz := un_e hz
    refine kE_Vl (k := 0) (As := [.int (0 : Int32)]) (n := 79) (cel' := cW g h (b_15, w) v) X hl.1 hw (c_X9_rule h_13) (by decide) (cW_0 g h _ _) (cW_0 g h _ _) (cW_2 g h _ _ _) (by decide) (he_X9 g h _ _) rfl ⟨wq_22_5, wq_22_6, wq_22_7, wq_1_2, wq_22_8⟩ yo_X9_rule rfl ⟨Nat.le_of_ble_eq_true rfl, Nat.le_of_ble_eq_true rfl⟩ (Nat.le_of_ble_eq_true rfl) hcs dL_law_711 (fun H locs hw => ?_)
    refine lv_aload_n X.1 X.2.1 dL_law_714 rfl (lv_at hl 1 rfl) ?_
    refine lv_iconst (v := 1) X.1 X.2.1 dL_law_715 (by decide) ?_
    replace hz := ob_e hz
    obtain ⟨⟨r_18, b_19⟩, h_17, hz⟩ := hz
    replace hz := un_e hz
    refine kE_Vl (k := 0) (As := [.int (1 : Int32)]) (n := 79) (cel' := cW g h (b_19, w) v) X hl.1 hw (c_X9_rule h_17) (by decide) (cW_0 g h _ _) (cW_0 g h _ _) (cW_2 g h _ _ _) (by decide) (he_X9 g h _ _) rfl ⟨wq_22_5, wq_22_6, wq_22_7, wq_1_2, wq_22_8⟩ yo_X9_rule rfl ⟨Nat.le_of_ble_eq_true rfl, Nat.le_of_ble_eq_true rfl⟩ (Nat.le_of_ble_eq_true rfl) hcs dL_law_716 (fun H locs hw => ?_)
    replace hz := ob_e hz
    obtain ⟨r_22, h_21, hz⟩ := hz
    refine kE_Si (As := [.long (v (0 : Int32).toNatClampNeg).toInt64, .long (1 : Int64), .long r_14, .long r_18]) (n := 80) (c0 := cW g h (b_19, w) v) (c1 := cW g h (b_19, w) v) (cel' := cW g h (b_19, w) v) X hl.1 hw (c_L_less h_21) (Nat.le_refl _) (fun _ _ => rfl) (fun _ _ => rfl) (fun _ _ _ => rfl) ⟨wq_21_0, wq_21_1, wq_5_5, wq_21_2⟩ yo_L_less rfl ⟨Nat.le_of_ble_eq_true rfl, Nat.le_of_ble_eq_true rfl⟩ (Nat.le_of_ble_eq_true rfl) hcs dL_law_719 (fun H locs hw => ?_)
    refine lv_if_eq (tgt := 727) X.1 X.2.1 dL_law_722 (by decide) (fun c_23 => ?_) (fun c_23 => ?_)
    · replace hz := it_p hz c_23
      exact w_S727 X hX hbl hbA hcs hz hn hx hw (lv_sub hl [0, 1, 2, 3, 4] rfl)
    · replace hz := it_n hz c_23
      refine lv_iconst (v := 0) X.1 X.2.1 dL_law_725 (by decide) ?_
      have hret := hx _ _ _ _ (Option.some.inj hz).symm
      exact hret _ _ _ _ hw dL_law_726 (Or.inl rfl)
set_option maxHeartbeats 4000000 in
set_option maxRecDepth 100000 in
theorem w_S671 (X : Cx g p s m AV c cL_law RL 34) (hX : va_X bb L xs s s.heap) (hbl : bb < s.heap.size) (hbA : ¬ AW 80 h s.heap.size bb) (hcs : cells ≤ room_1.cells ∧ slots ≤ room_1.slots) {y3 : Int32} {y4 : Int32} {y11 : Int32} {y13 : Int32} {y14 : Int64} {y16 : Int64} {b : ST} {w : Nat → ST} {v : Nat → Int32} {z : (ST × (Nat → ST) × (Nat → Int32)) ⊕ (Int32 × ST × (Nat → ST) × (Nat → Int32))} (hz : m_L_law_S671 y3 y4 y11 y13 y14 y16 b w v = some z) (hn : ∀ (b : ST) (w : Nat → ST) (v : Nat → Int32), z = .inl (b, w, v) → ∀ (H : Heap) (locs : List Loc) (ls : Array Slot), Wd g 80 h (cW g h (b, w) v) s H locs → lv_has ls 34 [(0, .ref bb), (1, .ref (h 0)), (2, .ref (h 79)), (3, .int y3)] → W p l e room_1 s m AV below meth c H locs cells slots Q (F0 m 1125 ls [])) (hx : ∀ (r : Int32) (b : ST) (w : Nat → ST) (v : Nat → Int32), z = .inr (r, b, w, v) → ∀ (H : Heap) (locs : List Loc) (pc : Nat) (ls : Array Slot), Wd g 80 h (cW g h (b, w) v) s H locs → decode cL_law pc = .ok (.ireturn, 1) → (r = 0 ∨ r = 1) → W p l e room_1 s m AV below meth c H locs cells slots Q (F0 m pc ls [.int r])) {H : Heap} {locs : List Loc} {ls : Array Slot} (hw : Wd g 80 h (cW g h (b, w) v) s H locs) (hl : lv_has ls 34 [(0, .ref (bb)), (1, .ref (h 0)), (2, .ref (h 79)), (3, .int y3), (4, .int y4), (11, .int y11), (13, .int y13), (14, .long y14), (16, .long y16)]) : W p l e room_1 s m AV below meth c H locs cells slots Q (F0 m 671 ls []) := by
  unfold m_L_law_S671 at hz
  refine lv_iload X.1 X.2.1 dL_law_671 (lv_at hl 5 rfl) ?_
  refine lv_iload X.1 X.2.1 dL_law_673 (lv_at hl 6 rfl) ?_
  refine lv_icmp_ne (tgt := 686) X.1 X.2.1 dL_law_675 (by decide) (fun c_1 => ?_) (fun c_1 => ?_)
  · replace hz := it_n hz c_1
    exact w_S686 X hX hbl hbA hcs hz hn hx hw (lv_sub hl [0, 1, 2, 3, 4] rfl)
  · replace hz := it_p hz c_1
    refine lv_lload X.1 X.2.1 dL_law_678 (lv_at hl 7 rfl) ?_
    refine lv_lload X.1 X.2.1 dL_law_680 (lv_at hl 8 rfl) ?_
    refine W.lcmp X.1 X.2.1 dL_law_682 ?_
    refine lv_if_ne (tgt := 725) X.1 X.2.1 dL_law_683 (by decide) (fun c_2 => ?_) (fun c_2 => ?_)
    · replace hz := it_n hz c_2
      refine lv_iconst (v := 0) X.1 X.2.1 dL_law_725 (by decide) ?_
      have hret := hx _ _ _ _ (Option.some.inj hz).symm
      exact hret _ _ _ _ hw dL_law_726 (Or.inl rfl)
    · replace hz := it_p hz c_2
      exact w_S686 X hX hbl hbA hcs hz hn hx hw (lv_sub hl [0, 1, 2, 3, 4] rfl)
set_option maxHeartbeats 4000000 in
set_option maxRecDepth 100000 in
theorem w_S622 (X : Cx g p s m AV c cL_law RL 34) (hX : va_X bb L xs s s.heap) (hbl : bb < s.heap.size) (hbA : ¬ AW 80 h s.heap.size bb) (hcs : cells ≤ room_1.cells ∧ slots ≤ room_1.slots) {y3 : Int32} {y4 : Int32} {y5 : Int64} {y7 : Int64} {y11 : Int32} {y13 : Int32} {y14 : Int64} {y16 : Int64} {y18 : Int32} {b : ST} {w : Nat → ST} {v : Nat → Int32} {z : (ST × (Nat → ST) × (Nat → Int32)) ⊕ (Int32 × ST × (Nat → ST) × (Nat → Int32))} (hz : m_L_law_S622 y3 y4 y5 y7 y11 y13 y14 y16 y18 b w v = some z) (hn : ∀ (b : ST) (w : Nat → ST) (v : Nat → Int32), z = .inl (b, w, v) → ∀ (H : Heap) (locs : List Loc) (ls : Array Slot), Wd g 80 h (cW g h (b, w) v) s H locs → lv_has ls 34 [(0, .ref bb), (1, .ref (h 0)), (2, .ref (h 79)), (3, .int y3)] → W p l e room_1 s m AV below meth c H locs cells slots Q (F0 m 1125 ls [])) (hx : ∀ (r : Int32) (b : ST) (w : Nat → ST) (v : Nat → Int32), z = .inr (r, b, w, v) → ∀ (H : Heap) (locs : List Loc) (pc : Nat) (ls : Array Slot), Wd g 80 h (cW g h (b, w) v) s H locs → decode cL_law pc = .ok (.ireturn, 1) → (r = 0 ∨ r = 1) → W p l e room_1 s m AV below meth c H locs cells slots Q (F0 m pc ls [.int r])) {H : Heap} {locs : List Loc} {ls : Array Slot} (hw : Wd g 80 h (cW g h (b, w) v) s H locs) (hl : lv_has ls 34 [(0, .ref (bb)), (1, .ref (h 0)), (2, .ref (h 79)), (3, .int y3), (4, .int y4), (5, .long y5), (7, .long y7), (11, .int y11), (13, .int y13), (14, .long y14), (16, .long y16), (18, .int y18)]) : W p l e room_1 s m AV below meth c H locs cells slots Q (F0 m 622 ls []) := by
  unfold m_L_law_S622 at hz
  refine lv_aload_n X.1 X.2.1 dL_law_622 rfl (lv_at hl 1 rfl) ?_
  refine lv_iload X.1 X.2.1 dL_law_623 (lv_at hl 8 rfl) ?_
  refine lv_iload X.1 X.2.1 dL_law_625 (lv_at hl 7 rfl) ?_
  refine lv_iconst (v := 0) X.1 X.2.1 dL_law_627 (by decide) ?_
  replace hz := ob_e hz
  obtain ⟨⟨r_2, b_3⟩, h_1, hz⟩ := hz
  replace hz := un_e hz
  refine kE_Vl (k := 0) (As := [.int y13, .int y11, .int (0 : Int32)]) (n := 79) (cel' := cW g h (b_3, w) v) X hl.1 hw (c_X9_pair h_1) (by decide) (cW_0 g h _ _) (cW_0 g h _ _) (cW_2 g h _ _ _) (by decide) (he_X9 g h _ _) rfl ⟨wq_21_20, wq_21_21, wq_21_22, wq_1_2, wq_21_23⟩ yo_X9_pair rfl ⟨Nat.le_of_ble_eq_true rfl, Nat.le_of_ble_eq_true rfl⟩ (Nat.le_of_ble_eq_true rfl) hcs dL_law_628 (fun H locs hw => ?_)
  refine lv_lload X.1 X.2.1 dL_law_631 (lv_at hl 9 rfl) ?_
  refine W.lcmp X.1 X.2.1 dL_law_633 ?_
  refine lv_if_ne (tgt := 725) X.1 X.2.1 dL_law_634 (by decide) (fun c_5 => ?_) (fun c_5 => ?_)
  · replace hz := it_n hz c_5
    refine lv_iconst (v := 0) X.1 X.2.1 dL_law_725 (by decide) ?_
    have hret := hx _ _ _ _ (Option.some.inj hz).symm
    exact hret _ _ _ _ hw dL_law_726 (Or.inl rfl)
  · replace hz := it_p hz c_5
    refine lv_aload_n X.1 X.2.1 dL_law_637 rfl (lv_at hl 1 rfl) ?_
    refine lv_iload X.1 X.2.1 dL_law_638 (lv_at hl 8 rfl) ?_
    refine lv_iload X.1 X.2.1 dL_law_640 (lv_at hl 7 rfl) ?_
    refine lv_iconst (v := 1) X.1 X.2.1 dL_law_642 (by decide) ?_
    replace hz := ob_e hz
    obtain ⟨⟨r_7, b_8⟩, h_6, hz⟩ := hz
    replace hz := un_e hz
    refine kE_Vl (k := 0) (As := [.int y13, .int y11, .int (1 : Int32)]) (n := 79) (cel' := cW g h (b_8, w) v) X hl.1 hw (c_X9_pair h_6) (by decide) (cW_0 g h _ _) (cW_0 g h _ _) (cW_2 g h _ _ _) (by decide) (he_X9 g h _ _) rfl ⟨wq_21_20, wq_21_21, wq_21_22, wq_1_2, wq_21_23⟩ yo_X9_pair rfl ⟨Nat.le_of_ble_eq_true rfl, Nat.le_of_ble_eq_true rfl⟩ (Nat.le_of_ble_eq_true rfl) hcs dL_law_643 (fun H locs hw => ?_)
    refine lv_lload X.1 X.2.1 dL_law_646 (lv_at hl 10 rfl) ?_
    refine W.lcmp X.1 X.2.1 dL_law_648 ?_
    refine lv_if_ne (tgt := 725) X.1 X.2.1 dL_law_649 (by decide) (fun c_10 => ?_) (fun c_10 => ?_)
    · replace hz := it_n hz c_10
      refine lv_iconst (v := 0) X.1 X.2.1 dL_law_725 (by decide) ?_
      have hret := hx _ _ _ _ (Option.some.inj hz).symm
      exact hret _ _ _ _ hw dL_law_726 (Or.inl rfl)
    · replace hz := it_p hz c_10
      refine lv_iload X.1 X.2.1 dL_law_652 (lv_at hl 11 rfl) ?_
      refine lv_if_eq (tgt := 671) X.1 X.2.1 dL_law_654 (by decide) (fun c_11 => ?_) (fun c_11 => ?_)
      · replace hz := it_p hz c_11
        exact w_S671 X hX hbl hbA hcs hz hn hx hw (lv_sub hl [0, 1, 2, 3, 4, 7, 8, 9, 10] rfl)
      · replace hz := it_n hz c_11
        refine lv_lload X.1 X.2.1 dL_law_657 (lv_at hl 9 rfl) ?_
        refine lv_lload X.1 X.2.1 dL_law_659 (lv_at hl 10 rfl) ?_
        refine lv_lload X.1 X.2.1 dL_law_661 (lv_at hl 5 rfl) ?_
        refine lv_lload X.1 X.2.1 dL_law_663 (lv_at hl 6 rfl) ?_
        replace hz := ob_e hz
        obtain ⟨r_13, h_12, hz⟩ := hz
        refine kE_Si (As := [.long y14, .long y16, .long y5, .long y7]) (n := 80) (c0 := cW g h (b_8, w) v) (c1 := cW g h (b_8, w) v) (cel' := cW g h (b_8, w) v) X hl.1 hw (c_L_less h_12) (Nat.le_refl _) (fun _ _ => rfl) (fun _ _ => rfl) (fun _ _ _ => rfl) ⟨wq_21_0, wq_21_1, wq_5_5, wq_21_2⟩ yo_L_less rfl ⟨Nat.le_of_ble_eq_true rfl, Nat.le_of_ble_eq_true rfl⟩ (Nat.le_of_ble_eq_true rfl) hcs dL_law_665 (fun H locs hw => ?_)
        refine lv_if_ne (tgt := 725) X.1 X.2.1 dL_law_668 (by decide) (fun c_14 => ?_) (fun c_14 => ?_)
        · replace hz := it_n hz c_14
          refine lv_iconst (v := 0) X.1 X.2.1 dL_law_725 (by decide) ?_
          have hret := hx _ _ _ _ (Option.some.inj hz).symm
          exact hret _ _ _ _ hw dL_law_726 (Or.inl rfl)
        · replace hz := it_p hz c_14
          exact w_S671 X hX hbl hbA hcs hz hn hx hw (lv_sub hl [0, 1, 2, 3, 4, 7, 8, 9, 10] rfl)
set_option maxHeartbeats 4000000 in
set_option maxRecDepth 100000 in
theorem w_S556 (X : Cx g p s m AV c cL_law RL 34) (hX : va_X bb L xs s s.heap) (hbl : bb < s.heap.size) (hbA : ¬ AW 80 h s.heap.size bb) (hcs : cells ≤ room_1.cells ∧ slots ≤ room_1.slots) {y3 : Int32} {y4 : Int32} {y5 : Int64} {y7 : Int64} {y11 : Int32} {b : ST} {w : Nat → ST} {v : Nat → Int32} {z : (ST × (Nat → ST) × (Nat → Int32)) ⊕ (Int32 × ST × (Nat → ST) × (Nat → Int32))} (hz : m_L_law_S556 y3 y4 y5 y7 y11 b w v = some z) (hn : ∀ (b : ST) (w : Nat → ST) (v : Nat → Int32), z = .inl (b, w, v) → ∀ (H : Heap) (locs : List Loc) (ls : Array Slot), Wd g 80 h (cW g h (b, w) v) s H locs → lv_has ls 34 [(0, .ref bb), (1, .ref (h 0)), (2, .ref (h 79)), (3, .int y3)] → W p l e room_1 s m AV below meth c H locs cells slots Q (F0 m 1125 ls [])) (hx : ∀ (r : Int32) (b : ST) (w : Nat → ST) (v : Nat → Int32), z = .inr (r, b, w, v) → ∀ (H : Heap) (locs : List Loc) (pc : Nat) (ls : Array Slot), Wd g 80 h (cW g h (b, w) v) s H locs → decode cL_law pc = .ok (.ireturn, 1) → (r = 0 ∨ r = 1) → W p l e room_1 s m AV below meth c H locs cells slots Q (F0 m pc ls [.int r])) {H : Heap} {locs : List Loc} {ls : Array Slot} (hw : Wd g 80 h (cW g h (b, w) v) s H locs) (hl : lv_has ls 34 [(0, .ref (bb)), (1, .ref (h 0)), (2, .ref (h 79)), (3, .int y3), (4, .int y4), (5, .long y5), (7, .long y7), (11, .int y11)]) : W p l e room_1 s m AV below meth c H locs cells slots Q (F0 m 556 ls []) := by
  unfold m_L_law_S556 at hz
  refine lv_iload X.1 X.2.1 dL_law_556 (lv_at hl 4 rfl) ?_
  refine lv_bipush (v := 8) X.1 X.2.1 dL_law_558 (by decide) ?_
  refine lv_ishr X.1 X.2.1 dL_law_560 ?_
  refine lv_aload_n X.1 X.2.1 dL_law_561 rfl (lv_at hl 2 rfl) ?_
  refine lv_iconst (v := 0) X.1 X.2.1 dL_law_562 (by decide) ?_
  replace hz := gd_e hz
  obtain ⟨g_1, hz⟩ := hz
  refine lV X hw g_1 dL_law_563 ?_
  replace hz := ob_e hz
  obtain ⟨r_3, h_2, hz⟩ := hz
  refine kE_Si (As := [.int (y4 >>> ((8 : Int32) &&& 31)), .int (v (0 : Int32).toNatClampNeg)]) (n := 80) (c0 := cW g h (b, w) v) (c1 := cW g h (b, w) v) (cel' := cW g h (b, w) v) X hl.1 hw (c_L_up h_2) (Nat.le_refl _) (fun _ _ => rfl) (fun _ _ => rfl) (fun _ _ _ => rfl) ⟨wq_5_11, wq_5_12, wq_5_5, wq_5_13⟩ yo_L_up rfl ⟨Nat.le_of_ble_eq_true rfl, Nat.le_of_ble_eq_true rfl⟩ (Nat.le_of_ble_eq_true rfl) hcs dL_law_564 (fun H locs hw => ?_)
  refine lv_istore (lv' := [(13, .int r_3), (0, .ref (bb)), (1, .ref (h 0)), (2, .ref (h 79)), (3, .int y3), (4, .int y4), (5, .long y5), (7, .long y7), (11, .int y11)]) X.1 X.2.1 dL_law_567 hl (by decide) rfl (fun ls hl => ?_)
  refine lv_aload_n X.1 X.2.1 dL_law_569 rfl (lv_at hl 2 rfl) ?_
  refine lv_iload X.1 X.2.1 dL_law_570 (lv_at hl 8 rfl) ?_
  refine lv_iload X.1 X.2.1 dL_law_572 (lv_at hl 0 rfl) ?_
  refine lv_iconst (v := 0) X.1 X.2.1 dL_law_574 (by decide) ?_
  replace hz := ob_e hz
  obtain ⟨⟨r_5, b_6⟩, h_4, hz⟩ := hz
  replace hz := un_e hz
  refine kE_Vl (k := 0) (As := [.int y11, .int r_3, .int (0 : Int32)]) (n := 79) (cel' := cW g h (b_6, w) v) X hl.1 hw (c_X9_pair h_4) (by decide) (cW_0 g h _ _) (cW_0 g h _ _) (cW_2 g h _ _ _) (by decide) (he_X9 g h _ _) rfl ⟨wq_21_20, wq_21_21, wq_21_22, wq_1_2, wq_21_23⟩ yo_X9_pair rfl ⟨Nat.le_of_ble_eq_true rfl, Nat.le_of_ble_eq_true rfl⟩ (Nat.le_of_ble_eq_true rfl) hcs dL_law_575 (fun H locs hw => ?_)
  refine lv_lstore (lv' := [(14, .long r_5), (13, .int r_3), (0, .ref (bb)), (1, .ref (h 0)), (2, .ref (h 79)), (3, .int y3), (4, .int y4), (5, .long y5), (7, .long y7), (11, .int y11)]) X.1 X.2.1 dL_law_578 hl (by decide) rfl (fun ls hl => ?_)
  refine lv_aload_n X.1 X.2.1 dL_law_580 rfl (lv_at hl 3 rfl) ?_
  refine lv_iload X.1 X.2.1 dL_law_581 (lv_at hl 9 rfl) ?_
  refine lv_iload X.1 X.2.1 dL_law_583 (lv_at hl 1 rfl) ?_
  refine lv_iconst (v := 1) X.1 X.2.1 dL_law_585 (by decide) ?_
  replace hz := ob_e hz
  obtain ⟨⟨r_9, b_10⟩, h_8, hz⟩ := hz
  replace hz := un_e hz
  refine kE_Vl (k := 0) (As := [.int y11, .int r_3, .int (1 : Int32)]) (n := 79) (cel' := cW g h (b_10, w) v) X hl.1 hw (c_X9_pair h_8) (by decide) (cW_0 g h _ _) (cW_0 g h _ _) (cW_2 g h _ _ _) (by decide) (he_X9 g h _ _) rfl ⟨wq_21_20, wq_21_21, wq_21_22, wq_1_2, wq_21_23⟩ yo_X9_pair rfl ⟨Nat.le_of_ble_eq_true rfl, Nat.le_of_ble_eq_true rfl⟩ (Nat.le_of_ble_eq_true rfl) hcs dL_law_586 (fun H locs hw => ?_)
  refine lv_lstore (lv' := [(16, .long r_9), (14, .long r_5), (13, .int r_3), (0, .ref (bb)), (1, .ref (h 0)), (2, .ref (h 79)), (3, .int y3), (4, .int y4), (5, .long y5), (7, .long y7), (11, .int y11)]) X.1 X.2.1 dL_law_589 hl (by decide) rfl (fun ls hl => ?_)
  refine lv_aload_n X.1 X.2.1 dL_law_591 rfl (lv_at hl 5 rfl) ?_
  refine lv_iconst (v := 2) X.1 X.2.1 dL_law_592 (by decide) ?_
  replace hz := gd_e hz
  obtain ⟨g_12, hz⟩ := hz
  refine lV X hw g_12 dL_law_593 ?_
  refine lv_iload X.1 X.2.1 dL_law_594 (lv_at hl 10 rfl) ?_
  refine lv_ishr X.1 X.2.1 dL_law_596 ?_
  refine lv_iconst (v := 1) X.1 X.2.1 dL_law_597 (by decide) ?_
  refine lv_iand X.1 X.2.1 dL_law_598 ?_
  refine lv_topi (fun x_13 ex_13 => ?_)
  replace hz := lt_e hz ex_13
  refine lv_iconst (v := 1) X.1 X.2.1 dL_law_599 (by decide) ?_
  refine lv_icmp_ne (tgt := 619) X.1 X.2.1 dL_law_600 (by decide) (fun c_14 => ?_) (fun c_14 => ?_)
  · replace hz := it_n hz c_14
    refine lv_iconst (v := 0) X.1 X.2.1 dL_law_619 (by decide) ?_
    refine lv_istore (lv' := [(18, .int (0 : Int32)), (16, .long r_9), (14, .long r_5), (13, .int r_3), (0, .ref (bb)), (1, .ref (h 0)), (2, .ref (h 79)), (3, .int y3), (4, .int y4), (5, .long y5), (7, .long y7), (11, .int y11)]) X.1 X.2.1 dL_law_620 hl (by decide) rfl (fun ls hl => ?_)
    exact w_S622 X hX hbl hbA hcs hz hn hx hw (lv_sub hl [4, 5, 6, 7, 8, 9, 10, 11, 3, 2, 1, 0] rfl)
  · replace hz := it_p hz c_14
    refine lv_aload_n X.1 X.2.1 dL_law_603 rfl (lv_at hl 5 rfl) ?_
    refine lv_iconst (v := 2) X.1 X.2.1 dL_law_604 (by decide) ?_
    replace hz := gd_e hz
    obtain ⟨g_15, hz⟩ := hz
    refine lV X hw g_15 dL_law_605 ?_
    refine lv_iload X.1 X.2.1 dL_law_606 (lv_at hl 2 rfl) ?_
    refine lv_ishr X.1 X.2.1 dL_law_608 ?_
    refine lv_iconst (v := 1) X.1 X.2.1 dL_law_609 (by decide) ?_
    refine lv_iand X.1 X.2.1 dL_law_610 ?_
    refine lv_topi (fun x_16 ex_16 => ?_)
    replace hz := lt_e hz ex_16
    refine lv_iconst (v := 1) X.1 X.2.1 dL_law_611 (by decide) ?_
    refine lv_icmp_ne (tgt := 619) X.1 X.2.1 dL_law_612 (by decide) (fun c_17 => ?_) (fun c_17 => ?_)
    · replace hz := it_n hz c_17
      refine lv_iconst (v := 0) X.1 X.2.1 dL_law_619 (by decide) ?_
      refine lv_istore (lv' := [(18, .int (0 : Int32)), (16, .long r_9), (14, .long r_5), (13, .int r_3), (0, .ref (bb)), (1, .ref (h 0)), (2, .ref (h 79)), (3, .int y3), (4, .int y4), (5, .long y5), (7, .long y7), (11, .int y11)]) X.1 X.2.1 dL_law_620 hl (by decide) rfl (fun ls hl => ?_)
      exact w_S622 X hX hbl hbA hcs hz hn hx hw (lv_sub hl [4, 5, 6, 7, 8, 9, 10, 11, 3, 2, 1, 0] rfl)
    · replace hz := it_p hz c_17
      refine lv_iconst (v := 1) X.1 X.2.1 dL_law_615 (by decide) ?_
      refine lv_goto (tgt := 620) X.1 X.2.1 dL_law_616 (by decide) ?_
      refine lv_istore (lv' := [(18, .int (1 : Int32)), (16, .long r_9), (14, .long r_5), (13, .int r_3), (0, .ref (bb)), (1, .ref (h 0)), (2, .ref (h 79)), (3, .int y3), (4, .int y4), (5, .long y5), (7, .long y7), (11, .int y11)]) X.1 X.2.1 dL_law_620 hl (by decide) rfl (fun ls hl => ?_)
      exact w_S622 X hX hbl hbA hcs hz hn hx hw (lv_sub hl [4, 5, 6, 7, 8, 9, 10, 11, 3, 2, 1, 0] rfl)
set_option maxHeartbeats 4000000 in
set_option maxRecDepth 100000 in
theorem w_S469 (X : Cx g p s m AV c cL_law RL 34) (hX : va_X bb L xs s s.heap) (hbl : bb < s.heap.size) (hbA : ¬ AW 80 h s.heap.size bb) (hcs : cells ≤ room_1.cells ∧ slots ≤ room_1.slots) {y3 : Int32} {y4 : Int32} {y5 : Int64} {y7 : Int64} {b : ST} {w : Nat → ST} {v : Nat → Int32} {z : (ST × (Nat → ST) × (Nat → Int32)) ⊕ (Int32 × ST × (Nat → ST) × (Nat → Int32))} (hz : m_L_law_S469 y3 y4 y5 y7 b w v = some z) (hn : ∀ (b : ST) (w : Nat → ST) (v : Nat → Int32), z = .inl (b, w, v) → ∀ (H : Heap) (locs : List Loc) (ls : Array Slot), Wd g 80 h (cW g h (b, w) v) s H locs → lv_has ls 34 [(0, .ref bb), (1, .ref (h 0)), (2, .ref (h 79)), (3, .int y3)] → W p l e room_1 s m AV below meth c H locs cells slots Q (F0 m 1125 ls [])) (hx : ∀ (r : Int32) (b : ST) (w : Nat → ST) (v : Nat → Int32), z = .inr (r, b, w, v) → ∀ (H : Heap) (locs : List Loc) (pc : Nat) (ls : Array Slot), Wd g 80 h (cW g h (b, w) v) s H locs → decode cL_law pc = .ok (.ireturn, 1) → (r = 0 ∨ r = 1) → W p l e room_1 s m AV below meth c H locs cells slots Q (F0 m pc ls [.int r])) {H : Heap} {locs : List Loc} {ls : Array Slot} (hw : Wd g 80 h (cW g h (b, w) v) s H locs) (hl : lv_has ls 34 [(0, .ref (bb)), (1, .ref (h 0)), (2, .ref (h 79)), (3, .int y3), (4, .int y4), (5, .long y5), (7, .long y7)]) : W p l e room_1 s m AV below meth c H locs cells slots Q (F0 m 469 ls []) := by
  unfold m_L_law_S469 at hz
  refine lv_iload X.1 X.2.1 dL_law_469 (lv_at hl 4 rfl) ?_
  refine lv_iconst (v := 4) X.1 X.2.1 dL_law_471 (by decide) ?_
  refine lv_ishr X.1 X.2.1 dL_law_472 ?_
  refine lv_aload_n X.1 X.2.1 dL_law_473 rfl (lv_at hl 2 rfl) ?_
  refine lv_iconst (v := 0) X.1 X.2.1 dL_law_474 (by decide) ?_
  replace hz := gd_e hz
  obtain ⟨g_1, hz⟩ := hz
  refine lV X hw g_1 dL_law_475 ?_
  replace hz := ob_e hz
  obtain ⟨r_3, h_2, hz⟩ := hz
  refine kE_Si (As := [.int (y4 >>> ((4 : Int32) &&& 31)), .int (v (0 : Int32).toNatClampNeg)]) (n := 80) (c0 := cW g h (b, w) v) (c1 := cW g h (b, w) v) (cel' := cW g h (b, w) v) X hl.1 hw (c_L_up h_2) (Nat.le_refl _) (fun _ _ => rfl) (fun _ _ => rfl) (fun _ _ _ => rfl) ⟨wq_5_11, wq_5_12, wq_5_5, wq_5_13⟩ yo_L_up rfl ⟨Nat.le_of_ble_eq_true rfl, Nat.le_of_ble_eq_true rfl⟩ (Nat.le_of_ble_eq_true rfl) hcs dL_law_476 (fun H locs hw => ?_)
  refine lv_istore (lv' := [(11, .int r_3), (0, .ref (bb)), (1, .ref (h 0)), (2, .ref (h 79)), (3, .int y3), (4, .int y4), (5, .long y5), (7, .long y7)]) X.1 X.2.1 dL_law_479 hl (by decide) rfl (fun ls hl => ?_)
  refine lv_aload_n X.1 X.2.1 dL_law_481 rfl (lv_at hl 2 rfl) ?_
  refine lv_iconst (v := 3) X.1 X.2.1 dL_law_482 (by decide) ?_
  replace hz := ob_e hz
  obtain ⟨r_5, h_4, hz⟩ := hz
  refine kE_Vi (k := 0) (As := [.int (3 : Int32)]) (n := 79) (cel' := cW g h (b, w) v) X hl.1 hw (c_X9_count h_4) (by decide) (cW_0 g h _ _) (cW_0 g h _ _) (cW_2 g h _ _ _) (by decide) (he_X9 g h _ _) rfl ⟨wq_10_6, wq_10_7, wq_10_8, wq_1_2, wq_10_9⟩ yo_X9_count rfl ⟨Nat.le_of_ble_eq_true rfl, Nat.le_of_ble_eq_true rfl⟩ (Nat.le_of_ble_eq_true rfl) hcs dL_law_483 (fun H locs hw => ?_)
  refine lv_istore (lv' := [(12, .int r_5), (11, .int r_3), (0, .ref (bb)), (1, .ref (h 0)), (2, .ref (h 79)), (3, .int y3), (4, .int y4), (5, .long y5), (7, .long y7)]) X.1 X.2.1 dL_law_486 hl (by decide) rfl (fun ls hl => ?_)
  refine lv_aload_n X.1 X.2.1 dL_law_488 rfl (lv_at hl 3 rfl) ?_
  refine lv_iload X.1 X.2.1 dL_law_489 (lv_at hl 0 rfl) ?_
  refine lv_iconst (v := 1) X.1 X.2.1 dL_law_491 (by decide) ?_
  refine lv_iload X.1 X.2.1 dL_law_492 (lv_at hl 1 rfl) ?_
  refine lv_ishl X.1 X.2.1 dL_law_494 ?_
  refine lv_ior X.1 X.2.1 dL_law_495 ?_
  replace hz := ob_e hz
  obtain ⟨⟨r_7, b_8⟩, h_6, hz⟩ := hz
  replace hz := un_e hz
  refine kE_Vi (k := 0) (As := [.int (r_5 ||| ((1 : Int32) <<< (r_3 &&& 31)))]) (n := 79) (cel' := cW g h (b_8, w) v) X hl.1 hw (c_X9_goals h_6) (by decide) (cW_0 g h _ _) (cW_0 g h _ _) (cW_2 g h _ _ _) (by decide) (he_X9 g h _ _) rfl ⟨wq_9_14, wq_9_15, wq_9_16, wq_1_2, wq_9_17⟩ yo_X9_goals rfl ⟨Nat.le_of_ble_eq_true rfl, Nat.le_of_ble_eq_true rfl⟩ (Nat.le_of_ble_eq_true rfl) hcs dL_law_496 (fun H locs hw => ?_)
  refine lv_iload X.1 X.2.1 dL_law_499 (lv_at hl 0 rfl) ?_
  refine lv_icmp_ne (tgt := 554) X.1 X.2.1 dL_law_501 (by decide) (fun c_10 => ?_) (fun c_10 => ?_)
  · replace hz := it_n hz c_10
    refine lv_iconst (v := 0) X.1 X.2.1 dL_law_554 (by decide) ?_
    have hret := hx _ _ _ _ (Option.some.inj hz).symm
    exact hret _ _ _ _ hw dL_law_555 (Or.inl rfl)
  · replace hz := it_p hz c_10
    refine lv_lload X.1 X.2.1 dL_law_504 (lv_at hl 7 rfl) ?_
    refine lv_lload X.1 X.2.1 dL_law_506 (lv_at hl 8 rfl) ?_
    refine lv_aload_n X.1 X.2.1 dL_law_508 rfl (lv_at hl 3 rfl) ?_
    refine lv_iconst (v := 0) X.1 X.2.1 dL_law_509 (by decide) ?_
    replace hz := ob_e hz
    obtain ⟨⟨r_12, b_13⟩, h_11, hz⟩ := hz
    replace hz := un_e hz
    refine kE_Vl (k := 0) (As := [.int (0 : Int32)]) (n := 79) (cel' := cW g h (b_13, w) v) X hl.1 hw (c_X9_reach h_11) (by decide) (cW_0 g h _ _) (cW_0 g h _ _) (cW_2 g h _ _ _) (by decide) (he_X9 g h _ _) rfl ⟨wq_12_5, wq_12_6, wq_12_7, wq_1_2, wq_12_8⟩ yo_X9_reach rfl ⟨Nat.le_of_ble_eq_true rfl, Nat.le_of_ble_eq_true rfl⟩ (Nat.le_of_ble_eq_true rfl) hcs dL_law_510 (fun H locs hw => ?_)
    refine lv_aload_n X.1 X.2.1 dL_law_513 rfl (lv_at hl 3 rfl) ?_
    refine lv_iconst (v := 1) X.1 X.2.1 dL_law_514 (by decide) ?_
    replace hz := ob_e hz
    obtain ⟨⟨r_16, b_17⟩, h_15, hz⟩ := hz
    replace hz := un_e hz
    refine kE_Vl (k := 0) (As := [.int (1 : Int32)]) (n := 79) (cel' := cW g h (b_17, w) v) X hl.1 hw (c_X9_reach h_15) (by decide) (cW_0 g h _ _) (cW_0 g h _ _) (cW_2 g h _ _ _) (by decide) (he_X9 g h _ _) rfl ⟨wq_12_5, wq_12_6, wq_12_7, wq_1_2, wq_12_8⟩ yo_X9_reach rfl ⟨Nat.le_of_ble_eq_true rfl, Nat.le_of_ble_eq_true rfl⟩ (Nat.le_of_ble_eq_true rfl) hcs dL_law_515 (fun H locs hw => ?_)
    replace hz := ob_e hz
    obtain ⟨r_20, h_19, hz⟩ := hz
    refine kE_Si (As := [.long y5, .long y7, .long r_12, .long r_16]) (n := 80) (c0 := cW g h (b_17, w) v) (c1 := cW g h (b_17, w) v) (cel' := cW g h (b_17, w) v) X hl.1 hw (c_L_less h_19) (Nat.le_refl _) (fun _ _ => rfl) (fun _ _ => rfl) (fun _ _ _ => rfl) ⟨wq_21_0, wq_21_1, wq_5_5, wq_21_2⟩ yo_L_less rfl ⟨Nat.le_of_ble_eq_true rfl, Nat.le_of_ble_eq_true rfl⟩ (Nat.le_of_ble_eq_true rfl) hcs dL_law_518 (fun H locs hw => ?_)
    refine lv_if_ne (tgt := 554) X.1 X.2.1 dL_law_521 (by decide) (fun c_21 => ?_) (fun c_21 => ?_)
    · replace hz := it_n hz c_21
      refine lv_iconst (v := 0) X.1 X.2.1 dL_law_554 (by decide) ?_
      have hret := hx _ _ _ _ (Option.some.inj hz).symm
      exact hret _ _ _ _ hw dL_law_555 (Or.inl rfl)
    · replace hz := it_p hz c_21
      refine lv_aload_n X.1 X.2.1 dL_law_524 rfl (lv_at hl 3 rfl) ?_
      refine lv_iconst (v := 0) X.1 X.2.1 dL_law_525 (by decide) ?_
      replace hz := ob_e hz
      obtain ⟨⟨r_23, b_24, w_25⟩, h_22, hz⟩ := hz
      replace hz := un_e hz
      replace hz := un_e hz
      refine kE_Vl (k := 0) (As := [.int (0 : Int32)]) (n := 79) (cel' := cW g h (b_24, w_25) v) X hl.1 hw (c_X9_joined h_22) (by decide) (cW_0 g h _ _) (cW_0 g h _ _) (cW_2 g h _ _ _) (by decide) (he_X9 g h _ _) rfl ⟨wq_14_16, wq_14_17, wq_14_18, wq_1_2, wq_14_19⟩ yo_X9_joined rfl ⟨Nat.le_of_ble_eq_true rfl, Nat.le_of_ble_eq_true rfl⟩ (Nat.le_of_ble_eq_true rfl) hcs dL_law_526 (fun H locs hw => ?_)
      refine lv_aload_n X.1 X.2.1 dL_law_529 rfl (lv_at hl 3 rfl) ?_
      refine lv_iconst (v := 0) X.1 X.2.1 dL_law_530 (by decide) ?_
      replace hz := ob_e hz
      obtain ⟨⟨r_28, b_29⟩, h_27, hz⟩ := hz
      replace hz := un_e hz
      refine kE_Vl (k := 0) (As := [.int (0 : Int32)]) (n := 79) (cel' := cW g h (b_29, w_25) v) X hl.1 hw (c_X9_reach h_27) (by decide) (cW_0 g h _ _) (cW_0 g h _ _) (cW_2 g h _ _ _) (by decide) (he_X9 g h _ _) rfl ⟨wq_12_5, wq_12_6, wq_12_7, wq_1_2, wq_12_8⟩ yo_X9_reach rfl ⟨Nat.le_of_ble_eq_true rfl, Nat.le_of_ble_eq_true rfl⟩ (Nat.le_of_ble_eq_true rfl) hcs dL_law_531 (fun H locs hw => ?_)
      refine W.lcmp X.1 X.2.1 dL_law_534 ?_
      refine lv_if_ne (tgt := 554) X.1 X.2.1 dL_law_535 (by decide) (fun c_31 => ?_) (fun c_31 => ?_)
      · replace hz := it_n hz c_31
        refine lv_iconst (v := 0) X.1 X.2.1 dL_law_554 (by decide) ?_
        have hret := hx _ _ _ _ (Option.some.inj hz).symm
        exact hret _ _ _ _ hw dL_law_555 (Or.inl rfl)
      · replace hz := it_p hz c_31
        refine lv_aload_n X.1 X.2.1 dL_law_538 rfl (lv_at hl 3 rfl) ?_
        refine lv_iload X.1 X.2.1 dL_law_539 (lv_at hl 0 rfl) ?_
        replace hz := ob_e hz
        obtain ⟨⟨r_33, b_34⟩, h_32, hz⟩ := hz
        replace hz := un_e hz
        refine kE_Vi (k := 0) (As := [.int r_5]) (n := 79) (cel' := cW g h (b_34, w_25) v) X hl.1 hw (c_X9_goals h_32) (by decide) (cW_0 g h _ _) (cW_0 g h _ _) (cW_2 g h _ _ _) (by decide) (he_X9 g h _ _) rfl ⟨wq_9_14, wq_9_15, wq_9_16, wq_1_2, wq_9_17⟩ yo_X9_goals rfl ⟨Nat.le_of_ble_eq_true rfl, Nat.le_of_ble_eq_true rfl⟩ (Nat.le_of_ble_eq_true rfl) hcs dL_law_541 (fun H locs hw => ?_)
        refine lv_iload X.1 X.2.1 dL_law_544 (lv_at hl 0 rfl) ?_
        refine lv_iconst (v := 1) X.1 X.2.1 dL_law_546 (by decide) ?_
        refine lv_iload X.1 X.2.1 dL_law_547 (lv_at hl 1 rfl) ?_
        refine lv_ishl X.1 X.2.1 dL_law_549 ?_
        refine lv_ior X.1 X.2.1 dL_law_550 ?_
        refine lv_icmp_eq (tgt := 556) X.1 X.2.1 dL_law_551 (by decide) (fun c_36 => ?_) (fun c_36 => ?_)
        · replace hz := it_p hz c_36
          exact w_S556 X hX hbl hbA hcs hz hn hx hw (lv_sub hl [2, 3, 4, 5, 6, 7, 8, 1] rfl)
        · replace hz := it_n hz c_36
          refine lv_iconst (v := 0) X.1 X.2.1 dL_law_554 (by decide) ?_
          have hret := hx _ _ _ _ (Option.some.inj hz).symm
          exact hret _ _ _ _ hw dL_law_555 (Or.inl rfl)
set_option maxHeartbeats 4000000 in
set_option maxRecDepth 100000 in
theorem w_S342 (X : Cx g p s m AV c cL_law RL 34) (hX : va_X bb L xs s s.heap) (hbl : bb < s.heap.size) (hbA : ¬ AW 80 h s.heap.size bb) (hcs : cells ≤ room_1.cells ∧ slots ≤ room_1.slots) {y3 : Int32} {y4 : Int32} {y5 : Int64} {y7 : Int64} {b : ST} {w : Nat → ST} {v : Nat → Int32} {z : (ST × (Nat → ST) × (Nat → Int32)) ⊕ (Int32 × ST × (Nat → ST) × (Nat → Int32))} (hz : m_L_law_S342 y3 y4 y5 y7 b w v = some z) (hn : ∀ (b : ST) (w : Nat → ST) (v : Nat → Int32), z = .inl (b, w, v) → ∀ (H : Heap) (locs : List Loc) (ls : Array Slot), Wd g 80 h (cW g h (b, w) v) s H locs → lv_has ls 34 [(0, .ref bb), (1, .ref (h 0)), (2, .ref (h 79)), (3, .int y3)] → W p l e room_1 s m AV below meth c H locs cells slots Q (F0 m 1125 ls [])) (hx : ∀ (r : Int32) (b : ST) (w : Nat → ST) (v : Nat → Int32), z = .inr (r, b, w, v) → ∀ (H : Heap) (locs : List Loc) (pc : Nat) (ls : Array Slot), Wd g 80 h (cW g h (b, w) v) s H locs → decode cL_law pc = .ok (.ireturn, 1) → (r = 0 ∨ r = 1) → W p l e room_1 s m AV below meth c H locs cells slots Q (F0 m pc ls [.int r])) {H : Heap} {locs : List Loc} {ls : Array Slot} (hw : Wd g 80 h (cW g h (b, w) v) s H locs) (hl : lv_has ls 34 [(0, .ref (bb)), (1, .ref (h 0)), (2, .ref (h 79)), (3, .int y3), (4, .int y4), (5, .long y5), (7, .long y7)]) : W p l e room_1 s m AV below meth c H locs cells slots Q (F0 m 342 ls []) := by
  unfold m_L_law_S342 at hz
  refine lv_iload X.1 X.2.1 dL_law_342 (lv_at hl 4 rfl) ?_
  refine lv_bipush (v := 10) X.1 X.2.1 dL_law_344 (by decide) ?_
  replace hz := ob_e hz
  obtain ⟨r_2, h_1, hz⟩ := hz
  refine kE_Si (As := [.int y4, .int (10 : Int32)]) (n := 80) (c0 := cW g h (b, w) v) (c1 := cW g h (b, w) v) (cel' := cW g h (b, w) v) X hl.1 hw (c_L_up h_1) (Nat.le_refl _) (fun _ _ => rfl) (fun _ _ => rfl) (fun _ _ _ => rfl) ⟨wq_5_11, wq_5_12, wq_5_5, wq_5_13⟩ yo_L_up rfl ⟨Nat.le_of_ble_eq_true rfl, Nat.le_of_ble_eq_true rfl⟩ (Nat.le_of_ble_eq_true rfl) hcs dL_law_346 (fun H locs hw => ?_)
  refine lv_istore (lv' := [(10, .int r_2), (0, .ref (bb)), (1, .ref (h 0)), (2, .ref (h 79)), (3, .int y3), (4, .int y4), (5, .long y5), (7, .long y7)]) X.1 X.2.1 dL_law_349 hl (by decide) rfl (fun ls hl => ?_)
  refine lv_iload X.1 X.2.1 dL_law_351 (lv_at hl 0 rfl) ?_
  refine lv_aload_n X.1 X.2.1 dL_law_353 rfl (lv_at hl 3 rfl) ?_
  refine lv_iconst (v := 1) X.1 X.2.1 dL_law_354 (by decide) ?_
  replace hz := gd_e hz
  obtain ⟨g_3, hz⟩ := hz
  refine lV X hw g_3 dL_law_355 ?_
  refine lv_icmp_ge (tgt := 469) X.1 X.2.1 dL_law_356 (by decide) (fun c_4 => ?_) (fun c_4 => ?_)
  · replace hz := it_p hz c_4
    exact w_S469 X hX hbl hbA hcs hz hn hx hw (lv_sub hl [1, 2, 3, 4, 5, 6, 7] rfl)
  · replace hz := it_n hz c_4
    refine lv_aload_n X.1 X.2.1 dL_law_359 rfl (lv_at hl 2 rfl) ?_
    refine lv_iload X.1 X.2.1 dL_law_360 (lv_at hl 0 rfl) ?_
    refine lv_iconst (v := 3) X.1 X.2.1 dL_law_362 (by decide) ?_
    replace hz := ob_e hz
    obtain ⟨r_6, h_5, hz⟩ := hz
    refine kE_Vi (k := 0) (As := [.int r_2, .int (3 : Int32)]) (n := 79) (cel' := cW g h (b, w) v) X hl.1 hw (c_X9_info h_5) (by decide) (cW_0 g h _ _) (cW_0 g h _ _) (cW_2 g h _ _ _) (by decide) (he_X9 g h _ _) rfl ⟨wq_20_7, wq_20_8, wq_20_9, wq_1_2, wq_20_10⟩ yo_X9_info rfl ⟨Nat.le_of_ble_eq_true rfl, Nat.le_of_ble_eq_true rfl⟩ (Nat.le_of_ble_eq_true rfl) hcs dL_law_363 (fun H locs hw => ?_)
    refine lv_istore (lv' := [(11, .int r_6), (10, .int r_2), (0, .ref (bb)), (1, .ref (h 0)), (2, .ref (h 79)), (3, .int y3), (4, .int y4), (5, .long y5), (7, .long y7)]) X.1 X.2.1 dL_law_366 hl (by decide) rfl (fun ls hl => ?_)
    refine lv_aload_n X.1 X.2.1 dL_law_368 rfl (lv_at hl 3 rfl) ?_
    refine lv_iload X.1 X.2.1 dL_law_369 (lv_at hl 1 rfl) ?_
    refine lv_iconst (v := 2) X.1 X.2.1 dL_law_371 (by decide) ?_
    replace hz := ob_e hz
    obtain ⟨r_8, h_7, hz⟩ := hz
    refine kE_Vi (k := 0) (As := [.int r_2, .int (2 : Int32)]) (n := 79) (cel' := cW g h (b, w) v) X hl.1 hw (c_X9_info h_7) (by decide) (cW_0 g h _ _) (cW_0 g h _ _) (cW_2 g h _ _ _) (by decide) (he_X9 g h _ _) rfl ⟨wq_20_7, wq_20_8, wq_20_9, wq_1_2, wq_20_10⟩ yo_X9_info rfl ⟨Nat.le_of_ble_eq_true rfl, Nat.le_of_ble_eq_true rfl⟩ (Nat.le_of_ble_eq_true rfl) hcs dL_law_372 (fun H locs hw => ?_)
    refine lv_istore (lv' := [(12, .int r_8), (11, .int r_6), (10, .int r_2), (0, .ref (bb)), (1, .ref (h 0)), (2, .ref (h 79)), (3, .int y3), (4, .int y4), (5, .long y5), (7, .long y7)]) X.1 X.2.1 dL_law_375 hl (by decide) rfl (fun ls hl => ?_)
    refine lv_aload_n X.1 X.2.1 dL_law_377 rfl (lv_at hl 4 rfl) ?_
    refine lv_iload X.1 X.2.1 dL_law_378 (lv_at hl 2 rfl) ?_
    refine lv_iload X.1 X.2.1 dL_law_380 (lv_at hl 0 rfl) ?_
    refine lv_iload X.1 X.2.1 dL_law_382 (lv_at hl 1 rfl) ?_
    refine lv_iconst (v := 0) X.1 X.2.1 dL_law_384 (by decide) ?_
    replace hz := ob_e hz
    obtain ⟨⟨r_10, b_11⟩, h_9, hz⟩ := hz
    replace hz := un_e hz
    refine kE_Vl (k := 0) (As := [.int r_2, .int r_8, .int r_6, .int (0 : Int32)]) (n := 79) (cel' := cW g h (b_11, w) v) X hl.1 hw (c_X9_better h_9) (by decide) (cW_0 g h _ _) (cW_0 g h _ _) (cW_2 g h _ _ _) (by decide) (he_X9 g h _ _) rfl ⟨wq_21_14, wq_21_15, wq_21_16, wq_1_2, wq_21_17⟩ yo_X9_better rfl ⟨Nat.le_of_ble_eq_true rfl, Nat.le_of_ble_eq_true rfl⟩ (Nat.le_of_ble_eq_true rfl) hcs dL_law_385 (fun H locs hw => ?_)
    refine lv_lstore (lv' := [(13, .long r_10), (12, .int r_8), (11, .int r_6), (10, .int r_2), (0, .ref (bb)), (1, .ref (h 0)), (2, .ref (h 79)), (3, .int y3), (4, .int y4), (5, .long y5), (7, .long y7)]) X.1 X.2.1 dL_law_388 hl (by decide) rfl (fun ls hl => ?_)
    refine lv_aload_n X.1 X.2.1 dL_law_390 rfl (lv_at hl 5 rfl) ?_
    refine lv_iload X.1 X.2.1 dL_law_391 (lv_at hl 3 rfl) ?_
    refine lv_iload X.1 X.2.1 dL_law_393 (lv_at hl 1 rfl) ?_
    refine lv_iload X.1 X.2.1 dL_law_395 (lv_at hl 2 rfl) ?_
    refine lv_iconst (v := 1) X.1 X.2.1 dL_law_397 (by decide) ?_
    replace hz := ob_e hz
    obtain ⟨⟨r_14, b_15⟩, h_13, hz⟩ := hz
    replace hz := un_e hz
    refine kE_Vl (k := 0) (As := [.int r_2, .int r_8, .int r_6, .int (1 : Int32)]) (n := 79) (cel' := cW g h (b_15, w) v) X hl.1 hw (c_X9_better h_13) (by decide) (cW_0 g h _ _) (cW_0 g h _ _) (cW_2 g h _ _ _) (by decide) (he_X9 g h _ _) rfl ⟨wq_21_14, wq_21_15, wq_21_16, wq_1_2, wq_21_17⟩ yo_X9_better rfl ⟨Nat.le_of_ble_eq_true rfl, Nat.le_of_ble_eq_true rfl⟩ (Nat.le_of_ble_eq_true rfl) hcs dL_law_398 (fun H locs hw => ?_)
    refine lv_lstore (lv' := [(15, .long r_14), (13, .long r_10), (12, .int r_8), (11, .int r_6), (10, .int r_2), (0, .ref (bb)), (1, .ref (h 0)), (2, .ref (h 79)), (3, .int y3), (4, .int y4), (5, .long y5), (7, .long y7)]) X.1 X.2.1 dL_law_401 hl (by decide) rfl (fun ls hl => ?_)
    refine lv_aload_n X.1 X.2.1 dL_law_403 rfl (lv_at hl 6 rfl) ?_
    refine lv_iload X.1 X.2.1 dL_law_404 (lv_at hl 4 rfl) ?_
    refine lv_iload X.1 X.2.1 dL_law_406 (lv_at hl 3 rfl) ?_
    refine lv_iload X.1 X.2.1 dL_law_408 (lv_at hl 3 rfl) ?_
    refine lv_iconst (v := 0) X.1 X.2.1 dL_law_410 (by decide) ?_
    replace hz := ob_e hz
    obtain ⟨⟨r_18, b_19⟩, h_17, hz⟩ := hz
    replace hz := un_e hz
    refine kE_Vl (k := 0) (As := [.int r_2, .int r_6, .int r_6, .int (0 : Int32)]) (n := 79) (cel' := cW g h (b_19, w) v) X hl.1 hw (c_X9_better h_17) (by decide) (cW_0 g h _ _) (cW_0 g h _ _) (cW_2 g h _ _ _) (by decide) (he_X9 g h _ _) rfl ⟨wq_21_14, wq_21_15, wq_21_16, wq_1_2, wq_21_17⟩ yo_X9_better rfl ⟨Nat.le_of_ble_eq_true rfl, Nat.le_of_ble_eq_true rfl⟩ (Nat.le_of_ble_eq_true rfl) hcs dL_law_411 (fun H locs hw => ?_)
    refine lv_lstore (lv' := [(17, .long r_18), (15, .long r_14), (13, .long r_10), (12, .int r_8), (11, .int r_6), (10, .int r_2), (0, .ref (bb)), (1, .ref (h 0)), (2, .ref (h 79)), (3, .int y3), (4, .int y4), (5, .long y5), (7, .long y7)]) X.1 X.2.1 dL_law_414 hl (by decide) rfl (fun ls hl => ?_)
    refine lv_aload_n X.1 X.2.1 dL_law_416 rfl (lv_at hl 7 rfl) ?_
    refine lv_iload X.1 X.2.1 dL_law_417 (lv_at hl 5 rfl) ?_
    refine lv_iload X.1 X.2.1 dL_law_419 (lv_at hl 4 rfl) ?_
    refine lv_iload X.1 X.2.1 dL_law_421 (lv_at hl 4 rfl) ?_
    refine lv_iconst (v := 1) X.1 X.2.1 dL_law_423 (by decide) ?_
    replace hz := ob_e hz
    obtain ⟨⟨r_22, b_23⟩, h_21, hz⟩ := hz
    replace hz := un_e hz
    refine kE_Vl (k := 0) (As := [.int r_2, .int r_6, .int r_6, .int (1 : Int32)]) (n := 79) (cel' := cW g h (b_23, w) v) X hl.1 hw (c_X9_better h_21) (by decide) (cW_0 g h _ _) (cW_0 g h _ _) (cW_2 g h _ _ _) (by decide) (he_X9 g h _ _) rfl ⟨wq_21_14, wq_21_15, wq_21_16, wq_1_2, wq_21_17⟩ yo_X9_better rfl ⟨Nat.le_of_ble_eq_true rfl, Nat.le_of_ble_eq_true rfl⟩ (Nat.le_of_ble_eq_true rfl) hcs dL_law_424 (fun H locs hw => ?_)
    refine lv_lstore (lv' := [(19, .long r_22), (17, .long r_18), (15, .long r_14), (13, .long r_10), (12, .int r_8), (11, .int r_6), (10, .int r_2), (0, .ref (bb)), (1, .ref (h 0)), (2, .ref (h 79)), (3, .int y3), (4, .int y4), (5, .long y5), (7, .long y7)]) X.1 X.2.1 dL_law_427 hl (by decide) rfl (fun ls hl => ?_)
    refine lv_lload X.1 X.2.1 dL_law_429 (lv_at hl 1 rfl) ?_
    refine lv_lload X.1 X.2.1 dL_law_431 (lv_at hl 0 rfl) ?_
    refine lv_lload X.1 X.2.1 dL_law_433 (lv_at hl 3 rfl) ?_
    refine lv_lload X.1 X.2.1 dL_law_435 (lv_at hl 2 rfl) ?_
    replace hz := ob_e hz
    obtain ⟨r_26, h_25, hz⟩ := hz
    refine kE_Si (As := [.long r_18, .long r_22, .long r_10, .long r_14]) (n := 80) (c0 := cW g h (b_23, w) v) (c1 := cW g h (b_23, w) v) (cel' := cW g h (b_23, w) v) X hl.1 hw (c_L_less h_25) (Nat.le_refl _) (fun _ _ => rfl) (fun _ _ => rfl) (fun _ _ _ => rfl) ⟨wq_21_0, wq_21_1, wq_5_5, wq_21_2⟩ yo_L_less rfl ⟨Nat.le_of_ble_eq_true rfl, Nat.le_of_ble_eq_true rfl⟩ (Nat.le_of_ble_eq_true rfl) hcs dL_law_437 (fun H locs hw => ?_)
    refine lv_if_ne (tgt := 467) X.1 X.2.1 dL_law_440 (by decide) (fun c_27 => ?_) (fun c_27 => ?_)
    · replace hz := it_n hz c_27
      refine lv_iconst (v := 0) X.1 X.2.1 dL_law_467 (by decide) ?_
      have hret := hx _ _ _ _ (Option.some.inj hz).symm
      exact hret _ _ _ _ hw dL_law_468 (Or.inl rfl)
    · replace hz := it_p hz c_27
      refine lv_aload_n X.1 X.2.1 dL_law_443 rfl (lv_at hl 8 rfl) ?_
      refine lv_iload X.1 X.2.1 dL_law_444 (lv_at hl 6 rfl) ?_
      refine lv_iconst (v := 2) X.1 X.2.1 dL_law_446 (by decide) ?_
      replace hz := ob_e hz
      obtain ⟨r_29, h_28, hz⟩ := hz
      refine kE_Vi (k := 0) (As := [.int r_2, .int (2 : Int32)]) (n := 79) (cel' := cW g h (b_23, w) v) X hl.1 hw (c_X9_info h_28) (by decide) (cW_0 g h _ _) (cW_0 g h _ _) (cW_2 g h _ _ _) (by decide) (he_X9 g h _ _) rfl ⟨wq_20_7, wq_20_8, wq_20_9, wq_1_2, wq_20_10⟩ yo_X9_info rfl ⟨Nat.le_of_ble_eq_true rfl, Nat.le_of_ble_eq_true rfl⟩ (Nat.le_of_ble_eq_true rfl) hcs dL_law_447 (fun H locs hw => ?_)
      refine lv_iload X.1 X.2.1 dL_law_450 (lv_at hl 4 rfl) ?_
      refine lv_icmp_ne (tgt := 467) X.1 X.2.1 dL_law_452 (by decide) (fun c_30 => ?_) (fun c_30 => ?_)
      · replace hz := it_n hz c_30
        refine lv_iconst (v := 0) X.1 X.2.1 dL_law_467 (by decide) ?_
        have hret := hx _ _ _ _ (Option.some.inj hz).symm
        exact hret _ _ _ _ hw dL_law_468 (Or.inl rfl)
      · replace hz := it_p hz c_30
        refine lv_aload_n X.1 X.2.1 dL_law_455 rfl (lv_at hl 8 rfl) ?_
        refine lv_iload X.1 X.2.1 dL_law_456 (lv_at hl 6 rfl) ?_
        refine lv_iconst (v := 3) X.1 X.2.1 dL_law_458 (by decide) ?_
        replace hz := ob_e hz
        obtain ⟨r_32, h_31, hz⟩ := hz
        refine kE_Vi (k := 0) (As := [.int r_2, .int (3 : Int32)]) (n := 79) (cel' := cW g h (b_23, w) v) X hl.1 hw (c_X9_info h_31) (by decide) (cW_0 g h _ _) (cW_0 g h _ _) (cW_2 g h _ _ _) (by decide) (he_X9 g h _ _) rfl ⟨wq_20_7, wq_20_8, wq_20_9, wq_1_2, wq_20_10⟩ yo_X9_info rfl ⟨Nat.le_of_ble_eq_true rfl, Nat.le_of_ble_eq_true rfl⟩ (Nat.le_of_ble_eq_true rfl) hcs dL_law_459 (fun H locs hw => ?_)
        refine lv_iload X.1 X.2.1 dL_law_462 (lv_at hl 5 rfl) ?_
        refine lv_icmp_eq (tgt := 469) X.1 X.2.1 dL_law_464 (by decide) (fun c_33 => ?_) (fun c_33 => ?_)
        · replace hz := it_p hz c_33
          exact w_S469 X hX hbl hbA hcs hz hn hx hw (lv_sub hl [7, 8, 9, 10, 11, 12, 13] rfl)
        · replace hz := it_n hz c_33
          refine lv_iconst (v := 0) X.1 X.2.1 dL_law_467 (by decide) ?_
          have hret := hx _ _ _ _ (Option.some.inj hz).symm
          exact hret _ _ _ _ hw dL_law_468 (Or.inl rfl)
set_option maxHeartbeats 4000000 in
set_option maxRecDepth 100000 in
theorem w_S234 (X : Cx g p s m AV c cL_law RL 34) (hX : va_X bb L xs s s.heap) (hbl : bb < s.heap.size) (hbA : ¬ AW 80 h s.heap.size bb) (hcs : cells ≤ room_1.cells ∧ slots ≤ room_1.slots) {y3 : Int32} {y4 : Int32} {y5 : Int64} {y7 : Int64} {b : ST} {w : Nat → ST} {v : Nat → Int32} {z : (ST × (Nat → ST) × (Nat → Int32)) ⊕ (Int32 × ST × (Nat → ST) × (Nat → Int32))} (hz : m_L_law_S234 y3 y4 y5 y7 b w v = some z) (hn : ∀ (b : ST) (w : Nat → ST) (v : Nat → Int32), z = .inl (b, w, v) → ∀ (H : Heap) (locs : List Loc) (ls : Array Slot), Wd g 80 h (cW g h (b, w) v) s H locs → lv_has ls 34 [(0, .ref bb), (1, .ref (h 0)), (2, .ref (h 79)), (3, .int y3)] → W p l e room_1 s m AV below meth c H locs cells slots Q (F0 m 1125 ls [])) (hx : ∀ (r : Int32) (b : ST) (w : Nat → ST) (v : Nat → Int32), z = .inr (r, b, w, v) → ∀ (H : Heap) (locs : List Loc) (pc : Nat) (ls : Array Slot), Wd g 80 h (cW g h (b, w) v) s H locs → decode cL_law pc = .ok (.ireturn, 1) → (r = 0 ∨ r = 1) → W p l e room_1 s m AV below meth c H locs cells slots Q (F0 m pc ls [.int r])) {H : Heap} {locs : List Loc} {ls : Array Slot} (hw : Wd g 80 h (cW g h (b, w) v) s H locs) (hl : lv_has ls 34 [(0, .ref (bb)), (1, .ref (h 0)), (2, .ref (h 79)), (3, .int y3), (4, .int y4), (5, .long y5), (7, .long y7)]) : W p l e room_1 s m AV below meth c H locs cells slots Q (F0 m 234 ls []) := by
  unfold m_L_law_S234 at hz
  refine lv_aload_n X.1 X.2.1 dL_law_234 rfl (lv_at hl 1 rfl) ?_
  replace hz := ob_e hz
  obtain ⟨⟨r_2, b_3⟩, h_1, hz⟩ := hz
  replace hz := un_e hz
  refine kE_Vi (k := 0) (As := []) (n := 79) (cel' := cW g h (b_3, w) v) X hl.1 hw (c_X9_worthiest h_1) (by decide) (cW_0 g h _ _) (cW_0 g h _ _) (cW_2 g h _ _ _) (by decide) (he_X9 g h _ _) rfl ⟨wq_21_3, wq_21_4, wq_21_5, wq_1_2, wq_21_6⟩ yo_X9_worthiest rfl ⟨Nat.le_of_ble_eq_true rfl, Nat.le_of_ble_eq_true rfl⟩ (Nat.le_of_ble_eq_true rfl) hcs dL_law_235 (fun H locs hw => ?_)
  refine lv_istore (lv' := [(9, .int r_2), (0, .ref (bb)), (1, .ref (h 0)), (2, .ref (h 79)), (3, .int y3), (4, .int y4), (5, .long y5), (7, .long y7)]) X.1 X.2.1 dL_law_238 hl (by decide) rfl (fun ls hl => ?_)
  refine lv_iconst (v := 0) X.1 X.2.1 dL_law_240 (by decide) ?_
  refine lv_istore (lv' := [(10, .int (0 : Int32)), (9, .int r_2), (0, .ref (bb)), (1, .ref (h 0)), (2, .ref (h 79)), (3, .int y3), (4, .int y4), (5, .long y5), (7, .long y7)]) X.1 X.2.1 dL_law_241 hl (by decide) rfl (fun ls hl => ?_)
  replace hz := ob_e hz
  obtain ⟨z_96, hL_17, hz⟩ := hz
  have J_16 : ∀ (b_9 : ST) (w_10 : (Nat → ST)) (v_11 : (Nat → Int32)), z_96 = .inl (b_9, w_10, v_11) → ∀ (H : Heap) (locs : List Loc) (ls : Array Slot), Wd g 80 h (cW g h (b_9, w_10) v_11) s H locs → lv_has ls 34 [(0, .ref (bb)), (1, .ref (h 0)), (2, .ref (h 79)), (3, .int y3), (4, .int y4), (5, .long y5), (7, .long y7)] → W p l e room_1 s m AV below meth c H locs cells slots Q (F0 m 342 ls []) := by
    intro b_9 w_10 v_11 hj
    subst hj
    replace hz := ex_l hz
    replace hz := un_e hz
    replace hz := un_e hz
    intro H locs ls hw hl
    exact w_S342 X hX hbl hbA hcs hz hn hx hw (lv_sub hl [0, 1, 2, 3, 4, 5, 6] rfl)
  refine vLoop_ind (B := (m_L_law_L243 r_2)) (fun σ => ∀ (H : Heap) (locs : List Loc) (ls : Array Slot), Wd g 80 h (cW g h (σ.2.1, σ.2.2.1) σ.2.2.2) s H locs → lv_has ls 34 [(0, .ref (bb)), (1, .ref (h 0)), (2, .ref (h 79)), (3, .int y3), (4, .int y4), (5, .long y5), (7, .long y7), (9, .int r_2), (10, .int σ.1)] → W p l e room_1 s m AV below meth c H locs cells slots Q (F0 m 243 ls [])) (fun z' => z' = z_96) ?_ FUEL _ _ hL_17 rfl _ _ _ hw (lv_sub hl [2, 3, 4, 5, 6, 7, 8, 1, 0] rfl)
  intro σ z_15 hz_12 hn_13 hx_14
  obtain ⟨y_5, b_6, w_7, v_8⟩ := σ
  intro H locs ls hw hl
  replace hw : Wd g 80 h (cW g h (b_6, w_7) v_8) s H locs := hw
  replace hl : lv_has ls 34 [(0, .ref (bb)), (1, .ref (h 0)), (2, .ref (h 79)), (3, .int y3), (4, .int y4), (5, .long y5), (7, .long y7), (9, .int r_2), (10, .int y_5)] := hl
  unfold m_L_law_L243 at hz_12
  replace hz_12 := un_e hz_12
  replace hz_12 := un_e hz_12
  replace hz_12 := un_e hz_12
  refine lv_iload X.1 X.2.1 dL_law_243 (lv_at hl 8 rfl) ?_
  refine lv_aload_n X.1 X.2.1 dL_law_245 rfl (lv_at hl 2 rfl) ?_
  refine lv_iconst (v := 1) X.1 X.2.1 dL_law_246 (by decide) ?_
  replace hz_12 := gd_e hz_12
  obtain ⟨g_19, hz_12⟩ := hz_12
  refine lV X hw g_19 dL_law_247 ?_
  refine lv_icmp_ge (tgt := 342) X.1 X.2.1 dL_law_248 (by decide) (fun c_20 => ?_) (fun c_20 => ?_)
  · replace hz_12 := it_p hz_12 c_20
    have he_18 := hx_14 _ (Option.some.inj hz_12).symm
    exact J_16 _ _ _ he_18.symm _ _ _ hw (lv_sub hl [0, 1, 2, 3, 4, 5, 6] rfl)
  · replace hz_12 := it_n hz_12 c_20
    refine lv_aload_n X.1 X.2.1 dL_law_251 rfl (lv_at hl 1 rfl) ?_
    refine lv_iload X.1 X.2.1 dL_law_252 (lv_at hl 8 rfl) ?_
    refine lv_iconst (v := 4) X.1 X.2.1 dL_law_254 (by decide) ?_
    replace hz_12 := ob_e hz_12
    obtain ⟨r_22, h_21, hz_12⟩ := hz_12
    refine kE_Vi (k := 0) (As := [.int y_5, .int (4 : Int32)]) (n := 79) (cel' := cW g h (b_6, w_7) v_8) X hl.1 hw (c_X9_info h_21) (by decide) (cW_0 g h _ _) (cW_0 g h _ _) (cW_2 g h _ _ _) (by decide) (he_X9 g h _ _) rfl ⟨wq_20_7, wq_20_8, wq_20_9, wq_1_2, wq_20_10⟩ yo_X9_info rfl ⟨Nat.le_of_ble_eq_true rfl, Nat.le_of_ble_eq_true rfl⟩ (Nat.le_of_ble_eq_true rfl) hcs dL_law_255 (fun H locs hw => ?_)
    replace hz_12 := ob_e hz_12
    obtain ⟨j_24, hg_93, hz_12⟩ := hz_12
    have J_94 : ∀ (H : Heap) (locs : List Loc) (ls : Array Slot), Wd g 80 h (cW g h (b_6, w_7) v_8) s H locs → lv_has ls 34 [(0, .ref (bb)), (1, .ref (h 0)), (2, .ref (h 79)), (3, .int y3), (4, .int y4), (5, .long y5), (7, .long y7), (9, .int r_2), (10, .int y_5)] → W p l e room_1 s m AV below meth c H locs cells slots Q (F0 m 266 ls [.int j_24]) := by
      intro H locs ls hw hl
      refine lv_istore (lv' := [(11, .int j_24), (0, .ref (bb)), (1, .ref (h 0)), (2, .ref (h 79)), (3, .int y3), (4, .int y4), (5, .long y5), (7, .long y7), (9, .int r_2), (10, .int y_5)]) X.1 X.2.1 dL_law_266 hl (by decide) rfl (fun ls hl => ?_)
      refine lv_iload X.1 X.2.1 dL_law_268 (lv_at hl 8 rfl) ?_
      refine lv_if_ge (tgt := 278) X.1 X.2.1 dL_law_270 (by decide) (fun c_25 => ?_) (fun c_25 => ?_)
      · replace hz_12 := it_p hz_12 c_25
        refine lv_iload X.1 X.2.1 dL_law_278 (lv_at hl 8 rfl) ?_
        refine lv_if_lt (tgt := 322) X.1 X.2.1 dL_law_280 (by decide) (fun c_26 => ?_) (fun c_26 => ?_)
        · replace hz_12 := it_p hz_12 c_26
          refine lv_iload X.1 X.2.1 dL_law_322 (lv_at hl 8 rfl) ?_
          refine lv_iload X.1 X.2.1 dL_law_324 (lv_at hl 9 rfl) ?_
          refine lv_icmp_ne (tgt := 336) X.1 X.2.1 dL_law_326 (by decide) (fun c_27 => ?_) (fun c_27 => ?_)
          · replace hz_12 := it_n hz_12 c_27
            obtain ⟨x_28, ex_28⟩ : ∃ y : Int32, y = y_5 + 1 := ⟨_, rfl⟩
            replace hz_12 := lt_e hz_12 ex_28
            refine lv_iinc (v := x_28) (lv' := [(10, .int x_28), (11, .int j_24), (0, .ref (bb)), (1, .ref (h 0)), (2, .ref (h 79)), (3, .int y3), (4, .int y4), (5, .long y5), (7, .long y7), (9, .int r_2)]) X.1 X.2.1 dL_law_336 hl (k := 9) rfl (by rw [ex_28]; rfl) (by decide) rfl (fun ls hl => ?_)
            refine lv_goto (tgt := 243) X.1 X.2.1 dL_law_339 (by decide) ?_
            exact hn_13 _ (Option.some.inj hz_12).symm _ _ _ hw (lv_sub hl [2, 3, 4, 5, 6, 7, 8, 9, 0] rfl)
          · replace hz_12 := it_p hz_12 c_27
            refine lv_iload X.1 X.2.1 dL_law_329 (lv_at hl 0 rfl) ?_
            refine lv_if_ne (tgt := 336) X.1 X.2.1 dL_law_331 (by decide) (fun c_29 => ?_) (fun c_29 => ?_)
            · replace hz_12 := it_n hz_12 c_29
              obtain ⟨x_30, ex_30⟩ : ∃ y : Int32, y = y_5 + 1 := ⟨_, rfl⟩
              replace hz_12 := lt_e hz_12 ex_30
              refine lv_iinc (v := x_30) (lv' := [(10, .int x_30), (11, .int j_24), (0, .ref (bb)), (1, .ref (h 0)), (2, .ref (h 79)), (3, .int y3), (4, .int y4), (5, .long y5), (7, .long y7), (9, .int r_2)]) X.1 X.2.1 dL_law_336 hl (k := 9) rfl (by rw [ex_30]; rfl) (by decide) rfl (fun ls hl => ?_)
              refine lv_goto (tgt := 243) X.1 X.2.1 dL_law_339 (by decide) ?_
              exact hn_13 _ (Option.some.inj hz_12).symm _ _ _ hw (lv_sub hl [2, 3, 4, 5, 6, 7, 8, 9, 0] rfl)
            · replace hz_12 := it_p hz_12 c_29
              refine lv_iconst (v := 0) X.1 X.2.1 dL_law_334 (by decide) ?_
              have he_18 := hx_14 _ (Option.some.inj hz_12).symm
              subst he_18
              replace hz := ex_r hz
              have hret := hx _ _ _ _ (Option.some.inj hz).symm
              exact hret _ _ _ _ hw dL_law_335 (Or.inl rfl)
        · replace hz_12 := it_n hz_12 c_26
          refine lv_iload X.1 X.2.1 dL_law_283 (lv_at hl 0 rfl) ?_
          refine lv_if_eq (tgt := 322) X.1 X.2.1 dL_law_285 (by decide) (fun c_31 => ?_) (fun c_31 => ?_)
          · replace hz_12 := it_p hz_12 c_31
            refine lv_iload X.1 X.2.1 dL_law_322 (lv_at hl 8 rfl) ?_
            refine lv_iload X.1 X.2.1 dL_law_324 (lv_at hl 9 rfl) ?_
            refine lv_icmp_ne (tgt := 336) X.1 X.2.1 dL_law_326 (by decide) (fun c_32 => ?_) (fun c_32 => ?_)
            · replace hz_12 := it_n hz_12 c_32
              obtain ⟨x_33, ex_33⟩ : ∃ y : Int32, y = y_5 + 1 := ⟨_, rfl⟩
              replace hz_12 := lt_e hz_12 ex_33
              refine lv_iinc (v := x_33) (lv' := [(10, .int x_33), (11, .int j_24), (0, .ref (bb)), (1, .ref (h 0)), (2, .ref (h 79)), (3, .int y3), (4, .int y4), (5, .long y5), (7, .long y7), (9, .int r_2)]) X.1 X.2.1 dL_law_336 hl (k := 9) rfl (by rw [ex_33]; rfl) (by decide) rfl (fun ls hl => ?_)
              refine lv_goto (tgt := 243) X.1 X.2.1 dL_law_339 (by decide) ?_
              exact hn_13 _ (Option.some.inj hz_12).symm _ _ _ hw (lv_sub hl [2, 3, 4, 5, 6, 7, 8, 9, 0] rfl)
            · replace hz_12 := it_p hz_12 c_32
              refine lv_iload X.1 X.2.1 dL_law_329 (lv_at hl 0 rfl) ?_
              refine lv_if_ne (tgt := 336) X.1 X.2.1 dL_law_331 (by decide) (fun c_34 => ?_) (fun c_34 => ?_)
              · replace hz_12 := it_n hz_12 c_34
                obtain ⟨x_35, ex_35⟩ : ∃ y : Int32, y = y_5 + 1 := ⟨_, rfl⟩
                replace hz_12 := lt_e hz_12 ex_35
                refine lv_iinc (v := x_35) (lv' := [(10, .int x_35), (11, .int j_24), (0, .ref (bb)), (1, .ref (h 0)), (2, .ref (h 79)), (3, .int y3), (4, .int y4), (5, .long y5), (7, .long y7), (9, .int r_2)]) X.1 X.2.1 dL_law_336 hl (k := 9) rfl (by rw [ex_35]; rfl) (by decide) rfl (fun ls hl => ?_)
                refine lv_goto (tgt := 243) X.1 X.2.1 dL_law_339 (by decide) ?_
                exact hn_13 _ (Option.some.inj hz_12).symm _ _ _ hw (lv_sub hl [2, 3, 4, 5, 6, 7, 8, 9, 0] rfl)
              · replace hz_12 := it_p hz_12 c_34
                refine lv_iconst (v := 0) X.1 X.2.1 dL_law_334 (by decide) ?_
                have he_18 := hx_14 _ (Option.some.inj hz_12).symm
                subst he_18
                replace hz := ex_r hz
                have hret := hx _ _ _ _ (Option.some.inj hz).symm
                exact hret _ _ _ _ hw dL_law_335 (Or.inl rfl)
          · replace hz_12 := it_n hz_12 c_31
            refine lv_aload_n X.1 X.2.1 dL_law_288 rfl (lv_at hl 2 rfl) ?_
            refine lv_iload X.1 X.2.1 dL_law_289 (lv_at hl 8 rfl) ?_
            refine lv_iconst (v := 0) X.1 X.2.1 dL_law_291 (by decide) ?_
            replace hz_12 := ob_e hz_12
            obtain ⟨⟨r_37, b_38⟩, h_36, hz_12⟩ := hz_12
            replace hz_12 := un_e hz_12
            refine kE_Vl (k := 0) (As := [.int r_2, .int (0 : Int32)]) (n := 79) (cel' := cW g h (b_38, w_7) v_8) X hl.1 hw (c_X9_worth h_36) (by decide) (cW_0 g h _ _) (cW_0 g h _ _) (cW_2 g h _ _ _) (by decide) (he_X9 g h _ _) rfl ⟨wq_20_15, wq_20_16, wq_20_17, wq_1_2, wq_20_18⟩ yo_X9_worth rfl ⟨Nat.le_of_ble_eq_true rfl, Nat.le_of_ble_eq_true rfl⟩ (Nat.le_of_ble_eq_true rfl) hcs dL_law_292 (fun H locs hw => ?_)
            refine lv_aload_n X.1 X.2.1 dL_law_295 rfl (lv_at hl 2 rfl) ?_
            refine lv_iload X.1 X.2.1 dL_law_296 (lv_at hl 8 rfl) ?_
            refine lv_iconst (v := 1) X.1 X.2.1 dL_law_298 (by decide) ?_
            replace hz_12 := ob_e hz_12
            obtain ⟨⟨r_41, b_42⟩, h_40, hz_12⟩ := hz_12
            replace hz_12 := un_e hz_12
            refine kE_Vl (k := 0) (As := [.int r_2, .int (1 : Int32)]) (n := 79) (cel' := cW g h (b_42, w_7) v_8) X hl.1 hw (c_X9_worth h_40) (by decide) (cW_0 g h _ _) (cW_0 g h _ _) (cW_2 g h _ _ _) (by decide) (he_X9 g h _ _) rfl ⟨wq_20_15, wq_20_16, wq_20_17, wq_1_2, wq_20_18⟩ yo_X9_worth rfl ⟨Nat.le_of_ble_eq_true rfl, Nat.le_of_ble_eq_true rfl⟩ (Nat.le_of_ble_eq_true rfl) hcs dL_law_299 (fun H locs hw => ?_)
            refine lv_aload_n X.1 X.2.1 dL_law_302 rfl (lv_at hl 2 rfl) ?_
            refine lv_iload X.1 X.2.1 dL_law_303 (lv_at hl 9 rfl) ?_
            refine lv_iconst (v := 0) X.1 X.2.1 dL_law_305 (by decide) ?_
            replace hz_12 := ob_e hz_12
            obtain ⟨⟨r_45, b_46⟩, h_44, hz_12⟩ := hz_12
            replace hz_12 := un_e hz_12
            refine kE_Vl (k := 0) (As := [.int y_5, .int (0 : Int32)]) (n := 79) (cel' := cW g h (b_46, w_7) v_8) X hl.1 hw (c_X9_worth h_44) (by decide) (cW_0 g h _ _) (cW_0 g h _ _) (cW_2 g h _ _ _) (by decide) (he_X9 g h _ _) rfl ⟨wq_20_15, wq_20_16, wq_20_17, wq_1_2, wq_20_18⟩ yo_X9_worth rfl ⟨Nat.le_of_ble_eq_true rfl, Nat.le_of_ble_eq_true rfl⟩ (Nat.le_of_ble_eq_true rfl) hcs dL_law_306 (fun H locs hw => ?_)
            refine lv_aload_n X.1 X.2.1 dL_law_309 rfl (lv_at hl 2 rfl) ?_
            refine lv_iload X.1 X.2.1 dL_law_310 (lv_at hl 9 rfl) ?_
            refine lv_iconst (v := 1) X.1 X.2.1 dL_law_312 (by decide) ?_
            replace hz_12 := ob_e hz_12
            obtain ⟨⟨r_49, b_50⟩, h_48, hz_12⟩ := hz_12
            replace hz_12 := un_e hz_12
            refine kE_Vl (k := 0) (As := [.int y_5, .int (1 : Int32)]) (n := 79) (cel' := cW g h (b_50, w_7) v_8) X hl.1 hw (c_X9_worth h_48) (by decide) (cW_0 g h _ _) (cW_0 g h _ _) (cW_2 g h _ _ _) (by decide) (he_X9 g h _ _) rfl ⟨wq_20_15, wq_20_16, wq_20_17, wq_1_2, wq_20_18⟩ yo_X9_worth rfl ⟨Nat.le_of_ble_eq_true rfl, Nat.le_of_ble_eq_true rfl⟩ (Nat.le_of_ble_eq_true rfl) hcs dL_law_313 (fun H locs hw => ?_)
            replace hz_12 := ob_e hz_12
            obtain ⟨r_53, h_52, hz_12⟩ := hz_12
            refine kE_Si (As := [.long r_37, .long r_41, .long r_45, .long r_49]) (n := 80) (c0 := cW g h (b_50, w_7) v_8) (c1 := cW g h (b_50, w_7) v_8) (cel' := cW g h (b_50, w_7) v_8) X hl.1 hw (c_L_less h_52) (Nat.le_refl _) (fun _ _ => rfl) (fun _ _ => rfl) (fun _ _ _ => rfl) ⟨wq_21_0, wq_21_1, wq_5_5, wq_21_2⟩ yo_L_less rfl ⟨Nat.le_of_ble_eq_true rfl, Nat.le_of_ble_eq_true rfl⟩ (Nat.le_of_ble_eq_true rfl) hcs dL_law_316 (fun H locs hw => ?_)
            refine lv_if_ne (tgt := 334) X.1 X.2.1 dL_law_319 (by decide) (fun c_54 => ?_) (fun c_54 => ?_)
            · replace hz_12 := it_n hz_12 c_54
              refine lv_iconst (v := 0) X.1 X.2.1 dL_law_334 (by decide) ?_
              have he_18 := hx_14 _ (Option.some.inj hz_12).symm
              subst he_18
              replace hz := ex_r hz
              have hret := hx _ _ _ _ (Option.some.inj hz).symm
              exact hret _ _ _ _ hw dL_law_335 (Or.inl rfl)
            · replace hz_12 := it_p hz_12 c_54
              refine lv_iload X.1 X.2.1 dL_law_322 (lv_at hl 8 rfl) ?_
              refine lv_iload X.1 X.2.1 dL_law_324 (lv_at hl 9 rfl) ?_
              refine lv_icmp_ne (tgt := 336) X.1 X.2.1 dL_law_326 (by decide) (fun c_55 => ?_) (fun c_55 => ?_)
              · replace hz_12 := it_n hz_12 c_55
                obtain ⟨x_56, ex_56⟩ : ∃ y : Int32, y = y_5 + 1 := ⟨_, rfl⟩
                replace hz_12 := lt_e hz_12 ex_56
                refine lv_iinc (v := x_56) (lv' := [(10, .int x_56), (11, .int j_24), (0, .ref (bb)), (1, .ref (h 0)), (2, .ref (h 79)), (3, .int y3), (4, .int y4), (5, .long y5), (7, .long y7), (9, .int r_2)]) X.1 X.2.1 dL_law_336 hl (k := 9) rfl (by rw [ex_56]; rfl) (by decide) rfl (fun ls hl => ?_)
                refine lv_goto (tgt := 243) X.1 X.2.1 dL_law_339 (by decide) ?_
                exact hn_13 _ (Option.some.inj hz_12).symm _ _ _ hw (lv_sub hl [2, 3, 4, 5, 6, 7, 8, 9, 0] rfl)
              · replace hz_12 := it_p hz_12 c_55
                refine lv_iload X.1 X.2.1 dL_law_329 (lv_at hl 0 rfl) ?_
                refine lv_if_ne (tgt := 336) X.1 X.2.1 dL_law_331 (by decide) (fun c_57 => ?_) (fun c_57 => ?_)
                · replace hz_12 := it_n hz_12 c_57
                  obtain ⟨x_58, ex_58⟩ : ∃ y : Int32, y = y_5 + 1 := ⟨_, rfl⟩
                  replace hz_12 := lt_e hz_12 ex_58
                  refine lv_iinc (v := x_58) (lv' := [(10, .int x_58), (11, .int j_24), (0, .ref (bb)), (1, .ref (h 0)), (2, .ref (h 79)), (3, .int y3), (4, .int y4), (5, .long y5), (7, .long y7), (9, .int r_2)]) X.1 X.2.1 dL_law_336 hl (k := 9) rfl (by rw [ex_58]; rfl) (by decide) rfl (fun ls hl => ?_)
                  refine lv_goto (tgt := 243) X.1 X.2.1 dL_law_339 (by decide) ?_
                  exact hn_13 _ (Option.some.inj hz_12).symm _ _ _ hw (lv_sub hl [2, 3, 4, 5, 6, 7, 8, 9, 0] rfl)
                · replace hz_12 := it_p hz_12 c_57
                  refine lv_iconst (v := 0) X.1 X.2.1 dL_law_334 (by decide) ?_
                  have he_18 := hx_14 _ (Option.some.inj hz_12).symm
                  subst he_18
                  replace hz := ex_r hz
                  have hret := hx _ _ _ _ (Option.some.inj hz).symm
                  exact hret _ _ _ _ hw dL_law_335 (Or.inl rfl)
      · replace hz_12 := it_n hz_12 c_25
        refine lv_iload X.1 X.2.1 dL_law_273 (lv_at hl 0 rfl) ?_
        refine lv_if_ne (tgt := 334) X.1 X.2.1 dL_law_275 (by decide) (fun c_59 => ?_) (fun c_59 => ?_)
        · replace hz_12 := it_n hz_12 c_59
          refine lv_iconst (v := 0) X.1 X.2.1 dL_law_334 (by decide) ?_
          have he_18 := hx_14 _ (Option.some.inj hz_12).symm
          subst he_18
          replace hz := ex_r hz
          have hret := hx _ _ _ _ (Option.some.inj hz).symm
          exact hret _ _ _ _ hw dL_law_335 (Or.inl rfl)
        · replace hz_12 := it_p hz_12 c_59
          refine lv_iload X.1 X.2.1 dL_law_278 (lv_at hl 8 rfl) ?_
          refine lv_if_lt (tgt := 322) X.1 X.2.1 dL_law_280 (by decide) (fun c_60 => ?_) (fun c_60 => ?_)
          · replace hz_12 := it_p hz_12 c_60
            refine lv_iload X.1 X.2.1 dL_law_322 (lv_at hl 8 rfl) ?_
            refine lv_iload X.1 X.2.1 dL_law_324 (lv_at hl 9 rfl) ?_
            refine lv_icmp_ne (tgt := 336) X.1 X.2.1 dL_law_326 (by decide) (fun c_61 => ?_) (fun c_61 => ?_)
            · replace hz_12 := it_n hz_12 c_61
              obtain ⟨x_62, ex_62⟩ : ∃ y : Int32, y = y_5 + 1 := ⟨_, rfl⟩
              replace hz_12 := lt_e hz_12 ex_62
              refine lv_iinc (v := x_62) (lv' := [(10, .int x_62), (11, .int j_24), (0, .ref (bb)), (1, .ref (h 0)), (2, .ref (h 79)), (3, .int y3), (4, .int y4), (5, .long y5), (7, .long y7), (9, .int r_2)]) X.1 X.2.1 dL_law_336 hl (k := 9) rfl (by rw [ex_62]; rfl) (by decide) rfl (fun ls hl => ?_)
              refine lv_goto (tgt := 243) X.1 X.2.1 dL_law_339 (by decide) ?_
              exact hn_13 _ (Option.some.inj hz_12).symm _ _ _ hw (lv_sub hl [2, 3, 4, 5, 6, 7, 8, 9, 0] rfl)
            · replace hz_12 := it_p hz_12 c_61
              refine lv_iload X.1 X.2.1 dL_law_329 (lv_at hl 0 rfl) ?_
              refine lv_if_ne (tgt := 336) X.1 X.2.1 dL_law_331 (by decide) (fun c_63 => ?_) (fun c_63 => ?_)
              · replace hz_12 := it_n hz_12 c_63
                obtain ⟨x_64, ex_64⟩ : ∃ y : Int32, y = y_5 + 1 := ⟨_, rfl⟩
                replace hz_12 := lt_e hz_12 ex_64
                refine lv_iinc (v := x_64) (lv' := [(10, .int x_64), (11, .int j_24), (0, .ref (bb)), (1, .ref (h 0)), (2, .ref (h 79)), (3, .int y3), (4, .int y4), (5, .long y5), (7, .long y7), (9, .int r_2)]) X.1 X.2.1 dL_law_336 hl (k := 9) rfl (by rw [ex_64]; rfl) (by decide) rfl (fun ls hl => ?_)
                refine lv_goto (tgt := 243) X.1 X.2.1 dL_law_339 (by decide) ?_
                exact hn_13 _ (Option.some.inj hz_12).symm _ _ _ hw (lv_sub hl [2, 3, 4, 5, 6, 7, 8, 9, 0] rfl)
              · replace hz_12 := it_p hz_12 c_63
                refine lv_iconst (v := 0) X.1 X.2.1 dL_law_334 (by decide) ?_
                have he_18 := hx_14 _ (Option.some.inj hz_12).symm
                subst he_18
                replace hz := ex_r hz
                have hret := hx _ _ _ _ (Option.some.inj hz).symm
                exact hret _ _ _ _ hw dL_law_335 (Or.inl rfl)
          · replace hz_12 := it_n hz_12 c_60
            refine lv_iload X.1 X.2.1 dL_law_283 (lv_at hl 0 rfl) ?_
            refine lv_if_eq (tgt := 322) X.1 X.2.1 dL_law_285 (by decide) (fun c_65 => ?_) (fun c_65 => ?_)
            · replace hz_12 := it_p hz_12 c_65
              refine lv_iload X.1 X.2.1 dL_law_322 (lv_at hl 8 rfl) ?_
              refine lv_iload X.1 X.2.1 dL_law_324 (lv_at hl 9 rfl) ?_
              refine lv_icmp_ne (tgt := 336) X.1 X.2.1 dL_law_326 (by decide) (fun c_66 => ?_) (fun c_66 => ?_)
              · replace hz_12 := it_n hz_12 c_66
                obtain ⟨x_67, ex_67⟩ : ∃ y : Int32, y = y_5 + 1 := ⟨_, rfl⟩
                replace hz_12 := lt_e hz_12 ex_67
                refine lv_iinc (v := x_67) (lv' := [(10, .int x_67), (11, .int j_24), (0, .ref (bb)), (1, .ref (h 0)), (2, .ref (h 79)), (3, .int y3), (4, .int y4), (5, .long y5), (7, .long y7), (9, .int r_2)]) X.1 X.2.1 dL_law_336 hl (k := 9) rfl (by rw [ex_67]; rfl) (by decide) rfl (fun ls hl => ?_)
                refine lv_goto (tgt := 243) X.1 X.2.1 dL_law_339 (by decide) ?_
                exact hn_13 _ (Option.some.inj hz_12).symm _ _ _ hw (lv_sub hl [2, 3, 4, 5, 6, 7, 8, 9, 0] rfl)
              · replace hz_12 := it_p hz_12 c_66
                refine lv_iload X.1 X.2.1 dL_law_329 (lv_at hl 0 rfl) ?_
                refine lv_if_ne (tgt := 336) X.1 X.2.1 dL_law_331 (by decide) (fun c_68 => ?_) (fun c_68 => ?_)
                · replace hz_12 := it_n hz_12 c_68
                  obtain ⟨x_69, ex_69⟩ : ∃ y : Int32, y = y_5 + 1 := ⟨_, rfl⟩
                  replace hz_12 := lt_e hz_12 ex_69
                  refine lv_iinc (v := x_69) (lv' := [(10, .int x_69), (11, .int j_24), (0, .ref (bb)), (1, .ref (h 0)), (2, .ref (h 79)), (3, .int y3), (4, .int y4), (5, .long y5), (7, .long y7), (9, .int r_2)]) X.1 X.2.1 dL_law_336 hl (k := 9) rfl (by rw [ex_69]; rfl) (by decide) rfl (fun ls hl => ?_)
                  refine lv_goto (tgt := 243) X.1 X.2.1 dL_law_339 (by decide) ?_
                  exact hn_13 _ (Option.some.inj hz_12).symm _ _ _ hw (lv_sub hl [2, 3, 4, 5, 6, 7, 8, 9, 0] rfl)
                · replace hz_12 := it_p hz_12 c_68
                  refine lv_iconst (v := 0) X.1 X.2.1 dL_law_334 (by decide) ?_
                  have he_18 := hx_14 _ (Option.some.inj hz_12).symm
                  subst he_18
                  replace hz := ex_r hz
                  have hret := hx _ _ _ _ (Option.some.inj hz).symm
                  exact hret _ _ _ _ hw dL_law_335 (Or.inl rfl)
            · replace hz_12 := it_n hz_12 c_65
              refine lv_aload_n X.1 X.2.1 dL_law_288 rfl (lv_at hl 2 rfl) ?_
              refine lv_iload X.1 X.2.1 dL_law_289 (lv_at hl 8 rfl) ?_
              refine lv_iconst (v := 0) X.1 X.2.1 dL_law_291 (by decide) ?_
              replace hz_12 := ob_e hz_12
              obtain ⟨⟨r_71, b_72⟩, h_70, hz_12⟩ := hz_12
              replace hz_12 := un_e hz_12
              refine kE_Vl (k := 0) (As := [.int r_2, .int (0 : Int32)]) (n := 79) (cel' := cW g h (b_72, w_7) v_8) X hl.1 hw (c_X9_worth h_70) (by decide) (cW_0 g h _ _) (cW_0 g h _ _) (cW_2 g h _ _ _) (by decide) (he_X9 g h _ _) rfl ⟨wq_20_15, wq_20_16, wq_20_17, wq_1_2, wq_20_18⟩ yo_X9_worth rfl ⟨Nat.le_of_ble_eq_true rfl, Nat.le_of_ble_eq_true rfl⟩ (Nat.le_of_ble_eq_true rfl) hcs dL_law_292 (fun H locs hw => ?_)
              refine lv_aload_n X.1 X.2.1 dL_law_295 rfl (lv_at hl 2 rfl) ?_
              refine lv_iload X.1 X.2.1 dL_law_296 (lv_at hl 8 rfl) ?_
              refine lv_iconst (v := 1) X.1 X.2.1 dL_law_298 (by decide) ?_
              replace hz_12 := ob_e hz_12
              obtain ⟨⟨r_75, b_76⟩, h_74, hz_12⟩ := hz_12
              replace hz_12 := un_e hz_12
              refine kE_Vl (k := 0) (As := [.int r_2, .int (1 : Int32)]) (n := 79) (cel' := cW g h (b_76, w_7) v_8) X hl.1 hw (c_X9_worth h_74) (by decide) (cW_0 g h _ _) (cW_0 g h _ _) (cW_2 g h _ _ _) (by decide) (he_X9 g h _ _) rfl ⟨wq_20_15, wq_20_16, wq_20_17, wq_1_2, wq_20_18⟩ yo_X9_worth rfl ⟨Nat.le_of_ble_eq_true rfl, Nat.le_of_ble_eq_true rfl⟩ (Nat.le_of_ble_eq_true rfl) hcs dL_law_299 (fun H locs hw => ?_)
              refine lv_aload_n X.1 X.2.1 dL_law_302 rfl (lv_at hl 2 rfl) ?_
              refine lv_iload X.1 X.2.1 dL_law_303 (lv_at hl 9 rfl) ?_
              refine lv_iconst (v := 0) X.1 X.2.1 dL_law_305 (by decide) ?_
              replace hz_12 := ob_e hz_12
              obtain ⟨⟨r_79, b_80⟩, h_78, hz_12⟩ := hz_12
              replace hz_12 := un_e hz_12
              refine kE_Vl (k := 0) (As := [.int y_5, .int (0 : Int32)]) (n := 79) (cel' := cW g h (b_80, w_7) v_8) X hl.1 hw (c_X9_worth h_78) (by decide) (cW_0 g h _ _) (cW_0 g h _ _) (cW_2 g h _ _ _) (by decide) (he_X9 g h _ _) rfl ⟨wq_20_15, wq_20_16, wq_20_17, wq_1_2, wq_20_18⟩ yo_X9_worth rfl ⟨Nat.le_of_ble_eq_true rfl, Nat.le_of_ble_eq_true rfl⟩ (Nat.le_of_ble_eq_true rfl) hcs dL_law_306 (fun H locs hw => ?_)
              refine lv_aload_n X.1 X.2.1 dL_law_309 rfl (lv_at hl 2 rfl) ?_
              refine lv_iload X.1 X.2.1 dL_law_310 (lv_at hl 9 rfl) ?_
              refine lv_iconst (v := 1) X.1 X.2.1 dL_law_312 (by decide) ?_
              replace hz_12 := ob_e hz_12
              obtain ⟨⟨r_83, b_84⟩, h_82, hz_12⟩ := hz_12
              replace hz_12 := un_e hz_12
              refine kE_Vl (k := 0) (As := [.int y_5, .int (1 : Int32)]) (n := 79) (cel' := cW g h (b_84, w_7) v_8) X hl.1 hw (c_X9_worth h_82) (by decide) (cW_0 g h _ _) (cW_0 g h _ _) (cW_2 g h _ _ _) (by decide) (he_X9 g h _ _) rfl ⟨wq_20_15, wq_20_16, wq_20_17, wq_1_2, wq_20_18⟩ yo_X9_worth rfl ⟨Nat.le_of_ble_eq_true rfl, Nat.le_of_ble_eq_true rfl⟩ (Nat.le_of_ble_eq_true rfl) hcs dL_law_313 (fun H locs hw => ?_)
              replace hz_12 := ob_e hz_12
              obtain ⟨r_87, h_86, hz_12⟩ := hz_12
              refine kE_Si (As := [.long r_71, .long r_75, .long r_79, .long r_83]) (n := 80) (c0 := cW g h (b_84, w_7) v_8) (c1 := cW g h (b_84, w_7) v_8) (cel' := cW g h (b_84, w_7) v_8) X hl.1 hw (c_L_less h_86) (Nat.le_refl _) (fun _ _ => rfl) (fun _ _ => rfl) (fun _ _ _ => rfl) ⟨wq_21_0, wq_21_1, wq_5_5, wq_21_2⟩ yo_L_less rfl ⟨Nat.le_of_ble_eq_true rfl, Nat.le_of_ble_eq_true rfl⟩ (Nat.le_of_ble_eq_true rfl) hcs dL_law_316 (fun H locs hw => ?_)
              refine lv_if_ne (tgt := 334) X.1 X.2.1 dL_law_319 (by decide) (fun c_88 => ?_) (fun c_88 => ?_)
              · replace hz_12 := it_n hz_12 c_88
                refine lv_iconst (v := 0) X.1 X.2.1 dL_law_334 (by decide) ?_
                have he_18 := hx_14 _ (Option.some.inj hz_12).symm
                subst he_18
                replace hz := ex_r hz
                have hret := hx _ _ _ _ (Option.some.inj hz).symm
                exact hret _ _ _ _ hw dL_law_335 (Or.inl rfl)
              · replace hz_12 := it_p hz_12 c_88
                refine lv_iload X.1 X.2.1 dL_law_322 (lv_at hl 8 rfl) ?_
                refine lv_iload X.1 X.2.1 dL_law_324 (lv_at hl 9 rfl) ?_
                refine lv_icmp_ne (tgt := 336) X.1 X.2.1 dL_law_326 (by decide) (fun c_89 => ?_) (fun c_89 => ?_)
                · replace hz_12 := it_n hz_12 c_89
                  obtain ⟨x_90, ex_90⟩ : ∃ y : Int32, y = y_5 + 1 := ⟨_, rfl⟩
                  replace hz_12 := lt_e hz_12 ex_90
                  refine lv_iinc (v := x_90) (lv' := [(10, .int x_90), (11, .int j_24), (0, .ref (bb)), (1, .ref (h 0)), (2, .ref (h 79)), (3, .int y3), (4, .int y4), (5, .long y5), (7, .long y7), (9, .int r_2)]) X.1 X.2.1 dL_law_336 hl (k := 9) rfl (by rw [ex_90]; rfl) (by decide) rfl (fun ls hl => ?_)
                  refine lv_goto (tgt := 243) X.1 X.2.1 dL_law_339 (by decide) ?_
                  exact hn_13 _ (Option.some.inj hz_12).symm _ _ _ hw (lv_sub hl [2, 3, 4, 5, 6, 7, 8, 9, 0] rfl)
                · replace hz_12 := it_p hz_12 c_89
                  refine lv_iload X.1 X.2.1 dL_law_329 (lv_at hl 0 rfl) ?_
                  refine lv_if_ne (tgt := 336) X.1 X.2.1 dL_law_331 (by decide) (fun c_91 => ?_) (fun c_91 => ?_)
                  · replace hz_12 := it_n hz_12 c_91
                    obtain ⟨x_92, ex_92⟩ : ∃ y : Int32, y = y_5 + 1 := ⟨_, rfl⟩
                    replace hz_12 := lt_e hz_12 ex_92
                    refine lv_iinc (v := x_92) (lv' := [(10, .int x_92), (11, .int j_24), (0, .ref (bb)), (1, .ref (h 0)), (2, .ref (h 79)), (3, .int y3), (4, .int y4), (5, .long y5), (7, .long y7), (9, .int r_2)]) X.1 X.2.1 dL_law_336 hl (k := 9) rfl (by rw [ex_92]; rfl) (by decide) rfl (fun ls hl => ?_)
                    refine lv_goto (tgt := 243) X.1 X.2.1 dL_law_339 (by decide) ?_
                    exact hn_13 _ (Option.some.inj hz_12).symm _ _ _ hw (lv_sub hl [2, 3, 4, 5, 6, 7, 8, 9, 0] rfl)
                  · replace hz_12 := it_p hz_12 c_91
                    refine lv_iconst (v := 0) X.1 X.2.1 dL_law_334 (by decide) ?_
                    have he_18 := hx_14 _ (Option.some.inj hz_12).symm
                    subst he_18
                    replace hz := ex_r hz
                    have hret := hx _ _ _ _ (Option.some.inj hz).symm
                    exact hret _ _ _ _ hw dL_law_335 (Or.inl rfl)
    refine lv_if_ne (tgt := 265) X.1 X.2.1 dL_law_258 (by decide) (fun c_23 => ?_) (fun c_23 => ?_)
    · replace hg_93 := it_n hg_93 c_23
      refine lv_iconst (v := 0) X.1 X.2.1 dL_law_265 (by decide) ?_
      obtain rfl := Option.some.inj hg_93
      exact J_94 _ _ _ hw (lv_sub hl [0, 1, 2, 3, 4, 5, 6, 7, 8] rfl)
    · replace hg_93 := it_p hg_93 c_23
      refine lv_iconst (v := 1) X.1 X.2.1 dL_law_261 (by decide) ?_
      refine lv_goto (tgt := 266) X.1 X.2.1 dL_law_262 (by decide) ?_
      obtain rfl := Option.some.inj hg_93
      exact J_94 _ _ _ hw (lv_sub hl [0, 1, 2, 3, 4, 5, 6, 7, 8] rfl)
set_option maxHeartbeats 4000000 in
set_option maxRecDepth 100000 in
theorem w_S210 (X : Cx g p s m AV c cL_law RL 34) (hX : va_X bb L xs s s.heap) (hbl : bb < s.heap.size) (hbA : ¬ AW 80 h s.heap.size bb) (hcs : cells ≤ room_1.cells ∧ slots ≤ room_1.slots) {y3 : Int32} {y4 : Int32} {y5 : Int64} {y7 : Int64} {b : ST} {w : Nat → ST} {v : Nat → Int32} {z : (ST × (Nat → ST) × (Nat → Int32)) ⊕ (Int32 × ST × (Nat → ST) × (Nat → Int32))} (hz : m_L_law_S210 y3 y4 y5 y7 b w v = some z) (hn : ∀ (b : ST) (w : Nat → ST) (v : Nat → Int32), z = .inl (b, w, v) → ∀ (H : Heap) (locs : List Loc) (ls : Array Slot), Wd g 80 h (cW g h (b, w) v) s H locs → lv_has ls 34 [(0, .ref bb), (1, .ref (h 0)), (2, .ref (h 79)), (3, .int y3)] → W p l e room_1 s m AV below meth c H locs cells slots Q (F0 m 1125 ls [])) (hx : ∀ (r : Int32) (b : ST) (w : Nat → ST) (v : Nat → Int32), z = .inr (r, b, w, v) → ∀ (H : Heap) (locs : List Loc) (pc : Nat) (ls : Array Slot), Wd g 80 h (cW g h (b, w) v) s H locs → decode cL_law pc = .ok (.ireturn, 1) → (r = 0 ∨ r = 1) → W p l e room_1 s m AV below meth c H locs cells slots Q (F0 m pc ls [.int r])) {H : Heap} {locs : List Loc} {ls : Array Slot} (hw : Wd g 80 h (cW g h (b, w) v) s H locs) (hl : lv_has ls 34 [(0, .ref (bb)), (1, .ref (h 0)), (2, .ref (h 79)), (3, .int y3), (4, .int y4), (5, .long y5), (7, .long y7)]) : W p l e room_1 s m AV below meth c H locs cells slots Q (F0 m 210 ls []) := by
  unfold m_L_law_S210 at hz
  refine lv_aload_n X.1 X.2.1 dL_law_210 rfl (lv_at hl 1 rfl) ?_
  refine lv_iconst (v := 0) X.1 X.2.1 dL_law_211 (by decide) ?_
  replace hz := ob_e hz
  obtain ⟨⟨r_2, b_3⟩, h_1, hz⟩ := hz
  replace hz := un_e hz
  refine kE_Vl (k := 0) (As := [.int (0 : Int32)]) (n := 79) (cel' := cW g h (b_3, w) v) X hl.1 hw (c_X9_reach h_1) (by decide) (cW_0 g h _ _) (cW_0 g h _ _) (cW_2 g h _ _ _) (by decide) (he_X9 g h _ _) rfl ⟨wq_12_5, wq_12_6, wq_12_7, wq_1_2, wq_12_8⟩ yo_X9_reach rfl ⟨Nat.le_of_ble_eq_true rfl, Nat.le_of_ble_eq_true rfl⟩ (Nat.le_of_ble_eq_true rfl) hcs dL_law_212 (fun H locs hw => ?_)
  refine lv_lload X.1 X.2.1 dL_law_215 (lv_at hl 5 rfl) ?_
  refine W.lcmp X.1 X.2.1 dL_law_217 ?_
  refine lv_if_ne (tgt := 232) X.1 X.2.1 dL_law_218 (by decide) (fun c_5 => ?_) (fun c_5 => ?_)
  · replace hz := it_n hz c_5
    refine lv_iconst (v := 0) X.1 X.2.1 dL_law_232 (by decide) ?_
    have hret := hx _ _ _ _ (Option.some.inj hz).symm
    exact hret _ _ _ _ hw dL_law_233 (Or.inl rfl)
  · replace hz := it_p hz c_5
    refine lv_aload_n X.1 X.2.1 dL_law_221 rfl (lv_at hl 1 rfl) ?_
    refine lv_iconst (v := 1) X.1 X.2.1 dL_law_222 (by decide) ?_
    replace hz := ob_e hz
    obtain ⟨⟨r_7, b_8⟩, h_6, hz⟩ := hz
    replace hz := un_e hz
    refine kE_Vl (k := 0) (As := [.int (1 : Int32)]) (n := 79) (cel' := cW g h (b_8, w) v) X hl.1 hw (c_X9_reach h_6) (by decide) (cW_0 g h _ _) (cW_0 g h _ _) (cW_2 g h _ _ _) (by decide) (he_X9 g h _ _) rfl ⟨wq_12_5, wq_12_6, wq_12_7, wq_1_2, wq_12_8⟩ yo_X9_reach rfl ⟨Nat.le_of_ble_eq_true rfl, Nat.le_of_ble_eq_true rfl⟩ (Nat.le_of_ble_eq_true rfl) hcs dL_law_223 (fun H locs hw => ?_)
    refine lv_lload X.1 X.2.1 dL_law_226 (lv_at hl 6 rfl) ?_
    refine W.lcmp X.1 X.2.1 dL_law_228 ?_
    refine lv_if_eq (tgt := 234) X.1 X.2.1 dL_law_229 (by decide) (fun c_10 => ?_) (fun c_10 => ?_)
    · replace hz := it_p hz c_10
      exact w_S234 X hX hbl hbA hcs hz hn hx hw (lv_sub hl [0, 1, 2, 3, 4, 5, 6] rfl)
    · replace hz := it_n hz c_10
      refine lv_iconst (v := 0) X.1 X.2.1 dL_law_232 (by decide) ?_
      have hret := hx _ _ _ _ (Option.some.inj hz).symm
      exact hret _ _ _ _ hw dL_law_233 (Or.inl rfl)
set_option maxHeartbeats 4000000 in
set_option maxRecDepth 100000 in
theorem w_S182 (X : Cx g p s m AV c cL_law RL 34) (hX : va_X bb L xs s s.heap) (hbl : bb < s.heap.size) (hbA : ¬ AW 80 h s.heap.size bb) (hcs : cells ≤ room_1.cells ∧ slots ≤ room_1.slots) {y3 : Int32} {y4 : Int32} {y5 : Int64} {y7 : Int64} {b : ST} {w : Nat → ST} {v : Nat → Int32} {z : (ST × (Nat → ST) × (Nat → Int32)) ⊕ (Int32 × ST × (Nat → ST) × (Nat → Int32))} (hz : m_L_law_S182 y3 y4 y5 y7 b w v = some z) (hn : ∀ (b : ST) (w : Nat → ST) (v : Nat → Int32), z = .inl (b, w, v) → ∀ (H : Heap) (locs : List Loc) (ls : Array Slot), Wd g 80 h (cW g h (b, w) v) s H locs → lv_has ls 34 [(0, .ref bb), (1, .ref (h 0)), (2, .ref (h 79)), (3, .int y3)] → W p l e room_1 s m AV below meth c H locs cells slots Q (F0 m 1125 ls [])) (hx : ∀ (r : Int32) (b : ST) (w : Nat → ST) (v : Nat → Int32), z = .inr (r, b, w, v) → ∀ (H : Heap) (locs : List Loc) (pc : Nat) (ls : Array Slot), Wd g 80 h (cW g h (b, w) v) s H locs → decode cL_law pc = .ok (.ireturn, 1) → (r = 0 ∨ r = 1) → W p l e room_1 s m AV below meth c H locs cells slots Q (F0 m pc ls [.int r])) {H : Heap} {locs : List Loc} {ls : Array Slot} (hw : Wd g 80 h (cW g h (b, w) v) s H locs) (hl : lv_has ls 34 [(0, .ref (bb)), (1, .ref (h 0)), (2, .ref (h 79)), (3, .int y3), (4, .int y4), (5, .long y5), (7, .long y7)]) : W p l e room_1 s m AV below meth c H locs cells slots Q (F0 m 182 ls []) := by
  unfold m_L_law_S182 at hz
  refine lv_iconst (v := 0) X.1 X.2.1 dL_law_182 (by decide) ?_
  refine lv_istore (lv' := [(9, .int (0 : Int32)), (0, .ref (bb)), (1, .ref (h 0)), (2, .ref (h 79)), (3, .int y3), (4, .int y4), (5, .long y5), (7, .long y7)]) X.1 X.2.1 dL_law_183 hl (by decide) rfl (fun ls hl => ?_)
  replace hz := ob_e hz
  obtain ⟨z_24, hL_13, hz⟩ := hz
  have J_12 : ∀ (b_5 : ST) (w_6 : (Nat → ST)) (v_7 : (Nat → Int32)), z_24 = .inl (b_5, w_6, v_7) → ∀ (H : Heap) (locs : List Loc) (ls : Array Slot), Wd g 80 h (cW g h (b_5, w_6) v_7) s H locs → lv_has ls 34 [(0, .ref (bb)), (1, .ref (h 0)), (2, .ref (h 79)), (3, .int y3), (4, .int y4), (5, .long y5), (7, .long y7)] → W p l e room_1 s m AV below meth c H locs cells slots Q (F0 m 210 ls []) := by
    intro b_5 w_6 v_7 hj
    subst hj
    replace hz := ex_l hz
    replace hz := un_e hz
    replace hz := un_e hz
    intro H locs ls hw hl
    exact w_S210 X hX hbl hbA hcs hz hn hx hw (lv_sub hl [0, 1, 2, 3, 4, 5, 6] rfl)
  refine vLoop_ind (B := (m_L_law_L185)) (fun σ => ∀ (H : Heap) (locs : List Loc) (ls : Array Slot), Wd g 80 h (cW g h (σ.2.1, σ.2.2.1) σ.2.2.2) s H locs → lv_has ls 34 [(0, .ref (bb)), (1, .ref (h 0)), (2, .ref (h 79)), (3, .int y3), (4, .int y4), (5, .long y5), (7, .long y7), (9, .int σ.1)] → W p l e room_1 s m AV below meth c H locs cells slots Q (F0 m 185 ls [])) (fun z' => z' = z_24) ?_ FUEL _ _ hL_13 rfl _ _ _ hw (lv_sub hl [1, 2, 3, 4, 5, 6, 7, 0] rfl)
  intro σ z_11 hz_8 hn_9 hx_10
  obtain ⟨y_1, b_2, w_3, v_4⟩ := σ
  intro H locs ls hw hl
  replace hw : Wd g 80 h (cW g h (b_2, w_3) v_4) s H locs := hw
  replace hl : lv_has ls 34 [(0, .ref (bb)), (1, .ref (h 0)), (2, .ref (h 79)), (3, .int y3), (4, .int y4), (5, .long y5), (7, .long y7), (9, .int y_1)] := hl
  unfold m_L_law_L185 at hz_8
  replace hz_8 := un_e hz_8
  replace hz_8 := un_e hz_8
  replace hz_8 := un_e hz_8
  refine lv_iload X.1 X.2.1 dL_law_185 (lv_at hl 7 rfl) ?_
  refine lv_aload_n X.1 X.2.1 dL_law_187 rfl (lv_at hl 2 rfl) ?_
  refine lv_iconst (v := 1) X.1 X.2.1 dL_law_188 (by decide) ?_
  replace hz_8 := gd_e hz_8
  obtain ⟨g_15, hz_8⟩ := hz_8
  refine lV X hw g_15 dL_law_189 ?_
  refine lv_icmp_ge (tgt := 210) X.1 X.2.1 dL_law_190 (by decide) (fun c_16 => ?_) (fun c_16 => ?_)
  · replace hz_8 := it_p hz_8 c_16
    have he_14 := hx_10 _ (Option.some.inj hz_8).symm
    exact J_12 _ _ _ he_14.symm _ _ _ hw (lv_sub hl [0, 1, 2, 3, 4, 5, 6] rfl)
  · replace hz_8 := it_n hz_8 c_16
    refine lv_aload_n X.1 X.2.1 dL_law_193 rfl (lv_at hl 1 rfl) ?_
    refine lv_iload X.1 X.2.1 dL_law_194 (lv_at hl 7 rfl) ?_
    replace hz_8 := ob_e hz_8
    obtain ⟨⟨r_18, b_19⟩, h_17, hz_8⟩ := hz_8
    replace hz_8 := un_e hz_8
    refine kE_Si (As := [.ref (h 0), .int y_1]) (n := 79) (cel' := cW g h (b_19, w_3) v_4) X hl.1 hw (c_L_splits h_17) (by decide) (cW_0 g h _ _) (cW_0 g h _ _) (cW_2 g h _ _ _) ⟨wq_20_4, wq_20_5, wq_5_5, wq_20_6⟩ yo_L_splits rfl ⟨Nat.le_of_ble_eq_true rfl, Nat.le_of_ble_eq_true rfl⟩ (Nat.le_of_ble_eq_true rfl) hcs dL_law_196 (fun H locs hw => ?_)
    refine lv_if_ne (tgt := 204) X.1 X.2.1 dL_law_199 (by decide) (fun c_21 => ?_) (fun c_21 => ?_)
    · replace hz_8 := it_n hz_8 c_21
      obtain ⟨x_22, ex_22⟩ : ∃ y : Int32, y = y_1 + 1 := ⟨_, rfl⟩
      replace hz_8 := lt_e hz_8 ex_22
      refine lv_iinc (v := x_22) (lv' := [(9, .int x_22), (0, .ref (bb)), (1, .ref (h 0)), (2, .ref (h 79)), (3, .int y3), (4, .int y4), (5, .long y5), (7, .long y7)]) X.1 X.2.1 dL_law_204 hl (k := 7) rfl (by rw [ex_22]; rfl) (by decide) rfl (fun ls hl => ?_)
      refine lv_goto (tgt := 185) X.1 X.2.1 dL_law_207 (by decide) ?_
      exact hn_9 _ (Option.some.inj hz_8).symm _ _ _ hw (lv_sub hl [1, 2, 3, 4, 5, 6, 7, 0] rfl)
    · replace hz_8 := it_p hz_8 c_21
      refine lv_iconst (v := 0) X.1 X.2.1 dL_law_202 (by decide) ?_
      have he_14 := hx_10 _ (Option.some.inj hz_8).symm
      subst he_14
      replace hz := ex_r hz
      have hret := hx _ _ _ _ (Option.some.inj hz).symm
      exact hret _ _ _ _ hw dL_law_203 (Or.inl rfl)
set_option maxHeartbeats 4000000 in
set_option maxRecDepth 100000 in
theorem w_S35 (X : Cx g p s m AV c cL_law RL 34) (hX : va_X bb L xs s s.heap) (hbl : bb < s.heap.size) (hbA : ¬ AW 80 h s.heap.size bb) (hcs : cells ≤ room_1.cells ∧ slots ≤ room_1.slots) {y3 : Int32} {b : ST} {w : Nat → ST} {v : Nat → Int32} {z : (ST × (Nat → ST) × (Nat → Int32)) ⊕ (Int32 × ST × (Nat → ST) × (Nat → Int32))} (hz : m_L_law_S35 L xs y3 b w v = some z) (hn : ∀ (b : ST) (w : Nat → ST) (v : Nat → Int32), z = .inl (b, w, v) → ∀ (H : Heap) (locs : List Loc) (ls : Array Slot), Wd g 80 h (cW g h (b, w) v) s H locs → lv_has ls 34 [(0, .ref bb), (1, .ref (h 0)), (2, .ref (h 79)), (3, .int y3)] → W p l e room_1 s m AV below meth c H locs cells slots Q (F0 m 1125 ls [])) (hx : ∀ (r : Int32) (b : ST) (w : Nat → ST) (v : Nat → Int32), z = .inr (r, b, w, v) → ∀ (H : Heap) (locs : List Loc) (pc : Nat) (ls : Array Slot), Wd g 80 h (cW g h (b, w) v) s H locs → decode cL_law pc = .ok (.ireturn, 1) → (r = 0 ∨ r = 1) → W p l e room_1 s m AV below meth c H locs cells slots Q (F0 m pc ls [.int r])) {H : Heap} {locs : List Loc} {ls : Array Slot} (hw : Wd g 80 h (cW g h (b, w) v) s H locs) (hl : lv_has ls 34 [(0, .ref (bb)), (1, .ref (h 0)), (2, .ref (h 79)), (3, .int y3)]) : W p l e room_1 s m AV below meth c H locs cells slots Q (F0 m 35 ls []) := by
  unfold m_L_law_S35 at hz
  refine lv_aload_n X.1 X.2.1 dL_law_35 rfl (lv_at hl 0 rfl) ?_
  refine lv_bipush (v := 13) X.1 X.2.1 dL_law_36 (by decide) ?_
  refine lv_iload_n X.1 X.2.1 dL_law_38 rfl (lv_at hl 3 rfl) ?_
  refine lv_imul X.1 X.2.1 dL_law_39 ?_
  refine lv_bipush (v := 11) X.1 X.2.1 dL_law_40 (by decide) ?_
  refine lv_iadd X.1 X.2.1 dL_law_42 ?_
  replace hz := ob_e hz
  obtain ⟨r_2, h_1, hz⟩ := hz
  refine kX_Si (As := [.ref (bb), .int (((13 : Int32) * y3) + (11 : Int32))]) (cel' := cW g h (b, w) v) X hX hbl hbA hl.1 hw (c_L_cell h_1) ⟨wq_5_7, wq_5_8, wq_5_5, wq_5_9⟩ yo_L_cell rfl ⟨Nat.le_of_ble_eq_true rfl, Nat.le_of_ble_eq_true rfl⟩ (Nat.le_of_ble_eq_true rfl) hcs dL_law_43 (fun H locs hw => ?_)
  refine lv_istore (lv' := [(4, .int r_2), (0, .ref (bb)), (1, .ref (h 0)), (2, .ref (h 79)), (3, .int y3)]) X.1 X.2.1 dL_law_46 hl (by decide) rfl (fun ls hl => ?_)
  refine lv_aload_n X.1 X.2.1 dL_law_48 rfl (lv_at hl 2 rfl) ?_
  refine lv_iconst (v := 0) X.1 X.2.1 dL_law_49 (by decide) ?_
  replace hz := ob_e hz
  obtain ⟨⟨r_4, b_5⟩, h_3, hz⟩ := hz
  replace hz := un_e hz
  refine kE_Vl (k := 0) (As := [.int (0 : Int32)]) (n := 79) (cel' := cW g h (b_5, w) v) X hl.1 hw (c_X9_reach h_3) (by decide) (cW_0 g h _ _) (cW_0 g h _ _) (cW_2 g h _ _ _) (by decide) (he_X9 g h _ _) rfl ⟨wq_12_5, wq_12_6, wq_12_7, wq_1_2, wq_12_8⟩ yo_X9_reach rfl ⟨Nat.le_of_ble_eq_true rfl, Nat.le_of_ble_eq_true rfl⟩ (Nat.le_of_ble_eq_true rfl) hcs dL_law_50 (fun H locs hw => ?_)
  refine lv_lstore (lv' := [(5, .long r_4), (4, .int r_2), (0, .ref (bb)), (1, .ref (h 0)), (2, .ref (h 79)), (3, .int y3)]) X.1 X.2.1 dL_law_53 hl (by decide) rfl (fun ls hl => ?_)
  refine lv_aload_n X.1 X.2.1 dL_law_55 rfl (lv_at hl 3 rfl) ?_
  refine lv_iconst (v := 1) X.1 X.2.1 dL_law_56 (by decide) ?_
  replace hz := ob_e hz
  obtain ⟨⟨r_8, b_9⟩, h_7, hz⟩ := hz
  replace hz := un_e hz
  refine kE_Vl (k := 0) (As := [.int (1 : Int32)]) (n := 79) (cel' := cW g h (b_9, w) v) X hl.1 hw (c_X9_reach h_7) (by decide) (cW_0 g h _ _) (cW_0 g h _ _) (cW_2 g h _ _ _) (by decide) (he_X9 g h _ _) rfl ⟨wq_12_5, wq_12_6, wq_12_7, wq_1_2, wq_12_8⟩ yo_X9_reach rfl ⟨Nat.le_of_ble_eq_true rfl, Nat.le_of_ble_eq_true rfl⟩ (Nat.le_of_ble_eq_true rfl) hcs dL_law_57 (fun H locs hw => ?_)
  refine lv_lstore (lv' := [(7, .long r_8), (5, .long r_4), (4, .int r_2), (0, .ref (bb)), (1, .ref (h 0)), (2, .ref (h 79)), (3, .int y3)]) X.1 X.2.1 dL_law_60 hl (by decide) rfl (fun ls hl => ?_)
  refine lv_lload X.1 X.2.1 dL_law_62 (lv_at hl 1 rfl) ?_
  refine lv_lconst (v := 0) X.1 X.2.1 dL_law_64 (by decide) ?_
  refine W.lcmp X.1 X.2.1 dL_law_65 ?_
  refine lv_if_lt (tgt := 180) X.1 X.2.1 dL_law_66 (by decide) (fun c_11 => ?_) (fun c_11 => ?_)
  · replace hz := it_p hz c_11
    refine lv_iconst (v := 0) X.1 X.2.1 dL_law_180 (by decide) ?_
    have hret := hx _ _ _ _ (Option.some.inj hz).symm
    exact hret _ _ _ _ hw dL_law_181 (Or.inl rfl)
  · replace hz := it_n hz c_11
    refine lv_lload X.1 X.2.1 dL_law_69 (lv_at hl 1 rfl) ?_
    refine lv_lload X.1 X.2.1 dL_law_71 (lv_at hl 0 rfl) ?_
    refine W.lcmp X.1 X.2.1 dL_law_73 ?_
    refine lv_if_gt (tgt := 180) X.1 X.2.1 dL_law_74 (by decide) (fun c_12 => ?_) (fun c_12 => ?_)
    · replace hz := it_p hz c_12
      refine lv_iconst (v := 0) X.1 X.2.1 dL_law_180 (by decide) ?_
      have hret := hx _ _ _ _ (Option.some.inj hz).symm
      exact hret _ _ _ _ hw dL_law_181 (Or.inl rfl)
    · replace hz := it_n hz c_12
      refine lv_lload X.1 X.2.1 dL_law_77 (lv_at hl 1 rfl) ?_
      refine lv_lload X.1 X.2.1 dL_law_79 (lv_at hl 0 rfl) ?_
      replace hz := ob_e hz
      obtain ⟨r_14, h_13, hz⟩ := hz
      refine kE_Sl (As := [.long r_4, .long r_8]) (n := 80) (c0 := cW g h (b_9, w) v) (c1 := cW g h (b_9, w) v) (cel' := cW g h (b_9, w) v) X hl.1 hw (c_L_divisor h_13) (Nat.le_refl _) (fun _ _ => rfl) (fun _ _ => rfl) (fun _ _ _ => rfl) ⟨wq_14_13, wq_14_14, wq_5_5, wq_14_15⟩ yo_L_divisor rfl ⟨Nat.le_of_ble_eq_true rfl, Nat.le_of_ble_eq_true rfl⟩ (Nat.le_of_ble_eq_true rfl) hcs dL_law_81 (fun H locs hw => ?_)
      refine lv_lconst (v := 1) X.1 X.2.1 dL_law_84 (by decide) ?_
      refine W.lcmp X.1 X.2.1 dL_law_85 ?_
      refine lv_if_ne (tgt := 180) X.1 X.2.1 dL_law_86 (by decide) (fun c_15 => ?_) (fun c_15 => ?_)
      · replace hz := it_n hz c_15
        refine lv_iconst (v := 0) X.1 X.2.1 dL_law_180 (by decide) ?_
        have hret := hx _ _ _ _ (Option.some.inj hz).symm
        exact hret _ _ _ _ hw dL_law_181 (Or.inl rfl)
      · replace hz := it_p hz c_15
        refine lv_aload_n X.1 X.2.1 dL_law_89 rfl (lv_at hl 4 rfl) ?_
        refine lv_iconst (v := 0) X.1 X.2.1 dL_law_90 (by decide) ?_
        replace hz := ob_e hz
        obtain ⟨⟨r_17, b_18, w_19⟩, h_16, hz⟩ := hz
        replace hz := un_e hz
        replace hz := un_e hz
        refine kE_Vl (k := 0) (As := [.int (0 : Int32)]) (n := 79) (cel' := cW g h (b_18, w_19) v) X hl.1 hw (c_X9_joined h_16) (by decide) (cW_0 g h _ _) (cW_0 g h _ _) (cW_2 g h _ _ _) (by decide) (he_X9 g h _ _) rfl ⟨wq_14_16, wq_14_17, wq_14_18, wq_1_2, wq_14_19⟩ yo_X9_joined rfl ⟨Nat.le_of_ble_eq_true rfl, Nat.le_of_ble_eq_true rfl⟩ (Nat.le_of_ble_eq_true rfl) hcs dL_law_91 (fun H locs hw => ?_)
        refine lv_lload X.1 X.2.1 dL_law_94 (lv_at hl 1 rfl) ?_
        refine W.lcmp X.1 X.2.1 dL_law_96 ?_
        refine lv_if_ne (tgt := 180) X.1 X.2.1 dL_law_97 (by decide) (fun c_21 => ?_) (fun c_21 => ?_)
        · replace hz := it_n hz c_21
          refine lv_iconst (v := 0) X.1 X.2.1 dL_law_180 (by decide) ?_
          have hret := hx _ _ _ _ (Option.some.inj hz).symm
          exact hret _ _ _ _ hw dL_law_181 (Or.inl rfl)
        · replace hz := it_p hz c_21
          refine lv_aload_n X.1 X.2.1 dL_law_100 rfl (lv_at hl 4 rfl) ?_
          refine lv_iconst (v := 1) X.1 X.2.1 dL_law_101 (by decide) ?_
          replace hz := ob_e hz
          obtain ⟨⟨r_23, b_24, w_25⟩, h_22, hz⟩ := hz
          replace hz := un_e hz
          replace hz := un_e hz
          refine kE_Vl (k := 0) (As := [.int (1 : Int32)]) (n := 79) (cel' := cW g h (b_24, w_25) v) X hl.1 hw (c_X9_joined h_22) (by decide) (cW_0 g h _ _) (cW_0 g h _ _) (cW_2 g h _ _ _) (by decide) (he_X9 g h _ _) rfl ⟨wq_14_16, wq_14_17, wq_14_18, wq_1_2, wq_14_19⟩ yo_X9_joined rfl ⟨Nat.le_of_ble_eq_true rfl, Nat.le_of_ble_eq_true rfl⟩ (Nat.le_of_ble_eq_true rfl) hcs dL_law_102 (fun H locs hw => ?_)
          refine lv_lload X.1 X.2.1 dL_law_105 (lv_at hl 0 rfl) ?_
          refine W.lcmp X.1 X.2.1 dL_law_107 ?_
          refine lv_if_ne (tgt := 180) X.1 X.2.1 dL_law_108 (by decide) (fun c_27 => ?_) (fun c_27 => ?_)
          · replace hz := it_n hz c_27
            refine lv_iconst (v := 0) X.1 X.2.1 dL_law_180 (by decide) ?_
            have hret := hx _ _ _ _ (Option.some.inj hz).symm
            exact hret _ _ _ _ hw dL_law_181 (Or.inl rfl)
          · replace hz := it_p hz c_27
            refine lv_aload_n X.1 X.2.1 dL_law_111 rfl (lv_at hl 4 rfl) ?_
            refine lv_iconst (v := 3) X.1 X.2.1 dL_law_112 (by decide) ?_
            replace hz := ob_e hz
            obtain ⟨⟨r_29, b_30, w_31⟩, h_28, hz⟩ := hz
            replace hz := un_e hz
            replace hz := un_e hz
            refine kE_Vl (k := 0) (As := [.int (3 : Int32)]) (n := 79) (cel' := cW g h (b_30, w_31) v) X hl.1 hw (c_X9_joined h_28) (by decide) (cW_0 g h _ _) (cW_0 g h _ _) (cW_2 g h _ _ _) (by decide) (he_X9 g h _ _) rfl ⟨wq_14_16, wq_14_17, wq_14_18, wq_1_2, wq_14_19⟩ yo_X9_joined rfl ⟨Nat.le_of_ble_eq_true rfl, Nat.le_of_ble_eq_true rfl⟩ (Nat.le_of_ble_eq_true rfl) hcs dL_law_113 (fun H locs hw => ?_)
            refine lv_aload_n X.1 X.2.1 dL_law_116 rfl (lv_at hl 5 rfl) ?_
            refine lv_iconst (v := 1) X.1 X.2.1 dL_law_117 (by decide) ?_
            replace hz := gd_e hz
            obtain ⟨g_33, hz⟩ := hz
            refine lV X hw g_33 dL_law_118 ?_
            refine lv_iconst (v := 1) X.1 X.2.1 dL_law_119 (by decide) ?_
            refine lv_iadd X.1 X.2.1 dL_law_120 ?_
            refine lv_i2l X.1 X.2.1 dL_law_121 rfl ?_
            refine W.lcmp X.1 X.2.1 dL_law_122 ?_
            refine lv_if_gt (tgt := 180) X.1 X.2.1 dL_law_123 (by decide) (fun c_34 => ?_) (fun c_34 => ?_)
            · replace hz := it_p hz c_34
              refine lv_iconst (v := 0) X.1 X.2.1 dL_law_180 (by decide) ?_
              have hret := hx _ _ _ _ (Option.some.inj hz).symm
              exact hret _ _ _ _ hw dL_law_181 (Or.inl rfl)
            · replace hz := it_n hz c_34
              refine lv_aload_n X.1 X.2.1 dL_law_126 rfl (lv_at hl 4 rfl) ?_
              refine lv_iconst (v := 2) X.1 X.2.1 dL_law_127 (by decide) ?_
              replace hz := ob_e hz
              obtain ⟨⟨r_36, b_37, w_38⟩, h_35, hz⟩ := hz
              replace hz := un_e hz
              replace hz := un_e hz
              refine kE_Vl (k := 0) (As := [.int (2 : Int32)]) (n := 79) (cel' := cW g h (b_37, w_38) v) X hl.1 hw (c_X9_joined h_35) (by decide) (cW_0 g h _ _) (cW_0 g h _ _) (cW_2 g h _ _ _) (by decide) (he_X9 g h _ _) rfl ⟨wq_14_16, wq_14_17, wq_14_18, wq_1_2, wq_14_19⟩ yo_X9_joined rfl ⟨Nat.le_of_ble_eq_true rfl, Nat.le_of_ble_eq_true rfl⟩ (Nat.le_of_ble_eq_true rfl) hcs dL_law_128 (fun H locs hw => ?_)
              refine lv_aload_n X.1 X.2.1 dL_law_131 rfl (lv_at hl 4 rfl) ?_
              refine lv_iconst (v := 3) X.1 X.2.1 dL_law_132 (by decide) ?_
              replace hz := ob_e hz
              obtain ⟨⟨r_41, b_42, w_43⟩, h_40, hz⟩ := hz
              replace hz := un_e hz
              replace hz := un_e hz
              refine kE_Vl (k := 0) (As := [.int (3 : Int32)]) (n := 79) (cel' := cW g h (b_42, w_43) v) X hl.1 hw (c_X9_joined h_40) (by decide) (cW_0 g h _ _) (cW_0 g h _ _) (cW_2 g h _ _ _) (by decide) (he_X9 g h _ _) rfl ⟨wq_14_16, wq_14_17, wq_14_18, wq_1_2, wq_14_19⟩ yo_X9_joined rfl ⟨Nat.le_of_ble_eq_true rfl, Nat.le_of_ble_eq_true rfl⟩ (Nat.le_of_ble_eq_true rfl) hcs dL_law_133 (fun H locs hw => ?_)
              refine W.lcmp X.1 X.2.1 dL_law_136 ?_
              refine lv_if_lt (tgt := 180) X.1 X.2.1 dL_law_137 (by decide) (fun c_45 => ?_) (fun c_45 => ?_)
              · replace hz := it_p hz c_45
                refine lv_iconst (v := 0) X.1 X.2.1 dL_law_180 (by decide) ?_
                have hret := hx _ _ _ _ (Option.some.inj hz).symm
                exact hret _ _ _ _ hw dL_law_181 (Or.inl rfl)
              · replace hz := it_n hz c_45
                refine lv_aload_n X.1 X.2.1 dL_law_140 rfl (lv_at hl 4 rfl) ?_
                refine lv_iconst (v := 4) X.1 X.2.1 dL_law_141 (by decide) ?_
                replace hz := ob_e hz
                obtain ⟨⟨r_47, b_48, w_49⟩, h_46, hz⟩ := hz
                replace hz := un_e hz
                replace hz := un_e hz
                refine kE_Vl (k := 0) (As := [.int (4 : Int32)]) (n := 79) (cel' := cW g h (b_48, w_49) v) X hl.1 hw (c_X9_joined h_46) (by decide) (cW_0 g h _ _) (cW_0 g h _ _) (cW_2 g h _ _ _) (by decide) (he_X9 g h _ _) rfl ⟨wq_14_16, wq_14_17, wq_14_18, wq_1_2, wq_14_19⟩ yo_X9_joined rfl ⟨Nat.le_of_ble_eq_true rfl, Nat.le_of_ble_eq_true rfl⟩ (Nat.le_of_ble_eq_true rfl) hcs dL_law_142 (fun H locs hw => ?_)
                refine lv_ldc2 (v := 2) X.1 X.2.1 X.2.2.2.1 (X.2.2.2.2.1 _ wq_1_4) dL_law_145 ?_
                refine lv_aload_n X.1 X.2.1 dL_law_148 rfl (lv_at hl 5 rfl) ?_
                refine lv_iconst (v := 1) X.1 X.2.1 dL_law_149 (by decide) ?_
                replace hz := gd_e hz
                obtain ⟨g_51, hz⟩ := hz
                refine lV X hw g_51 dL_law_150 ?_
                refine lv_i2l X.1 X.2.1 dL_law_151 rfl ?_
                refine lv_lmul X.1 X.2.1 dL_law_152 ?_
                refine lv_aload_n X.1 X.2.1 dL_law_153 rfl (lv_at hl 4 rfl) ?_
                refine lv_iconst (v := 2) X.1 X.2.1 dL_law_154 (by decide) ?_
                replace hz := ob_e hz
                obtain ⟨⟨r_53, b_54, w_55⟩, h_52, hz⟩ := hz
                replace hz := un_e hz
                replace hz := un_e hz
                refine kE_Vl (k := 0) (As := [.int (2 : Int32)]) (n := 79) (cel' := cW g h (b_54, w_55) v) X hl.1 hw (c_X9_joined h_52) (by decide) (cW_0 g h _ _) (cW_0 g h _ _) (cW_2 g h _ _ _) (by decide) (he_X9 g h _ _) rfl ⟨wq_14_16, wq_14_17, wq_14_18, wq_1_2, wq_14_19⟩ yo_X9_joined rfl ⟨Nat.le_of_ble_eq_true rfl, Nat.le_of_ble_eq_true rfl⟩ (Nat.le_of_ble_eq_true rfl) hcs dL_law_155 (fun H locs hw => ?_)
                refine lv_lmul X.1 X.2.1 dL_law_158 ?_
                refine lv_topl (fun x_57 ex_57 => ?_)
                replace hz := lt_e hz ex_57
                refine W.lcmp X.1 X.2.1 dL_law_159 ?_
                refine lv_if_gt (tgt := 180) X.1 X.2.1 dL_law_160 (by decide) (fun c_58 => ?_) (fun c_58 => ?_)
                · replace hz := it_p hz c_58
                  refine lv_iconst (v := 0) X.1 X.2.1 dL_law_180 (by decide) ?_
                  have hret := hx _ _ _ _ (Option.some.inj hz).symm
                  exact hret _ _ _ _ hw dL_law_181 (Or.inl rfl)
                · replace hz := it_n hz c_58
                  refine lv_lload X.1 X.2.1 dL_law_163 (lv_at hl 1 rfl) ?_
                  refine lv_lconst (v := 0) X.1 X.2.1 dL_law_165 (by decide) ?_
                  refine W.lcmp X.1 X.2.1 dL_law_166 ?_
                  refine lv_if_le (tgt := 182) X.1 X.2.1 dL_law_167 (by decide) (fun c_59 => ?_) (fun c_59 => ?_)
                  · replace hz := it_p hz c_59
                    exact w_S182 X hX hbl hbA hcs hz hn hx hw (lv_sub hl [3, 4, 5, 6, 2, 1, 0] rfl)
                  · replace hz := it_n hz c_59
                    refine lv_aload_n X.1 X.2.1 dL_law_170 rfl (lv_at hl 4 rfl) ?_
                    refine lv_bipush (v := 6) X.1 X.2.1 dL_law_171 (by decide) ?_
                    replace hz := ob_e hz
                    obtain ⟨r_61, h_60, hz⟩ := hz
                    refine kE_Vi (k := 0) (As := [.int (6 : Int32)]) (n := 79) (cel' := cW g h (b_54, w_55) v) X hl.1 hw (c_X9_count h_60) (by decide) (cW_0 g h _ _) (cW_0 g h _ _) (cW_2 g h _ _ _) (by decide) (he_X9 g h _ _) rfl ⟨wq_10_6, wq_10_7, wq_10_8, wq_1_2, wq_10_9⟩ yo_X9_count rfl ⟨Nat.le_of_ble_eq_true rfl, Nat.le_of_ble_eq_true rfl⟩ (Nat.le_of_ble_eq_true rfl) hcs dL_law_173 (fun H locs hw => ?_)
                    refine lv_iconst (v := 1) X.1 X.2.1 dL_law_176 (by decide) ?_
                    refine lv_icmp_eq (tgt := 182) X.1 X.2.1 dL_law_177 (by decide) (fun c_62 => ?_) (fun c_62 => ?_)
                    · replace hz := it_p hz c_62
                      exact w_S182 X hX hbl hbA hcs hz hn hx hw (lv_sub hl [3, 4, 5, 6, 2, 1, 0] rfl)
                    · replace hz := it_n hz c_62
                      refine lv_iconst (v := 0) X.1 X.2.1 dL_law_180 (by decide) ?_
                      have hret := hx _ _ _ _ (Option.some.inj hz).symm
                      exact hret _ _ _ _ hw dL_law_181 (Or.inl rfl)
set_option maxHeartbeats 4000000 in
set_option maxRecDepth 100000 in
theorem w_S20 (X : Cx g p s m AV c cL_law RL 34) (hX : va_X bb L xs s s.heap) (hbl : bb < s.heap.size) (hbA : ¬ AW 80 h s.heap.size bb) (hcs : cells ≤ room_1.cells ∧ slots ≤ room_1.slots) {y3 : Int32} {b : ST} {w : Nat → ST} {v : Nat → Int32} {z : (ST × (Nat → ST) × (Nat → Int32)) ⊕ (Int32 × ST × (Nat → ST) × (Nat → Int32))} (hz : m_L_law_S20 L xs y3 b w v = some z) (hn : ∀ (b : ST) (w : Nat → ST) (v : Nat → Int32), z = .inl (b, w, v) → ∀ (H : Heap) (locs : List Loc) (ls : Array Slot), Wd g 80 h (cW g h (b, w) v) s H locs → lv_has ls 34 [(0, .ref bb), (1, .ref (h 0)), (2, .ref (h 79)), (3, .int y3)] → W p l e room_1 s m AV below meth c H locs cells slots Q (F0 m 1125 ls [])) (hx : ∀ (r : Int32) (b : ST) (w : Nat → ST) (v : Nat → Int32), z = .inr (r, b, w, v) → ∀ (H : Heap) (locs : List Loc) (pc : Nat) (ls : Array Slot), Wd g 80 h (cW g h (b, w) v) s H locs → decode cL_law pc = .ok (.ireturn, 1) → (r = 0 ∨ r = 1) → W p l e room_1 s m AV below meth c H locs cells slots Q (F0 m pc ls [.int r])) {H : Heap} {locs : List Loc} {ls : Array Slot} (hw : Wd g 80 h (cW g h (b, w) v) s H locs) (hl : lv_has ls 34 [(0, .ref (bb)), (1, .ref (h 0)), (2, .ref (h 79)), (3, .int y3)]) : W p l e room_1 s m AV below meth c H locs cells slots Q (F0 m 20 ls []) := by
  unfold m_L_law_S20 at hz
  refine lv_aload_n X.1 X.2.1 dL_law_20 rfl (lv_at hl 1 rfl) ?_
  refine lv_aload_n X.1 X.2.1 dL_law_21 rfl (lv_at hl 0 rfl) ?_
  refine lv_bipush (v := 13) X.1 X.2.1 dL_law_22 (by decide) ?_
  refine lv_iload_n X.1 X.2.1 dL_law_24 rfl (lv_at hl 3 rfl) ?_
  refine lv_imul X.1 X.2.1 dL_law_25 ?_
  refine lv_aload_n X.1 X.2.1 dL_law_26 rfl (lv_at hl 2 rfl) ?_
  replace hz := ob_e hz
  obtain ⟨⟨r_2, b_3, w_4, v_5⟩, h_1, hz⟩ := hz
  replace hz := un_e hz
  replace hz := un_e hz
  replace hz := un_e hz
  refine kX_Si (As := [.ref (h 0), .ref (bb), .int ((13 : Int32) * y3), .ref (h 79)]) (cel' := cW g h (b_3, w_4) v_5) X hX hbl hbA hl.1 hw (c_L_tells h_1) ⟨wq_5_3, wq_5_4, wq_5_5, wq_5_6⟩ yo_L_tells rfl ⟨Nat.le_of_ble_eq_true rfl, Nat.le_of_ble_eq_true rfl⟩ (Nat.le_of_ble_eq_true rfl) hcs dL_law_27 (fun H locs hw => ?_)
  refine lv_if_ne (tgt := 35) X.1 X.2.1 dL_law_30 (by decide) (fun c_7 => ?_) (fun c_7 => ?_)
  · replace hz := it_n hz c_7
    exact w_S35 X hX hbl hbA hcs hz hn hx hw (lv_sub hl [0, 1, 2, 3] rfl)
  · replace hz := it_p hz c_7
    refine lv_iconst (v := 0) X.1 X.2.1 dL_law_33 (by decide) ?_
    have hret := hx _ _ _ _ (Option.some.inj hz).symm
    exact hret _ _ _ _ hw dL_law_34 (Or.inl rfl)
end LW
