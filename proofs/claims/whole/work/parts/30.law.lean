/-! the law -/
def Y_law : YY := (⟨"TreeTonguesLaw", "law", "([I)Z"⟩, code, 4, some .boolean)
noncomputable def L_law_18 (k : Mem → Option (Int × Mem)) (v1 : Int) (v2 : Int) : Nat → Int → Mem → Option (Int × Mem)
  | 0 => fun _ _ => none
  | n + 1 => fun v3 M => if (wr ((((M.2.1 1000001).2 : Int)) - 6)) < v3 then (k  M) else ((rd M 20 1000001 v3).bind fun e29 => if ((iand e29 31) < 0 ∨ 28 < (iand e29 31)) then (L_law_18 k v1 v2 n (wr (v3 + 6)) M) else if (iand e29 31) = 0 then ((rd M 20 1000001 (wr (v3 + 1))).bind fun e169 => (ck M v1 8 8).bind fun _ => (D_T_sign v1 e169 M).bind fun x170 => (rd x170.2 20 1000001 (wr (v3 + 1))).bind fun e178 => (ck x170.2 v2 9 54).bind fun _ => (D_M_sign v2 e178 x170.2).bind fun x179 => if x170.1 = x179.1 then (L_law_18 k v1 v2 n (wr (v3 + 6)) x179.2) else (some (0, x179.2))) else if (iand e29 31) = 1 then ((rd M 20 1000001 (wr (v3 + 1))).bind fun e192 => (ck M v1 8 8).bind fun _ => (D_T_rank v1 e192 M).bind fun x193 => (rd x193.2 20 1000001 (wr (v3 + 1))).bind fun e201 => (ck x193.2 v2 9 54).bind fun _ => (D_M_rank v2 e201 x193.2).bind fun x202 => if x193.1 = x202.1 then (L_law_18 k v1 v2 n (wr (v3 + 6)) x202.2) else (some (0, x202.2))) else if (iand e29 31) = 2 then ((rd M 20 1000001 (wr (v3 + 1))).bind fun e215 => (ck M v1 8 8).bind fun _ => (D_T_put v1 e215 M).bind fun x216 => (rd x216.2 20 1000001 (wr (v3 + 1))).bind fun e224 => (ck x216.2 v2 9 54).bind fun _ => (D_M_put v2 e224 x216.2).bind fun x225 => if x216.1 = x225.1 then (L_law_18 k v1 v2 n (wr (v3 + 6)) x225.2) else (some (0, x225.2))) else if (iand e29 31) = 3 then ((ck M v1 8 8).bind fun _ => (D_T_drop v1 M).bind fun x234 => (ck x234.2 v2 9 54).bind fun _ => (D_M_drop v2 x234.2).bind fun x238 => if x234.1 = x238.1 then (L_law_18 k v1 v2 n (wr (v3 + 6)) x238.2) else (some (0, x238.2))) else if (iand e29 31) = 4 then ((rd M 20 1000001 (wr (v3 + 1))).bind fun e251 => (ck M v1 8 8).bind fun _ => (D_T_at v1 e251 M).bind fun x252 => (rd x252.2 20 1000001 (wr (v3 + 1))).bind fun e260 => (ck x252.2 v2 9 54).bind fun _ => (D_M_at v2 e260 x252.2).bind fun x261 => if x252.1 = x261.1 then (L_law_18 k v1 v2 n (wr (v3 + 6)) x261.2) else (some (0, x261.2))) else if (iand e29 31) = 5 then ((rd M 20 1000001 (wr (v3 + 1))).bind fun e274 => (ck M v1 8 8).bind fun _ => (D_T_tongue v1 e274 M).bind fun x275 => (rd x275.2 20 1000001 (wr (v3 + 1))).bind fun e283 => (ck x275.2 v2 9 54).bind fun _ => (D_M_tongue v2 e283 x275.2).bind fun x284 => if x275.1 = x284.1 then (L_law_18 k v1 v2 n (wr (v3 + 6)) x284.2) else (some (0, x284.2))) else if (iand e29 31) = 6 then ((rd M 20 1000001 (wr (v3 + 1))).bind fun e297 => (rd M 20 1000001 (wr (v3 + 2))).bind fun e302 => (rd M 20 1000001 (wr (v3 + 3))).bind fun e307 => (rd M 20 1000001 (wr (v3 + 4))).bind fun e312 => (rd M 20 1000001 (wr (v3 + 5))).bind fun e317 => (ck M v1 8 8).bind fun _ => (D_T_rule v1 e297 e302 e307 e312 e317 M).bind fun x318 => (rd x318.2 20 1000001 (wr (v3 + 1))).bind fun e326 => (rd x318.2 20 1000001 (wr (v3 + 2))).bind fun e331 => (rd x318.2 20 1000001 (wr (v3 + 3))).bind fun e336 => (rd x318.2 20 1000001 (wr (v3 + 4))).bind fun e341 => (rd x318.2 20 1000001 (wr (v3 + 5))).bind fun e346 => (ck x318.2 v2 9 54).bind fun _ => (D_M_rule v2 e326 e331 e336 e341 e346 x318.2).bind fun x347 => if x318.1 = x347.1 then (L_law_18 k v1 v2 n (wr (v3 + 6)) x347.2) else (some (0, x347.2))) else if (iand e29 31) = 7 then ((rd M 20 1000001 (wr (v3 + 1))).bind fun e360 => (rd M 20 1000001 (wr (v3 + 2))).bind fun e365 => (rd M 20 1000001 (wr (v3 + 3))).bind fun e370 => (if e370 = 0 then (some 0) else (some 1)).bind fun (t371 : Int) => (ck M v1 8 8).bind fun _ => (D_T_last v1 e360 e365 t371 M).bind fun x379 => (rd x379.2 20 1000001 (wr (v3 + 1))).bind fun e387 => (rd x379.2 20 1000001 (wr (v3 + 2))).bind fun e392 => (rd x379.2 20 1000001 (wr (v3 + 3))).bind fun e397 => (if e397 = 0 then (some 0) else (some 1)).bind fun (t398 : Int) => (ck x379.2 v2 9 54).bind fun _ => (D_M_last v2 e387 e392 t398 x379.2).bind fun x406 => if x379.1 = x406.1 then (L_law_18 k v1 v2 n (wr (v3 + 6)) x406.2) else (some (0, x406.2))) else if (iand e29 31) = 8 then ((rd M 20 1000001 (wr (v3 + 1))).bind fun e419 => (rd M 20 1000001 (wr (v3 + 2))).bind fun e424 => (rd M 20 1000001 (wr (v3 + 3))).bind fun e429 => (ck M v1 8 8).bind fun _ => (D_T_of v1 e419 e424 e429 M).bind fun x430 => (rd x430.2 20 1000001 (wr (v3 + 1))).bind fun e438 => (rd x430.2 20 1000001 (wr (v3 + 2))).bind fun e443 => (rd x430.2 20 1000001 (wr (v3 + 3))).bind fun e448 => (ck x430.2 v2 9 54).bind fun _ => (D_M_of v2 e438 e443 e448 x430.2).bind fun x449 => if x430.1 = x449.1 then (L_law_18 k v1 v2 n (wr (v3 + 6)) x449.2) else (some (0, x449.2))) else if (iand e29 31) = 9 then ((rd M 20 1000001 (wr (v3 + 1))).bind fun e462 => (ck M v1 8 8).bind fun _ => (D_T_not v1 e462 M).bind fun x463 => (rd x463.2 20 1000001 (wr (v3 + 1))).bind fun e471 => (ck x463.2 v2 9 54).bind fun _ => (D_M_not v2 e471 x463.2).bind fun x472 => if x463.1 = x472.1 then (L_law_18 k v1 v2 n (wr (v3 + 6)) x472.2) else (some (0, x472.2))) else if (iand e29 31) = 10 then ((rd M 20 1000001 (wr (v3 + 1))).bind fun e485 => (rd M 20 1000001 (wr (v3 + 2))).bind fun e490 => (ck M v1 8 8).bind fun _ => (D_T_renamed v1 e485 e490 M).bind fun x491 => (rd x491.2 20 1000001 (wr (v3 + 1))).bind fun e499 => (rd x491.2 20 1000001 (wr (v3 + 2))).bind fun e504 => (ck x491.2 v2 9 54).bind fun _ => (D_M_renamed v2 e499 e504 x491.2).bind fun x505 => if x491.1 = x505.1 then (L_law_18 k v1 v2 n (wr (v3 + 6)) x505.2) else (some (0, x505.2))) else if (iand e29 31) = 11 then ((rd M 20 1000001 (wr (v3 + 1))).bind fun e518 => (rd M 20 1000001 (wr (v3 + 2))).bind fun e523 => (ck M v1 8 8).bind fun _ => (D_T_back v1 e518 e523 M).bind fun x524 => (rd x524.2 20 1000001 (wr (v3 + 1))).bind fun e532 => (rd x524.2 20 1000001 (wr (v3 + 2))).bind fun e537 => (ck x524.2 v2 9 54).bind fun _ => (D_M_back v2 e532 e537 x524.2).bind fun x538 => if x524.1 = x538.1 then (L_law_18 k v1 v2 n (wr (v3 + 6)) x538.2) else (some (0, x538.2))) else if (iand e29 31) = 12 then ((rd M 20 1000001 (wr (v3 + 1))).bind fun e551 => (ck M v1 8 8).bind fun _ => (D_T_parts v1 e551 M).bind fun x552 => (rd x552.2 20 1000001 (wr (v3 + 1))).bind fun e560 => (ck x552.2 v2 9 54).bind fun _ => (D_M_parts v2 e560 x552.2).bind fun x561 => if x552.1 = x561.1 then (L_law_18 k v1 v2 n (wr (v3 + 6)) x561.2) else (some (0, x561.2))) else if (iand e29 31) = 13 then ((rd M 20 1000001 (wr (v3 + 1))).bind fun e574 => (ck M v1 8 8).bind fun _ => (D_T_within v1 e574 M).bind fun x575 => (rd x575.2 20 1000001 (wr (v3 + 1))).bind fun e583 => (ck x575.2 v2 9 54).bind fun _ => (D_M_within v2 e583 x575.2).bind fun x584 => if x575.1 = x584.1 then (L_law_18 k v1 v2 n (wr (v3 + 6)) x584.2) else (some (0, x584.2))) else if (iand e29 31) = 14 then ((rd M 20 1000001 (wr (v3 + 1))).bind fun e597 => (rd M 20 1000001 (wr (v3 + 2))).bind fun e602 => (rd M 20 1000001 (wr (v3 + 3))).bind fun e607 => (ck M v1 8 8).bind fun _ => (D_T_grafted v1 e597 e602 e607 M).bind fun x608 => (rd x608.2 20 1000001 (wr (v3 + 1))).bind fun e616 => (rd x608.2 20 1000001 (wr (v3 + 2))).bind fun e621 => (rd x608.2 20 1000001 (wr (v3 + 3))).bind fun e626 => (ck x608.2 v2 9 54).bind fun _ => (D_M_grafted v2 e616 e621 e626 x608.2).bind fun x627 => if x608.1 = x627.1 then (L_law_18 k v1 v2 n (wr (v3 + 6)) x627.2) else (some (0, x627.2))) else if (iand e29 31) = 15 then ((ck M v1 8 8).bind fun _ => (D_T_undo v1 M).bind fun x636 => (ck x636.2 v2 9 54).bind fun _ => (D_M_undo v2 x636.2).bind fun x640 => if x636.1 = x640.1 then (L_law_18 k v1 v2 n (wr (v3 + 6)) x640.2) else (some (0, x640.2))) else if (iand e29 31) = 16 then ((rd M 20 1000001 (wr (v3 + 1))).bind fun e653 => (ck M v1 8 8).bind fun _ => (D_T_classes v1 e653 M).bind fun x654 => (rd x654.2 20 1000001 (wr (v3 + 1))).bind fun e662 => (ck x654.2 v2 9 54).bind fun _ => (D_M_classes v2 e662 x654.2).bind fun x663 => if x654.1 = x663.1 then (L_law_18 k v1 v2 n (wr (v3 + 6)) x663.2) else (some (0, x663.2))) else if (iand e29 31) = 17 then ((rd M 20 1000001 (wr (v3 + 1))).bind fun e676 => (rd M 20 1000001 (wr (v3 + 2))).bind fun e681 => (rd M 20 1000001 (wr (v3 + 3))).bind fun e686 => (rd M 20 1000001 (wr (v3 + 4))).bind fun e691 => (ck M v1 8 8).bind fun _ => (D_T_go v1 e676 e681 e686 e691 M).bind fun x692 => (rd x692.2 20 1000001 (wr (v3 + 1))).bind fun e700 => (rd x692.2 20 1000001 (wr (v3 + 2))).bind fun e705 => (rd x692.2 20 1000001 (wr (v3 + 3))).bind fun e710 => (rd x692.2 20 1000001 (wr (v3 + 4))).bind fun e715 => (ck x692.2 v2 9 54).bind fun _ => (D_M_go v2 e700 e705 e710 e715 x692.2).bind fun x716 => if x692.1 = x716.1 then (L_law_18 k v1 v2 n (wr (v3 + 6)) x716.2) else (some (0, x716.2))) else if (iand e29 31) = 18 then ((rd M 20 1000001 (wr (v3 + 1))).bind fun e729 => (rd M 20 1000001 (wr (v3 + 2))).bind fun e734 => (ck M v1 8 8).bind fun _ => (D_T_isLast v1 e729 e734 M).bind fun x735 => (rd x735.2 20 1000001 (wr (v3 + 1))).bind fun e743 => (rd x735.2 20 1000001 (wr (v3 + 2))).bind fun e748 => (ck x735.2 v2 9 54).bind fun _ => (D_M_isLast v2 e743 e748 x735.2).bind fun x749 => if x735.1 = x749.1 then (L_law_18 k v1 v2 n (wr (v3 + 6)) x749.2) else (some (0, x749.2))) else if (iand e29 31) = 19 then ((rd M 20 1000001 (wr (v3 + 1))).bind fun e762 => (rd M 20 1000001 (wr (v3 + 2))).bind fun e767 => (ck M v1 8 8).bind fun _ => (D_T_size v1 e762 e767 M).bind fun x768 => (rd x768.2 20 1000001 (wr (v3 + 1))).bind fun e776 => (rd x768.2 20 1000001 (wr (v3 + 2))).bind fun e781 => (ck x768.2 v2 9 54).bind fun _ => (D_M_size v2 e776 e781 x768.2).bind fun x782 => if x768.1 = x782.1 then (L_law_18 k v1 v2 n (wr (v3 + 6)) x782.2) else (some (0, x782.2))) else if (iand e29 31) = 20 then ((rd M 20 1000001 (wr (v3 + 1))).bind fun e795 => (ck M v1 8 8).bind fun _ => (D_T_classOf v1 e795 M).bind fun x796 => (rd x796.2 20 1000001 (wr (v3 + 1))).bind fun e804 => (ck x796.2 v2 9 54).bind fun _ => (D_M_classOf v2 e804 x796.2).bind fun x805 => if x796.1 = x805.1 then (L_law_18 k v1 v2 n (wr (v3 + 6)) x805.2) else (some (0, x805.2))) else if (iand e29 31) = 21 then ((rd M 20 1000001 (wr (v3 + 1))).bind fun e818 => (ck M v1 8 8).bind fun _ => (D_T_has v1 e818 M).bind fun x819 => (rd x819.2 20 1000001 (wr (v3 + 1))).bind fun e827 => (ck x819.2 v2 9 54).bind fun _ => (D_M_has v2 e827 x819.2).bind fun x828 => if x819.1 = x828.1 then (L_law_18 k v1 v2 n (wr (v3 + 6)) x828.2) else (some (0, x828.2))) else if (iand e29 31) = 22 then ((rd M 20 1000001 (wr (v3 + 1))).bind fun e841 => (ck M v1 8 8).bind fun _ => (D_T_least v1 e841 M).bind fun x842 => (rd x842.2 20 1000001 (wr (v3 + 1))).bind fun e850 => (ck x842.2 v2 9 54).bind fun _ => (D_M_least v2 e850 x842.2).bind fun x851 => if x842.1 = x851.1 then (L_law_18 k v1 v2 n (wr (v3 + 6)) x851.2) else (some (0, x851.2))) else if (iand e29 31) = 23 then ((rd M 20 1000001 (wr (v3 + 1))).bind fun e864 => (rd M 20 1000001 (wr (v3 + 2))).bind fun e869 => (ck M v1 8 8).bind fun _ => (D_T_unlike v1 e864 e869 M).bind fun x870 => (rd x870.2 20 1000001 (wr (v3 + 1))).bind fun e878 => (rd x870.2 20 1000001 (wr (v3 + 2))).bind fun e883 => (ck x870.2 v2 9 54).bind fun _ => (D_M_unlike v2 e878 e883 x870.2).bind fun x884 => if x870.1 = x884.1 then (L_law_18 k v1 v2 n (wr (v3 + 6)) x884.2) else (some (0, x884.2))) else if (iand e29 31) = 24 then ((rd M 20 1000001 (wr (v3 + 1))).bind fun e897 => (ck M v1 8 8).bind fun _ => (D_T_ends v1 e897 M).bind fun x898 => (rd x898.2 20 1000001 (wr (v3 + 1))).bind fun e906 => (ck x898.2 v2 9 54).bind fun _ => (D_M_ends v2 e906 x898.2).bind fun x907 => if x898.1 = x907.1 then (L_law_18 k v1 v2 n (wr (v3 + 6)) x907.2) else (some (0, x907.2))) else if (iand e29 31) = 25 then ((rd M 20 1000001 (wr (v3 + 1))).bind fun e920 => (rd M 20 1000001 (wr (v3 + 2))).bind fun e925 => (ck M v1 8 8).bind fun _ => (D_T_count v1 e920 e925 M).bind fun x926 => (rd x926.2 20 1000001 (wr (v3 + 1))).bind fun e934 => (rd x926.2 20 1000001 (wr (v3 + 2))).bind fun e939 => (ck x926.2 v2 9 54).bind fun _ => (D_M_count v2 e934 e939 x926.2).bind fun x940 => if (lc x926.1 x940.1) = 0 then (L_law_18 k v1 v2 n (wr (v3 + 6)) x940.2) else (some (0, x940.2))) else if (iand e29 31) = 26 then ((rd M 20 1000001 (wr (v3 + 1))).bind fun e954 => (rd M 20 1000001 (wr (v3 + 2))).bind fun e959 => (rd M 20 1000001 (wr (v3 + 3))).bind fun e968 => (ck M v1 8 8).bind fun _ => (D_T_tree v1 e954 (lrr (lsl e959 32) (lnd e968 4294967295)) M).bind fun x975 => (rd x975.2 20 1000001 (wr (v3 + 1))).bind fun e983 => (rd x975.2 20 1000001 (wr (v3 + 2))).bind fun e988 => (rd x975.2 20 1000001 (wr (v3 + 3))).bind fun e997 => (ck x975.2 v2 9 54).bind fun _ => (D_M_tree v2 e983 (lrr (lsl e988 32) (lnd e997 4294967295)) x975.2).bind fun x1004 => if x975.1 = x1004.1 then (L_law_18 k v1 v2 n (wr (v3 + 6)) x1004.2) else (some (0, x1004.2))) else if (iand e29 31) = 27 then ((rd M 20 1000001 (wr (v3 + 1))).bind fun e1017 => (ck M v1 8 8).bind fun _ => (D_T_place v1 e1017 M).bind fun x1018 => (rd x1018.2 20 1000001 (wr (v3 + 1))).bind fun e1026 => (ck x1018.2 v2 9 54).bind fun _ => (D_M_place v2 e1026 x1018.2).bind fun x1027 => if (lc x1018.1 x1027.1) = 0 then (L_law_18 k v1 v2 n (wr (v3 + 6)) x1027.2) else (some (0, x1027.2))) else ((rd M 20 1000001 (wr (v3 + 1))).bind fun e1041 => (ck M v1 8 8).bind fun _ => (D_T_told v1 e1041 M).bind fun x1042 => (rd x1042.2 20 1000001 (wr (v3 + 1))).bind fun e1050 => (ck x1042.2 v2 9 54).bind fun _ => (D_M_told v2 e1050 x1042.2).bind fun x1051 => if x1042.1 = x1051.1 then (L_law_18 k v1 v2 n (wr (v3 + 6)) x1051.2) else (some (0, x1051.2))))
noncomputable def D_law (M : Mem) : Option (Int × Mem) := (nw M 8 8).bind fun x0 => (ck x0.2 x0.1 8 8).bind fun _ => (D_T_init x0.1 x0.2).bind fun x4 => (nw x4 9 54).bind fun x8 => (ck x8.2 x8.1 9 54).bind fun _ => (D_M_init x8.1 x8.2).bind fun x12 => L_law_18 (fun  m18 => some (1, m18)) x0.1 x8.1 LF 0 x12
set_option maxRecDepth 100000 in
theorem sL_law_18 {d mc ms : Nat} (hd : 130 ≤ d) {r : Int × Mem} {k : Mem → Option (Int × Mem)} {v1 : Int} {v2 : Int} (hk : ∀ (ca sl : Nat) (M : Mem), ca ≤ mc → sl ≤ ms → k M = some r → Rn Y_law d mc ms ca sl (some (0, r.1), r.2) 1065 [] [] M) : ∀ (n ca sl : Nat) (v3 : Int) (M : Mem), ca + 12 * n ≤ mc → sl + 676 * n ≤ ms → L_law_18 k v1 v2 n v3 M = some r → Rn Y_law d mc ms ca sl (some (0, r.1), r.2) 18 [(0, (2, 1000001)), (1, (2, v1)), (2, (2, v2)), (3, (0, v3))] [] M := by
  intro n
  induction n with
  | zero => intro _ _ _ _ _ _ h; cases h
  | succ n ih =>
    intro ca sl v3 M hb1 hb2 h
    rw [L_law_18] at h
    refine r_iload_n (pc := 18) 3 (n := 3) (by decide +kernel) rfl rfl ?_
    refine r_aload_n (pc := 19) 0 (n := 0) (by decide +kernel) rfl rfl ?_
    refine r_slen (pc := 20) (by decide +kernel) rfl ?_
    refine r_bipush (pc := 21) (z := 6) (by decide +kernel) ⟨by decide, by decide⟩ ?_
    refine r_isub (pc := 23) (by decide +kernel) ?_
    refine r_icmp_gt (pc := 24) (off := 1041) (tgt := 1065) (by decide +kernel) (by decide) (fun c24 => ?_) (fun c24 => ?_)
    · have h := ite_t c24 h
      refine r_lv [] rfl ?_
      exact hk _ _  M (by omega) (by omega) h
    · have h := ite_f c24 h
      refine r_aload_n (pc := 27) 0 (n := 0) (by decide +kernel) rfl rfl ?_
      refine r_iload_n (pc := 28) 3 (n := 3) (by decide +kernel) rfl rfl ?_
      obtain ⟨e29, q29, h⟩ := bnd h
      refine r_sld (pc := 29) (by decide +kernel) q29 ?_
      refine r_bipush (pc := 30) (z := 31) (by decide +kernel) ⟨by decide, by decide⟩ ?_
      refine r_iand (pc := 32) (by decide +kernel) ?_
      refine r_table (pc := 33) (dflt := 1026) (lo := 0) (hi := 28) (offs := #[131, 154, 177, 200, 213, 236, 259, 322, 381, 424, 447, 480, 513, 536, 559, 602, 615, 638, 691, 724, 757, 780, 803, 826, 859, 882, 916, 979, 1003]) (len := 131) (z := iand e29 31) (tg := fun j => [164, 187, 210, 233, 246, 269, 292, 355, 414, 457, 480, 513, 546, 569, 592, 635, 648, 671, 724, 757, 790, 813, 836, 859, 892, 915, 949, 1012, 1036].getD j 0) (dt := 1059) (by decide +kernel) (by decide) (fun j hj => tb_of (N := 29) 33 #[131, 154, 177, 200, 213, 236, 259, 322, 381, 424, 447, 480, 513, 536, 559, 602, 615, 638, 691, 724, 757, 780, 803, 826, 859, 882, 916, 979, 1003] (fun j => [164, 187, 210, 233, 246, 269, 292, 355, 414, 457, 480, 513, 546, 569, 592, 635, 648, 671, 724, 757, 790, 813, 836, 859, 892, 915, 949, 1012, 1036].getD j 0) (by decide +kernel) j (by omega)) (fun c33 => ?_) (fun j hz hj => ?_)
      · have h := ite_t c33 h
        refine r_iinc (pc := 1059) 3 (n := 6) (lv' := [(3, (0, wr (v3 + 6))), (0, (2, 1000001)), (1, (2, v1)), (2, (2, v2))]) (by decide +kernel) rfl (Nat.le_of_ble_eq_true rfl) rfl ?_
        refine r_goto (pc := 1062) (off := (-1044)) (tgt := 18) (by decide +kernel) (by decide) ?_
        refine r_lv [1, 2, 3, 0] rfl ?_
        exact ih _ _ (wr (v3 + 6)) M (by omega) (by omega) h
      · have h := ite_f (show ¬ ((iand e29 31) < 0 ∨ 28 < (iand e29 31)) by omega) h
        by_cases e0 : (iand e29 31) = 0
        · have h := ite_t e0 h
          obtain rfl : j = 0 := by omega
          show Rn _ d _ _ ca sl _ 164 [(0, (2, 1000001)), (1, (2, v1)), (2, (2, v2)), (3, (0, v3))] [] M
          refine r_aload_n (pc := 164) 1 (n := 1) (by decide +kernel) rfl rfl ?_
          refine r_aload_n (pc := 165) 0 (n := 0) (by decide +kernel) rfl rfl ?_
          refine r_iload_n (pc := 166) 3 (n := 3) (by decide +kernel) rfl rfl ?_
          refine r_iconst (pc := 167) (z := 1) (by decide +kernel) ⟨by decide, by decide⟩ ?_
          refine r_iadd (pc := 168) (by decide +kernel) ?_
          obtain ⟨e169, q169, h⟩ := bnd h
          refine r_sld (pc := 169) (by decide +kernel) q169 ?_
          obtain ⟨_, q170c, h⟩ := bnd h
          obtain ⟨x170, q170, h⟩ := bnd h
          refine r_callV (pc := 170) (i := 13) (d2 := d - 1) (As := [(0, e169)]) (st := []) (st1 := [(0, e169), (2, v1)]) (by decide +kernel) yk_T_sign (by decide) rfl ⟨ml_law_13, vk_T_sign⟩ np_T_sign rfl (by omega) q170c (c_T_sign (d := d - 1) (by omega) q170) (Nat.le_of_ble_eq_true rfl) (by omega) (by omega) rfl ?_
          show Rn _ d _ _ ca sl _ 173 [(0, (2, 1000001)), (1, (2, v1)), (2, (2, v2)), (3, (0, v3))] [(0, x170.1)] x170.2
          refine r_aload_n (pc := 173) 2 (n := 2) (by decide +kernel) rfl rfl ?_
          refine r_aload_n (pc := 174) 0 (n := 0) (by decide +kernel) rfl rfl ?_
          refine r_iload_n (pc := 175) 3 (n := 3) (by decide +kernel) rfl rfl ?_
          refine r_iconst (pc := 176) (z := 1) (by decide +kernel) ⟨by decide, by decide⟩ ?_
          refine r_iadd (pc := 177) (by decide +kernel) ?_
          obtain ⟨e178, q178, h⟩ := bnd h
          refine r_sld (pc := 178) (by decide +kernel) q178 ?_
          obtain ⟨_, q179c, h⟩ := bnd h
          obtain ⟨x179, q179, h⟩ := bnd h
          refine r_callV (pc := 179) (i := 17) (d2 := d - 1) (As := [(0, e178)]) (st := [(0, x170.1)]) (st1 := [(0, e178), (2, v2), (0, x170.1)]) (by decide +kernel) yk_M_sign (by decide) rfl ⟨ml_law_17, vk_M_sign⟩ np_M_sign rfl (by omega) q179c (c_M_sign (d := d - 1) (by omega) q179) (Nat.le_of_ble_eq_true rfl) (by omega) (by omega) rfl ?_
          show Rn _ d _ _ ca sl _ 182 [(0, (2, 1000001)), (1, (2, v1)), (2, (2, v2)), (3, (0, v3))] [(0, x179.1), (0, x170.1)] x179.2
          refine r_icmp_eq (pc := 182) (off := 877) (tgt := 1059) (by decide +kernel) (by decide) (fun c182 => ?_) (fun c182 => ?_)
          · have h := ite_t c182 h
            refine r_iinc (pc := 1059) 3 (n := 6) (lv' := [(3, (0, wr (v3 + 6))), (0, (2, 1000001)), (1, (2, v1)), (2, (2, v2))]) (by decide +kernel) rfl (Nat.le_of_ble_eq_true rfl) rfl ?_
            refine r_goto (pc := 1062) (off := (-1044)) (tgt := 18) (by decide +kernel) (by decide) ?_
            refine r_lv [1, 2, 3, 0] rfl ?_
            exact ih _ _ (wr (v3 + 6)) x179.2 (by omega) (by omega) h
          · have h := ite_f c182 h
            refine r_iconst (pc := 185) (z := 0) (by decide +kernel) ⟨by decide, by decide⟩ ?_
            obtain rfl := Option.some.inj h
            exact r_ret (pc := 186) (r := some (0, 0)) (by decide +kernel) rfl (Or.inl rfl) (by omega) (by omega)
        · have h := ite_f e0 h
          by_cases e1 : (iand e29 31) = 1
          · have h := ite_t e1 h
            obtain rfl : j = 1 := by omega
            show Rn _ d _ _ ca sl _ 187 [(0, (2, 1000001)), (1, (2, v1)), (2, (2, v2)), (3, (0, v3))] [] M
            refine r_aload_n (pc := 187) 1 (n := 1) (by decide +kernel) rfl rfl ?_
            refine r_aload_n (pc := 188) 0 (n := 0) (by decide +kernel) rfl rfl ?_
            refine r_iload_n (pc := 189) 3 (n := 3) (by decide +kernel) rfl rfl ?_
            refine r_iconst (pc := 190) (z := 1) (by decide +kernel) ⟨by decide, by decide⟩ ?_
            refine r_iadd (pc := 191) (by decide +kernel) ?_
            obtain ⟨e192, q192, h⟩ := bnd h
            refine r_sld (pc := 192) (by decide +kernel) q192 ?_
            obtain ⟨_, q193c, h⟩ := bnd h
            obtain ⟨x193, q193, h⟩ := bnd h
            refine r_callV (pc := 193) (i := 18) (d2 := d - 1) (As := [(0, e192)]) (st := []) (st1 := [(0, e192), (2, v1)]) (by decide +kernel) yk_T_rank (by decide) rfl ⟨ml_law_18, vk_T_rank⟩ np_T_rank rfl (by omega) q193c (c_T_rank (d := d - 1) (by omega) q193) (Nat.le_of_ble_eq_true rfl) (by omega) (by omega) rfl ?_
            show Rn _ d _ _ ca sl _ 196 [(0, (2, 1000001)), (1, (2, v1)), (2, (2, v2)), (3, (0, v3))] [(0, x193.1)] x193.2
            refine r_aload_n (pc := 196) 2 (n := 2) (by decide +kernel) rfl rfl ?_
            refine r_aload_n (pc := 197) 0 (n := 0) (by decide +kernel) rfl rfl ?_
            refine r_iload_n (pc := 198) 3 (n := 3) (by decide +kernel) rfl rfl ?_
            refine r_iconst (pc := 199) (z := 1) (by decide +kernel) ⟨by decide, by decide⟩ ?_
            refine r_iadd (pc := 200) (by decide +kernel) ?_
            obtain ⟨e201, q201, h⟩ := bnd h
            refine r_sld (pc := 201) (by decide +kernel) q201 ?_
            obtain ⟨_, q202c, h⟩ := bnd h
            obtain ⟨x202, q202, h⟩ := bnd h
            refine r_callV (pc := 202) (i := 21) (d2 := d - 1) (As := [(0, e201)]) (st := [(0, x193.1)]) (st1 := [(0, e201), (2, v2), (0, x193.1)]) (by decide +kernel) yk_M_rank (by decide) rfl ⟨ml_law_21, vk_M_rank⟩ np_M_rank rfl (by omega) q202c (c_M_rank (d := d - 1) (by omega) q202) (Nat.le_of_ble_eq_true rfl) (by omega) (by omega) rfl ?_
            show Rn _ d _ _ ca sl _ 205 [(0, (2, 1000001)), (1, (2, v1)), (2, (2, v2)), (3, (0, v3))] [(0, x202.1), (0, x193.1)] x202.2
            refine r_icmp_eq (pc := 205) (off := 854) (tgt := 1059) (by decide +kernel) (by decide) (fun c205 => ?_) (fun c205 => ?_)
            · have h := ite_t c205 h
              refine r_iinc (pc := 1059) 3 (n := 6) (lv' := [(3, (0, wr (v3 + 6))), (0, (2, 1000001)), (1, (2, v1)), (2, (2, v2))]) (by decide +kernel) rfl (Nat.le_of_ble_eq_true rfl) rfl ?_
              refine r_goto (pc := 1062) (off := (-1044)) (tgt := 18) (by decide +kernel) (by decide) ?_
              refine r_lv [1, 2, 3, 0] rfl ?_
              exact ih _ _ (wr (v3 + 6)) x202.2 (by omega) (by omega) h
            · have h := ite_f c205 h
              refine r_iconst (pc := 208) (z := 0) (by decide +kernel) ⟨by decide, by decide⟩ ?_
              obtain rfl := Option.some.inj h
              exact r_ret (pc := 209) (r := some (0, 0)) (by decide +kernel) rfl (Or.inl rfl) (by omega) (by omega)
          · have h := ite_f e1 h
            by_cases e2 : (iand e29 31) = 2
            · have h := ite_t e2 h
              obtain rfl : j = 2 := by omega
              show Rn _ d _ _ ca sl _ 210 [(0, (2, 1000001)), (1, (2, v1)), (2, (2, v2)), (3, (0, v3))] [] M
              refine r_aload_n (pc := 210) 1 (n := 1) (by decide +kernel) rfl rfl ?_
              refine r_aload_n (pc := 211) 0 (n := 0) (by decide +kernel) rfl rfl ?_
              refine r_iload_n (pc := 212) 3 (n := 3) (by decide +kernel) rfl rfl ?_
              refine r_iconst (pc := 213) (z := 1) (by decide +kernel) ⟨by decide, by decide⟩ ?_
              refine r_iadd (pc := 214) (by decide +kernel) ?_
              obtain ⟨e215, q215, h⟩ := bnd h
              refine r_sld (pc := 215) (by decide +kernel) q215 ?_
              obtain ⟨_, q216c, h⟩ := bnd h
              obtain ⟨x216, q216, h⟩ := bnd h
              refine r_callV (pc := 216) (i := 22) (d2 := d - 1) (As := [(0, e215)]) (st := []) (st1 := [(0, e215), (2, v1)]) (by decide +kernel) yk_T_put (by decide) rfl ⟨ml_law_22, vk_T_put⟩ np_T_put rfl (by omega) q216c (c_T_put (d := d - 1) (by omega) q216) (Nat.le_of_ble_eq_true rfl) (by omega) (by omega) rfl ?_
              show Rn _ d _ _ ca sl _ 219 [(0, (2, 1000001)), (1, (2, v1)), (2, (2, v2)), (3, (0, v3))] [(0, x216.1)] x216.2
              refine r_aload_n (pc := 219) 2 (n := 2) (by decide +kernel) rfl rfl ?_
              refine r_aload_n (pc := 220) 0 (n := 0) (by decide +kernel) rfl rfl ?_
              refine r_iload_n (pc := 221) 3 (n := 3) (by decide +kernel) rfl rfl ?_
              refine r_iconst (pc := 222) (z := 1) (by decide +kernel) ⟨by decide, by decide⟩ ?_
              refine r_iadd (pc := 223) (by decide +kernel) ?_
              obtain ⟨e224, q224, h⟩ := bnd h
              refine r_sld (pc := 224) (by decide +kernel) q224 ?_
              obtain ⟨_, q225c, h⟩ := bnd h
              obtain ⟨x225, q225, h⟩ := bnd h
              refine r_callV (pc := 225) (i := 25) (d2 := d - 1) (As := [(0, e224)]) (st := [(0, x216.1)]) (st1 := [(0, e224), (2, v2), (0, x216.1)]) (by decide +kernel) yk_M_put (by decide) rfl ⟨ml_law_25, vk_M_put⟩ np_M_put rfl (by omega) q225c (c_M_put (d := d - 1) (by omega) q225) (Nat.le_of_ble_eq_true rfl) (by omega) (by omega) rfl ?_
              show Rn _ d _ _ ca sl _ 228 [(0, (2, 1000001)), (1, (2, v1)), (2, (2, v2)), (3, (0, v3))] [(0, x225.1), (0, x216.1)] x225.2
              refine r_icmp_eq (pc := 228) (off := 831) (tgt := 1059) (by decide +kernel) (by decide) (fun c228 => ?_) (fun c228 => ?_)
              · have h := ite_t c228 h
                refine r_iinc (pc := 1059) 3 (n := 6) (lv' := [(3, (0, wr (v3 + 6))), (0, (2, 1000001)), (1, (2, v1)), (2, (2, v2))]) (by decide +kernel) rfl (Nat.le_of_ble_eq_true rfl) rfl ?_
                refine r_goto (pc := 1062) (off := (-1044)) (tgt := 18) (by decide +kernel) (by decide) ?_
                refine r_lv [1, 2, 3, 0] rfl ?_
                exact ih _ _ (wr (v3 + 6)) x225.2 (by omega) (by omega) h
              · have h := ite_f c228 h
                refine r_iconst (pc := 231) (z := 0) (by decide +kernel) ⟨by decide, by decide⟩ ?_
                obtain rfl := Option.some.inj h
                exact r_ret (pc := 232) (r := some (0, 0)) (by decide +kernel) rfl (Or.inl rfl) (by omega) (by omega)
            · have h := ite_f e2 h
              by_cases e3 : (iand e29 31) = 3
              · have h := ite_t e3 h
                obtain rfl : j = 3 := by omega
                show Rn _ d _ _ ca sl _ 233 [(0, (2, 1000001)), (1, (2, v1)), (2, (2, v2)), (3, (0, v3))] [] M
                refine r_aload_n (pc := 233) 1 (n := 1) (by decide +kernel) rfl rfl ?_
                obtain ⟨_, q234c, h⟩ := bnd h
                obtain ⟨x234, q234, h⟩ := bnd h
                refine r_callV (pc := 234) (i := 26) (d2 := d - 1) (As := []) (st := []) (st1 := [(2, v1)]) (by decide +kernel) yk_T_drop (by decide) rfl ⟨ml_law_26, vk_T_drop⟩ np_T_drop rfl (by omega) q234c (c_T_drop (d := d - 1) (by omega) q234) (Nat.le_of_ble_eq_true rfl) (by omega) (by omega) rfl ?_
                show Rn _ d _ _ ca sl _ 237 [(0, (2, 1000001)), (1, (2, v1)), (2, (2, v2)), (3, (0, v3))] [(0, x234.1)] x234.2
                refine r_aload_n (pc := 237) 2 (n := 2) (by decide +kernel) rfl rfl ?_
                obtain ⟨_, q238c, h⟩ := bnd h
                obtain ⟨x238, q238, h⟩ := bnd h
                refine r_callV (pc := 238) (i := 30) (d2 := d - 1) (As := []) (st := [(0, x234.1)]) (st1 := [(2, v2), (0, x234.1)]) (by decide +kernel) yk_M_drop (by decide) rfl ⟨ml_law_30, vk_M_drop⟩ np_M_drop rfl (by omega) q238c (c_M_drop (d := d - 1) (by omega) q238) (Nat.le_of_ble_eq_true rfl) (by omega) (by omega) rfl ?_
                show Rn _ d _ _ ca sl _ 241 [(0, (2, 1000001)), (1, (2, v1)), (2, (2, v2)), (3, (0, v3))] [(0, x238.1), (0, x234.1)] x238.2
                refine r_icmp_eq (pc := 241) (off := 818) (tgt := 1059) (by decide +kernel) (by decide) (fun c241 => ?_) (fun c241 => ?_)
                · have h := ite_t c241 h
                  refine r_iinc (pc := 1059) 3 (n := 6) (lv' := [(3, (0, wr (v3 + 6))), (0, (2, 1000001)), (1, (2, v1)), (2, (2, v2))]) (by decide +kernel) rfl (Nat.le_of_ble_eq_true rfl) rfl ?_
                  refine r_goto (pc := 1062) (off := (-1044)) (tgt := 18) (by decide +kernel) (by decide) ?_
                  refine r_lv [1, 2, 3, 0] rfl ?_
                  exact ih _ _ (wr (v3 + 6)) x238.2 (by omega) (by omega) h
                · have h := ite_f c241 h
                  refine r_iconst (pc := 244) (z := 0) (by decide +kernel) ⟨by decide, by decide⟩ ?_
                  obtain rfl := Option.some.inj h
                  exact r_ret (pc := 245) (r := some (0, 0)) (by decide +kernel) rfl (Or.inl rfl) (by omega) (by omega)
              · have h := ite_f e3 h
                by_cases e4 : (iand e29 31) = 4
                · have h := ite_t e4 h
                  obtain rfl : j = 4 := by omega
                  show Rn _ d _ _ ca sl _ 246 [(0, (2, 1000001)), (1, (2, v1)), (2, (2, v2)), (3, (0, v3))] [] M
                  refine r_aload_n (pc := 246) 1 (n := 1) (by decide +kernel) rfl rfl ?_
                  refine r_aload_n (pc := 247) 0 (n := 0) (by decide +kernel) rfl rfl ?_
                  refine r_iload_n (pc := 248) 3 (n := 3) (by decide +kernel) rfl rfl ?_
                  refine r_iconst (pc := 249) (z := 1) (by decide +kernel) ⟨by decide, by decide⟩ ?_
                  refine r_iadd (pc := 250) (by decide +kernel) ?_
                  obtain ⟨e251, q251, h⟩ := bnd h
                  refine r_sld (pc := 251) (by decide +kernel) q251 ?_
                  obtain ⟨_, q252c, h⟩ := bnd h
                  obtain ⟨x252, q252, h⟩ := bnd h
                  refine r_callV (pc := 252) (i := 31) (d2 := d - 1) (As := [(0, e251)]) (st := []) (st1 := [(0, e251), (2, v1)]) (by decide +kernel) yk_T_at (by decide) rfl ⟨ml_law_31, vk_T_at⟩ np_T_at rfl (by omega) q252c (c_T_at (d := d - 1) (by omega) q252) (Nat.le_of_ble_eq_true rfl) (by omega) (by omega) rfl ?_
                  show Rn _ d _ _ ca sl _ 255 [(0, (2, 1000001)), (1, (2, v1)), (2, (2, v2)), (3, (0, v3))] [(0, x252.1)] x252.2
                  refine r_aload_n (pc := 255) 2 (n := 2) (by decide +kernel) rfl rfl ?_
                  refine r_aload_n (pc := 256) 0 (n := 0) (by decide +kernel) rfl rfl ?_
                  refine r_iload_n (pc := 257) 3 (n := 3) (by decide +kernel) rfl rfl ?_
                  refine r_iconst (pc := 258) (z := 1) (by decide +kernel) ⟨by decide, by decide⟩ ?_
                  refine r_iadd (pc := 259) (by decide +kernel) ?_
                  obtain ⟨e260, q260, h⟩ := bnd h
                  refine r_sld (pc := 260) (by decide +kernel) q260 ?_
                  obtain ⟨_, q261c, h⟩ := bnd h
                  obtain ⟨x261, q261, h⟩ := bnd h
                  refine r_callV (pc := 261) (i := 34) (d2 := d - 1) (As := [(0, e260)]) (st := [(0, x252.1)]) (st1 := [(0, e260), (2, v2), (0, x252.1)]) (by decide +kernel) yk_M_at (by decide) rfl ⟨ml_law_34, vk_M_at⟩ np_M_at rfl (by omega) q261c (c_M_at (d := d - 1) (by omega) q261) (Nat.le_of_ble_eq_true rfl) (by omega) (by omega) rfl ?_
                  show Rn _ d _ _ ca sl _ 264 [(0, (2, 1000001)), (1, (2, v1)), (2, (2, v2)), (3, (0, v3))] [(0, x261.1), (0, x252.1)] x261.2
                  refine r_icmp_eq (pc := 264) (off := 795) (tgt := 1059) (by decide +kernel) (by decide) (fun c264 => ?_) (fun c264 => ?_)
                  · have h := ite_t c264 h
                    refine r_iinc (pc := 1059) 3 (n := 6) (lv' := [(3, (0, wr (v3 + 6))), (0, (2, 1000001)), (1, (2, v1)), (2, (2, v2))]) (by decide +kernel) rfl (Nat.le_of_ble_eq_true rfl) rfl ?_
                    refine r_goto (pc := 1062) (off := (-1044)) (tgt := 18) (by decide +kernel) (by decide) ?_
                    refine r_lv [1, 2, 3, 0] rfl ?_
                    exact ih _ _ (wr (v3 + 6)) x261.2 (by omega) (by omega) h
                  · have h := ite_f c264 h
                    refine r_iconst (pc := 267) (z := 0) (by decide +kernel) ⟨by decide, by decide⟩ ?_
                    obtain rfl := Option.some.inj h
                    exact r_ret (pc := 268) (r := some (0, 0)) (by decide +kernel) rfl (Or.inl rfl) (by omega) (by omega)
                · have h := ite_f e4 h
                  by_cases e5 : (iand e29 31) = 5
                  · have h := ite_t e5 h
                    obtain rfl : j = 5 := by omega
                    show Rn _ d _ _ ca sl _ 269 [(0, (2, 1000001)), (1, (2, v1)), (2, (2, v2)), (3, (0, v3))] [] M
                    refine r_aload_n (pc := 269) 1 (n := 1) (by decide +kernel) rfl rfl ?_
                    refine r_aload_n (pc := 270) 0 (n := 0) (by decide +kernel) rfl rfl ?_
                    refine r_iload_n (pc := 271) 3 (n := 3) (by decide +kernel) rfl rfl ?_
                    refine r_iconst (pc := 272) (z := 1) (by decide +kernel) ⟨by decide, by decide⟩ ?_
                    refine r_iadd (pc := 273) (by decide +kernel) ?_
                    obtain ⟨e274, q274, h⟩ := bnd h
                    refine r_sld (pc := 274) (by decide +kernel) q274 ?_
                    obtain ⟨_, q275c, h⟩ := bnd h
                    obtain ⟨x275, q275, h⟩ := bnd h
                    refine r_callV (pc := 275) (i := 35) (d2 := d - 1) (As := [(0, e274)]) (st := []) (st1 := [(0, e274), (2, v1)]) (by decide +kernel) yk_T_tongue (by decide) rfl ⟨ml_law_35, vk_T_tongue⟩ np_T_tongue rfl (by omega) q275c (c_T_tongue (d := d - 1) (by omega) q275) (Nat.le_of_ble_eq_true rfl) (by omega) (by omega) rfl ?_
                    show Rn _ d _ _ (ca + 12) (sl + 676) _ 278 [(0, (2, 1000001)), (1, (2, v1)), (2, (2, v2)), (3, (0, v3))] [(0, x275.1)] x275.2
                    refine r_aload_n (pc := 278) 2 (n := 2) (by decide +kernel) rfl rfl ?_
                    refine r_aload_n (pc := 279) 0 (n := 0) (by decide +kernel) rfl rfl ?_
                    refine r_iload_n (pc := 280) 3 (n := 3) (by decide +kernel) rfl rfl ?_
                    refine r_iconst (pc := 281) (z := 1) (by decide +kernel) ⟨by decide, by decide⟩ ?_
                    refine r_iadd (pc := 282) (by decide +kernel) ?_
                    obtain ⟨e283, q283, h⟩ := bnd h
                    refine r_sld (pc := 283) (by decide +kernel) q283 ?_
                    obtain ⟨_, q284c, h⟩ := bnd h
                    obtain ⟨x284, q284, h⟩ := bnd h
                    refine r_callV (pc := 284) (i := 38) (d2 := d - 1) (As := [(0, e283)]) (st := [(0, x275.1)]) (st1 := [(0, e283), (2, v2), (0, x275.1)]) (by decide +kernel) yk_M_tongue (by decide) rfl ⟨ml_law_38, vk_M_tongue⟩ np_M_tongue rfl (by omega) q284c (c_M_tongue (d := d - 1) (by omega) q284) (Nat.le_of_ble_eq_true rfl) (by omega) (by omega) rfl ?_
                    show Rn _ d _ _ (ca + 12) (sl + 676) _ 287 [(0, (2, 1000001)), (1, (2, v1)), (2, (2, v2)), (3, (0, v3))] [(0, x284.1), (0, x275.1)] x284.2
                    refine r_icmp_eq (pc := 287) (off := 772) (tgt := 1059) (by decide +kernel) (by decide) (fun c287 => ?_) (fun c287 => ?_)
                    · have h := ite_t c287 h
                      refine r_iinc (pc := 1059) 3 (n := 6) (lv' := [(3, (0, wr (v3 + 6))), (0, (2, 1000001)), (1, (2, v1)), (2, (2, v2))]) (by decide +kernel) rfl (Nat.le_of_ble_eq_true rfl) rfl ?_
                      refine r_goto (pc := 1062) (off := (-1044)) (tgt := 18) (by decide +kernel) (by decide) ?_
                      refine r_lv [1, 2, 3, 0] rfl ?_
                      exact ih _ _ (wr (v3 + 6)) x284.2 (by omega) (by omega) h
                    · have h := ite_f c287 h
                      refine r_iconst (pc := 290) (z := 0) (by decide +kernel) ⟨by decide, by decide⟩ ?_
                      obtain rfl := Option.some.inj h
                      exact r_ret (pc := 291) (r := some (0, 0)) (by decide +kernel) rfl (Or.inl rfl) (by omega) (by omega)
                  · have h := ite_f e5 h
                    by_cases e6 : (iand e29 31) = 6
                    · have h := ite_t e6 h
                      obtain rfl : j = 6 := by omega
                      show Rn _ d _ _ ca sl _ 292 [(0, (2, 1000001)), (1, (2, v1)), (2, (2, v2)), (3, (0, v3))] [] M
                      refine r_aload_n (pc := 292) 1 (n := 1) (by decide +kernel) rfl rfl ?_
                      refine r_aload_n (pc := 293) 0 (n := 0) (by decide +kernel) rfl rfl ?_
                      refine r_iload_n (pc := 294) 3 (n := 3) (by decide +kernel) rfl rfl ?_
                      refine r_iconst (pc := 295) (z := 1) (by decide +kernel) ⟨by decide, by decide⟩ ?_
                      refine r_iadd (pc := 296) (by decide +kernel) ?_
                      obtain ⟨e297, q297, h⟩ := bnd h
                      refine r_sld (pc := 297) (by decide +kernel) q297 ?_
                      refine r_aload_n (pc := 298) 0 (n := 0) (by decide +kernel) rfl rfl ?_
                      refine r_iload_n (pc := 299) 3 (n := 3) (by decide +kernel) rfl rfl ?_
                      refine r_iconst (pc := 300) (z := 2) (by decide +kernel) ⟨by decide, by decide⟩ ?_
                      refine r_iadd (pc := 301) (by decide +kernel) ?_
                      obtain ⟨e302, q302, h⟩ := bnd h
                      refine r_sld (pc := 302) (by decide +kernel) q302 ?_
                      refine r_aload_n (pc := 303) 0 (n := 0) (by decide +kernel) rfl rfl ?_
                      refine r_iload_n (pc := 304) 3 (n := 3) (by decide +kernel) rfl rfl ?_
                      refine r_iconst (pc := 305) (z := 3) (by decide +kernel) ⟨by decide, by decide⟩ ?_
                      refine r_iadd (pc := 306) (by decide +kernel) ?_
                      obtain ⟨e307, q307, h⟩ := bnd h
                      refine r_sld (pc := 307) (by decide +kernel) q307 ?_
                      refine r_aload_n (pc := 308) 0 (n := 0) (by decide +kernel) rfl rfl ?_
                      refine r_iload_n (pc := 309) 3 (n := 3) (by decide +kernel) rfl rfl ?_
                      refine r_iconst (pc := 310) (z := 4) (by decide +kernel) ⟨by decide, by decide⟩ ?_
                      refine r_iadd (pc := 311) (by decide +kernel) ?_
                      obtain ⟨e312, q312, h⟩ := bnd h
                      refine r_sld (pc := 312) (by decide +kernel) q312 ?_
                      refine r_aload_n (pc := 313) 0 (n := 0) (by decide +kernel) rfl rfl ?_
                      refine r_iload_n (pc := 314) 3 (n := 3) (by decide +kernel) rfl rfl ?_
                      refine r_iconst (pc := 315) (z := 5) (by decide +kernel) ⟨by decide, by decide⟩ ?_
                      refine r_iadd (pc := 316) (by decide +kernel) ?_
                      obtain ⟨e317, q317, h⟩ := bnd h
                      refine r_sld (pc := 317) (by decide +kernel) q317 ?_
                      obtain ⟨_, q318c, h⟩ := bnd h
                      obtain ⟨x318, q318, h⟩ := bnd h
                      refine r_callV (pc := 318) (i := 39) (d2 := d - 1) (As := [(0, e297), (0, e302), (0, e307), (0, e312), (0, e317)]) (st := []) (st1 := [(0, e317), (0, e312), (0, e307), (0, e302), (0, e297), (2, v1)]) (by decide +kernel) yk_T_rule (by decide) rfl ⟨ml_law_39, vk_T_rule⟩ np_T_rule rfl (by omega) q318c (c_T_rule (d := d - 1) (by omega) q318) (Nat.le_of_ble_eq_true rfl) (by omega) (by omega) rfl ?_
                      show Rn _ d _ _ ca sl _ 321 [(0, (2, 1000001)), (1, (2, v1)), (2, (2, v2)), (3, (0, v3))] [(0, x318.1)] x318.2
                      refine r_aload_n (pc := 321) 2 (n := 2) (by decide +kernel) rfl rfl ?_
                      refine r_aload_n (pc := 322) 0 (n := 0) (by decide +kernel) rfl rfl ?_
                      refine r_iload_n (pc := 323) 3 (n := 3) (by decide +kernel) rfl rfl ?_
                      refine r_iconst (pc := 324) (z := 1) (by decide +kernel) ⟨by decide, by decide⟩ ?_
                      refine r_iadd (pc := 325) (by decide +kernel) ?_
                      obtain ⟨e326, q326, h⟩ := bnd h
                      refine r_sld (pc := 326) (by decide +kernel) q326 ?_
                      refine r_aload_n (pc := 327) 0 (n := 0) (by decide +kernel) rfl rfl ?_
                      refine r_iload_n (pc := 328) 3 (n := 3) (by decide +kernel) rfl rfl ?_
                      refine r_iconst (pc := 329) (z := 2) (by decide +kernel) ⟨by decide, by decide⟩ ?_
                      refine r_iadd (pc := 330) (by decide +kernel) ?_
                      obtain ⟨e331, q331, h⟩ := bnd h
                      refine r_sld (pc := 331) (by decide +kernel) q331 ?_
                      refine r_aload_n (pc := 332) 0 (n := 0) (by decide +kernel) rfl rfl ?_
                      refine r_iload_n (pc := 333) 3 (n := 3) (by decide +kernel) rfl rfl ?_
                      refine r_iconst (pc := 334) (z := 3) (by decide +kernel) ⟨by decide, by decide⟩ ?_
                      refine r_iadd (pc := 335) (by decide +kernel) ?_
                      obtain ⟨e336, q336, h⟩ := bnd h
                      refine r_sld (pc := 336) (by decide +kernel) q336 ?_
                      refine r_aload_n (pc := 337) 0 (n := 0) (by decide +kernel) rfl rfl ?_
                      refine r_iload_n (pc := 338) 3 (n := 3) (by decide +kernel) rfl rfl ?_
                      refine r_iconst (pc := 339) (z := 4) (by decide +kernel) ⟨by decide, by decide⟩ ?_
                      refine r_iadd (pc := 340) (by decide +kernel) ?_
                      obtain ⟨e341, q341, h⟩ := bnd h
                      refine r_sld (pc := 341) (by decide +kernel) q341 ?_
                      refine r_aload_n (pc := 342) 0 (n := 0) (by decide +kernel) rfl rfl ?_
                      refine r_iload_n (pc := 343) 3 (n := 3) (by decide +kernel) rfl rfl ?_
                      refine r_iconst (pc := 344) (z := 5) (by decide +kernel) ⟨by decide, by decide⟩ ?_
                      refine r_iadd (pc := 345) (by decide +kernel) ?_
                      obtain ⟨e346, q346, h⟩ := bnd h
                      refine r_sld (pc := 346) (by decide +kernel) q346 ?_
                      obtain ⟨_, q347c, h⟩ := bnd h
                      obtain ⟨x347, q347, h⟩ := bnd h
                      refine r_callV (pc := 347) (i := 43) (d2 := d - 1) (As := [(0, e326), (0, e331), (0, e336), (0, e341), (0, e346)]) (st := [(0, x318.1)]) (st1 := [(0, e346), (0, e341), (0, e336), (0, e331), (0, e326), (2, v2), (0, x318.1)]) (by decide +kernel) yk_M_rule (by decide) rfl ⟨ml_law_43, vk_M_rule⟩ np_M_rule rfl (by omega) q347c (c_M_rule (d := d - 1) (by omega) q347) (Nat.le_of_ble_eq_true rfl) (by omega) (by omega) rfl ?_
                      show Rn _ d _ _ ca sl _ 350 [(0, (2, 1000001)), (1, (2, v1)), (2, (2, v2)), (3, (0, v3))] [(0, x347.1), (0, x318.1)] x347.2
                      refine r_icmp_eq (pc := 350) (off := 709) (tgt := 1059) (by decide +kernel) (by decide) (fun c350 => ?_) (fun c350 => ?_)
                      · have h := ite_t c350 h
                        refine r_iinc (pc := 1059) 3 (n := 6) (lv' := [(3, (0, wr (v3 + 6))), (0, (2, 1000001)), (1, (2, v1)), (2, (2, v2))]) (by decide +kernel) rfl (Nat.le_of_ble_eq_true rfl) rfl ?_
                        refine r_goto (pc := 1062) (off := (-1044)) (tgt := 18) (by decide +kernel) (by decide) ?_
                        refine r_lv [1, 2, 3, 0] rfl ?_
                        exact ih _ _ (wr (v3 + 6)) x347.2 (by omega) (by omega) h
                      · have h := ite_f c350 h
                        refine r_iconst (pc := 353) (z := 0) (by decide +kernel) ⟨by decide, by decide⟩ ?_
                        obtain rfl := Option.some.inj h
                        exact r_ret (pc := 354) (r := some (0, 0)) (by decide +kernel) rfl (Or.inl rfl) (by omega) (by omega)
                    · have h := ite_f e6 h
                      by_cases e7 : (iand e29 31) = 7
                      · have h := ite_t e7 h
                        obtain rfl : j = 7 := by omega
                        show Rn _ d _ _ ca sl _ 355 [(0, (2, 1000001)), (1, (2, v1)), (2, (2, v2)), (3, (0, v3))] [] M
                        refine r_aload_n (pc := 355) 1 (n := 1) (by decide +kernel) rfl rfl ?_
                        refine r_aload_n (pc := 356) 0 (n := 0) (by decide +kernel) rfl rfl ?_
                        refine r_iload_n (pc := 357) 3 (n := 3) (by decide +kernel) rfl rfl ?_
                        refine r_iconst (pc := 358) (z := 1) (by decide +kernel) ⟨by decide, by decide⟩ ?_
                        refine r_iadd (pc := 359) (by decide +kernel) ?_
                        obtain ⟨e360, q360, h⟩ := bnd h
                        refine r_sld (pc := 360) (by decide +kernel) q360 ?_
                        refine r_aload_n (pc := 361) 0 (n := 0) (by decide +kernel) rfl rfl ?_
                        refine r_iload_n (pc := 362) 3 (n := 3) (by decide +kernel) rfl rfl ?_
                        refine r_iconst (pc := 363) (z := 2) (by decide +kernel) ⟨by decide, by decide⟩ ?_
                        refine r_iadd (pc := 364) (by decide +kernel) ?_
                        obtain ⟨e365, q365, h⟩ := bnd h
                        refine r_sld (pc := 365) (by decide +kernel) q365 ?_
                        refine r_aload_n (pc := 366) 0 (n := 0) (by decide +kernel) rfl rfl ?_
                        refine r_iload_n (pc := 367) 3 (n := 3) (by decide +kernel) rfl rfl ?_
                        refine r_iconst (pc := 368) (z := 3) (by decide +kernel) ⟨by decide, by decide⟩ ?_
                        refine r_iadd (pc := 369) (by decide +kernel) ?_
                        obtain ⟨e370, q370, h⟩ := bnd h
                        refine r_sld (pc := 370) (by decide +kernel) q370 ?_
                        obtain ⟨t371, ht371, h⟩ := bnd h
                        have E371_0 : Rn Y_law d mc ms ca sl (some (0, r.1), r.2) 379 [(0, (2, 1000001)), (1, (2, v1)), (2, (2, v2)), (3, (0, v3))] [(0, t371), (0, e365), (0, e360), (2, v1)] M := by
                          obtain ⟨_, q379c, h⟩ := bnd h
                          obtain ⟨x379, q379, h⟩ := bnd h
                          refine r_callV (pc := 379) (i := 44) (d2 := d - 1) (As := [(0, e360), (0, e365), (0, t371)]) (st := []) (st1 := [(0, t371), (0, e365), (0, e360), (2, v1)]) (by decide +kernel) yk_T_last (by decide) rfl ⟨ml_law_44, vk_T_last⟩ np_T_last rfl (by omega) q379c (c_T_last (d := d - 1) (by omega) q379) (Nat.le_of_ble_eq_true rfl) (by omega) (by omega) rfl ?_
                          show Rn _ d _ _ ca sl _ 382 [(0, (2, 1000001)), (1, (2, v1)), (2, (2, v2)), (3, (0, v3))] [(0, x379.1)] x379.2
                          refine r_aload_n (pc := 382) 2 (n := 2) (by decide +kernel) rfl rfl ?_
                          refine r_aload_n (pc := 383) 0 (n := 0) (by decide +kernel) rfl rfl ?_
                          refine r_iload_n (pc := 384) 3 (n := 3) (by decide +kernel) rfl rfl ?_
                          refine r_iconst (pc := 385) (z := 1) (by decide +kernel) ⟨by decide, by decide⟩ ?_
                          refine r_iadd (pc := 386) (by decide +kernel) ?_
                          obtain ⟨e387, q387, h⟩ := bnd h
                          refine r_sld (pc := 387) (by decide +kernel) q387 ?_
                          refine r_aload_n (pc := 388) 0 (n := 0) (by decide +kernel) rfl rfl ?_
                          refine r_iload_n (pc := 389) 3 (n := 3) (by decide +kernel) rfl rfl ?_
                          refine r_iconst (pc := 390) (z := 2) (by decide +kernel) ⟨by decide, by decide⟩ ?_
                          refine r_iadd (pc := 391) (by decide +kernel) ?_
                          obtain ⟨e392, q392, h⟩ := bnd h
                          refine r_sld (pc := 392) (by decide +kernel) q392 ?_
                          refine r_aload_n (pc := 393) 0 (n := 0) (by decide +kernel) rfl rfl ?_
                          refine r_iload_n (pc := 394) 3 (n := 3) (by decide +kernel) rfl rfl ?_
                          refine r_iconst (pc := 395) (z := 3) (by decide +kernel) ⟨by decide, by decide⟩ ?_
                          refine r_iadd (pc := 396) (by decide +kernel) ?_
                          obtain ⟨e397, q397, h⟩ := bnd h
                          refine r_sld (pc := 397) (by decide +kernel) q397 ?_
                          obtain ⟨t398, ht398, h⟩ := bnd h
                          have E398_0 : Rn Y_law d mc ms ca sl (some (0, r.1), r.2) 406 [(0, (2, 1000001)), (1, (2, v1)), (2, (2, v2)), (3, (0, v3))] [(0, t398), (0, e392), (0, e387), (2, v2), (0, x379.1)] x379.2 := by
                            obtain ⟨_, q406c, h⟩ := bnd h
                            obtain ⟨x406, q406, h⟩ := bnd h
                            refine r_callV (pc := 406) (i := 48) (d2 := d - 1) (As := [(0, e387), (0, e392), (0, t398)]) (st := [(0, x379.1)]) (st1 := [(0, t398), (0, e392), (0, e387), (2, v2), (0, x379.1)]) (by decide +kernel) yk_M_last (by decide) rfl ⟨ml_law_48, vk_M_last⟩ np_M_last rfl (by omega) q406c (c_M_last (d := d - 1) (by omega) q406) (Nat.le_of_ble_eq_true rfl) (by omega) (by omega) rfl ?_
                            show Rn _ d _ _ ca sl _ 409 [(0, (2, 1000001)), (1, (2, v1)), (2, (2, v2)), (3, (0, v3))] [(0, x406.1), (0, x379.1)] x406.2
                            refine r_icmp_eq (pc := 409) (off := 650) (tgt := 1059) (by decide +kernel) (by decide) (fun c409 => ?_) (fun c409 => ?_)
                            · have h := ite_t c409 h
                              refine r_iinc (pc := 1059) 3 (n := 6) (lv' := [(3, (0, wr (v3 + 6))), (0, (2, 1000001)), (1, (2, v1)), (2, (2, v2))]) (by decide +kernel) rfl (Nat.le_of_ble_eq_true rfl) rfl ?_
                              refine r_goto (pc := 1062) (off := (-1044)) (tgt := 18) (by decide +kernel) (by decide) ?_
                              refine r_lv [1, 2, 3, 0] rfl ?_
                              exact ih _ _ (wr (v3 + 6)) x406.2 (by omega) (by omega) h
                            · have h := ite_f c409 h
                              refine r_iconst (pc := 412) (z := 0) (by decide +kernel) ⟨by decide, by decide⟩ ?_
                              obtain rfl := Option.some.inj h
                              exact r_ret (pc := 413) (r := some (0, 0)) (by decide +kernel) rfl (Or.inl rfl) (by omega) (by omega)
                          refine r_if_eq (pc := 398) (off := 7) (tgt := 405) (by decide +kernel) (by decide) (fun c398 => ?_) (fun c398 => ?_)
                          · have ht398 := ite_t c398 ht398
                            refine r_iconst (pc := 405) (z := 0) (by decide +kernel) ⟨by decide, by decide⟩ ?_
                            obtain rfl := Option.some.inj ht398
                            exact E398_0
                          · have ht398 := ite_f c398 ht398
                            refine r_iconst (pc := 401) (z := 1) (by decide +kernel) ⟨by decide, by decide⟩ ?_
                            refine r_goto (pc := 402) (off := 4) (tgt := 406) (by decide +kernel) (by decide) ?_
                            obtain rfl := Option.some.inj ht398
                            exact E398_0
                        refine r_if_eq (pc := 371) (off := 7) (tgt := 378) (by decide +kernel) (by decide) (fun c371 => ?_) (fun c371 => ?_)
                        · have ht371 := ite_t c371 ht371
                          refine r_iconst (pc := 378) (z := 0) (by decide +kernel) ⟨by decide, by decide⟩ ?_
                          obtain rfl := Option.some.inj ht371
                          exact E371_0
                        · have ht371 := ite_f c371 ht371
                          refine r_iconst (pc := 374) (z := 1) (by decide +kernel) ⟨by decide, by decide⟩ ?_
                          refine r_goto (pc := 375) (off := 4) (tgt := 379) (by decide +kernel) (by decide) ?_
                          obtain rfl := Option.some.inj ht371
                          exact E371_0
                      · have h := ite_f e7 h
                        by_cases e8 : (iand e29 31) = 8
                        · have h := ite_t e8 h
                          obtain rfl : j = 8 := by omega
                          show Rn _ d _ _ ca sl _ 414 [(0, (2, 1000001)), (1, (2, v1)), (2, (2, v2)), (3, (0, v3))] [] M
                          refine r_aload_n (pc := 414) 1 (n := 1) (by decide +kernel) rfl rfl ?_
                          refine r_aload_n (pc := 415) 0 (n := 0) (by decide +kernel) rfl rfl ?_
                          refine r_iload_n (pc := 416) 3 (n := 3) (by decide +kernel) rfl rfl ?_
                          refine r_iconst (pc := 417) (z := 1) (by decide +kernel) ⟨by decide, by decide⟩ ?_
                          refine r_iadd (pc := 418) (by decide +kernel) ?_
                          obtain ⟨e419, q419, h⟩ := bnd h
                          refine r_sld (pc := 419) (by decide +kernel) q419 ?_
                          refine r_aload_n (pc := 420) 0 (n := 0) (by decide +kernel) rfl rfl ?_
                          refine r_iload_n (pc := 421) 3 (n := 3) (by decide +kernel) rfl rfl ?_
                          refine r_iconst (pc := 422) (z := 2) (by decide +kernel) ⟨by decide, by decide⟩ ?_
                          refine r_iadd (pc := 423) (by decide +kernel) ?_
                          obtain ⟨e424, q424, h⟩ := bnd h
                          refine r_sld (pc := 424) (by decide +kernel) q424 ?_
                          refine r_aload_n (pc := 425) 0 (n := 0) (by decide +kernel) rfl rfl ?_
                          refine r_iload_n (pc := 426) 3 (n := 3) (by decide +kernel) rfl rfl ?_
                          refine r_iconst (pc := 427) (z := 3) (by decide +kernel) ⟨by decide, by decide⟩ ?_
                          refine r_iadd (pc := 428) (by decide +kernel) ?_
                          obtain ⟨e429, q429, h⟩ := bnd h
                          refine r_sld (pc := 429) (by decide +kernel) q429 ?_
                          obtain ⟨_, q430c, h⟩ := bnd h
                          obtain ⟨x430, q430, h⟩ := bnd h
                          refine r_callV (pc := 430) (i := 49) (d2 := d - 1) (As := [(0, e419), (0, e424), (0, e429)]) (st := []) (st1 := [(0, e429), (0, e424), (0, e419), (2, v1)]) (by decide +kernel) yk_T_of (by decide) rfl ⟨ml_law_49, vk_T_of⟩ np_T_of rfl (by omega) q430c (c_T_of (d := d - 1) (by omega) q430) (Nat.le_of_ble_eq_true rfl) (by omega) (by omega) rfl ?_
                          show Rn _ d _ _ (ca + 12) (sl + 676) _ 433 [(0, (2, 1000001)), (1, (2, v1)), (2, (2, v2)), (3, (0, v3))] [(0, x430.1)] x430.2
                          refine r_aload_n (pc := 433) 2 (n := 2) (by decide +kernel) rfl rfl ?_
                          refine r_aload_n (pc := 434) 0 (n := 0) (by decide +kernel) rfl rfl ?_
                          refine r_iload_n (pc := 435) 3 (n := 3) (by decide +kernel) rfl rfl ?_
                          refine r_iconst (pc := 436) (z := 1) (by decide +kernel) ⟨by decide, by decide⟩ ?_
                          refine r_iadd (pc := 437) (by decide +kernel) ?_
                          obtain ⟨e438, q438, h⟩ := bnd h
                          refine r_sld (pc := 438) (by decide +kernel) q438 ?_
                          refine r_aload_n (pc := 439) 0 (n := 0) (by decide +kernel) rfl rfl ?_
                          refine r_iload_n (pc := 440) 3 (n := 3) (by decide +kernel) rfl rfl ?_
                          refine r_iconst (pc := 441) (z := 2) (by decide +kernel) ⟨by decide, by decide⟩ ?_
                          refine r_iadd (pc := 442) (by decide +kernel) ?_
                          obtain ⟨e443, q443, h⟩ := bnd h
                          refine r_sld (pc := 443) (by decide +kernel) q443 ?_
                          refine r_aload_n (pc := 444) 0 (n := 0) (by decide +kernel) rfl rfl ?_
                          refine r_iload_n (pc := 445) 3 (n := 3) (by decide +kernel) rfl rfl ?_
                          refine r_iconst (pc := 446) (z := 3) (by decide +kernel) ⟨by decide, by decide⟩ ?_
                          refine r_iadd (pc := 447) (by decide +kernel) ?_
                          obtain ⟨e448, q448, h⟩ := bnd h
                          refine r_sld (pc := 448) (by decide +kernel) q448 ?_
                          obtain ⟨_, q449c, h⟩ := bnd h
                          obtain ⟨x449, q449, h⟩ := bnd h
                          refine r_callV (pc := 449) (i := 53) (d2 := d - 1) (As := [(0, e438), (0, e443), (0, e448)]) (st := [(0, x430.1)]) (st1 := [(0, e448), (0, e443), (0, e438), (2, v2), (0, x430.1)]) (by decide +kernel) yk_M_of (by decide) rfl ⟨ml_law_53, vk_M_of⟩ np_M_of rfl (by omega) q449c (c_M_of (d := d - 1) (by omega) q449) (Nat.le_of_ble_eq_true rfl) (by omega) (by omega) rfl ?_
                          show Rn _ d _ _ (ca + 12) (sl + 676) _ 452 [(0, (2, 1000001)), (1, (2, v1)), (2, (2, v2)), (3, (0, v3))] [(0, x449.1), (0, x430.1)] x449.2
                          refine r_icmp_eq (pc := 452) (off := 607) (tgt := 1059) (by decide +kernel) (by decide) (fun c452 => ?_) (fun c452 => ?_)
                          · have h := ite_t c452 h
                            refine r_iinc (pc := 1059) 3 (n := 6) (lv' := [(3, (0, wr (v3 + 6))), (0, (2, 1000001)), (1, (2, v1)), (2, (2, v2))]) (by decide +kernel) rfl (Nat.le_of_ble_eq_true rfl) rfl ?_
                            refine r_goto (pc := 1062) (off := (-1044)) (tgt := 18) (by decide +kernel) (by decide) ?_
                            refine r_lv [1, 2, 3, 0] rfl ?_
                            exact ih _ _ (wr (v3 + 6)) x449.2 (by omega) (by omega) h
                          · have h := ite_f c452 h
                            refine r_iconst (pc := 455) (z := 0) (by decide +kernel) ⟨by decide, by decide⟩ ?_
                            obtain rfl := Option.some.inj h
                            exact r_ret (pc := 456) (r := some (0, 0)) (by decide +kernel) rfl (Or.inl rfl) (by omega) (by omega)
                        · have h := ite_f e8 h
                          by_cases e9 : (iand e29 31) = 9
                          · have h := ite_t e9 h
                            obtain rfl : j = 9 := by omega
                            show Rn _ d _ _ ca sl _ 457 [(0, (2, 1000001)), (1, (2, v1)), (2, (2, v2)), (3, (0, v3))] [] M
                            refine r_aload_n (pc := 457) 1 (n := 1) (by decide +kernel) rfl rfl ?_
                            refine r_aload_n (pc := 458) 0 (n := 0) (by decide +kernel) rfl rfl ?_
                            refine r_iload_n (pc := 459) 3 (n := 3) (by decide +kernel) rfl rfl ?_
                            refine r_iconst (pc := 460) (z := 1) (by decide +kernel) ⟨by decide, by decide⟩ ?_
                            refine r_iadd (pc := 461) (by decide +kernel) ?_
                            obtain ⟨e462, q462, h⟩ := bnd h
                            refine r_sld (pc := 462) (by decide +kernel) q462 ?_
                            obtain ⟨_, q463c, h⟩ := bnd h
                            obtain ⟨x463, q463, h⟩ := bnd h
                            refine r_callV (pc := 463) (i := 54) (d2 := d - 1) (As := [(0, e462)]) (st := []) (st1 := [(0, e462), (2, v1)]) (by decide +kernel) yk_T_not (by decide) rfl ⟨ml_law_54, vk_T_not⟩ np_T_not rfl (by omega) q463c (c_T_not (d := d - 1) (by omega) q463) (Nat.le_of_ble_eq_true rfl) (by omega) (by omega) rfl ?_
                            show Rn _ d _ _ (ca + 12) (sl + 676) _ 466 [(0, (2, 1000001)), (1, (2, v1)), (2, (2, v2)), (3, (0, v3))] [(0, x463.1)] x463.2
                            refine r_aload_n (pc := 466) 2 (n := 2) (by decide +kernel) rfl rfl ?_
                            refine r_aload_n (pc := 467) 0 (n := 0) (by decide +kernel) rfl rfl ?_
                            refine r_iload_n (pc := 468) 3 (n := 3) (by decide +kernel) rfl rfl ?_
                            refine r_iconst (pc := 469) (z := 1) (by decide +kernel) ⟨by decide, by decide⟩ ?_
                            refine r_iadd (pc := 470) (by decide +kernel) ?_
                            obtain ⟨e471, q471, h⟩ := bnd h
                            refine r_sld (pc := 471) (by decide +kernel) q471 ?_
                            obtain ⟨_, q472c, h⟩ := bnd h
                            obtain ⟨x472, q472, h⟩ := bnd h
                            refine r_callV (pc := 472) (i := 57) (d2 := d - 1) (As := [(0, e471)]) (st := [(0, x463.1)]) (st1 := [(0, e471), (2, v2), (0, x463.1)]) (by decide +kernel) yk_M_not (by decide) rfl ⟨ml_law_57, vk_M_not⟩ np_M_not rfl (by omega) q472c (c_M_not (d := d - 1) (by omega) q472) (Nat.le_of_ble_eq_true rfl) (by omega) (by omega) rfl ?_
                            show Rn _ d _ _ (ca + 12) (sl + 676) _ 475 [(0, (2, 1000001)), (1, (2, v1)), (2, (2, v2)), (3, (0, v3))] [(0, x472.1), (0, x463.1)] x472.2
                            refine r_icmp_eq (pc := 475) (off := 584) (tgt := 1059) (by decide +kernel) (by decide) (fun c475 => ?_) (fun c475 => ?_)
                            · have h := ite_t c475 h
                              refine r_iinc (pc := 1059) 3 (n := 6) (lv' := [(3, (0, wr (v3 + 6))), (0, (2, 1000001)), (1, (2, v1)), (2, (2, v2))]) (by decide +kernel) rfl (Nat.le_of_ble_eq_true rfl) rfl ?_
                              refine r_goto (pc := 1062) (off := (-1044)) (tgt := 18) (by decide +kernel) (by decide) ?_
                              refine r_lv [1, 2, 3, 0] rfl ?_
                              exact ih _ _ (wr (v3 + 6)) x472.2 (by omega) (by omega) h
                            · have h := ite_f c475 h
                              refine r_iconst (pc := 478) (z := 0) (by decide +kernel) ⟨by decide, by decide⟩ ?_
                              obtain rfl := Option.some.inj h
                              exact r_ret (pc := 479) (r := some (0, 0)) (by decide +kernel) rfl (Or.inl rfl) (by omega) (by omega)
                          · have h := ite_f e9 h
                            by_cases e10 : (iand e29 31) = 10
                            · have h := ite_t e10 h
                              obtain rfl : j = 10 := by omega
                              show Rn _ d _ _ ca sl _ 480 [(0, (2, 1000001)), (1, (2, v1)), (2, (2, v2)), (3, (0, v3))] [] M
                              refine r_aload_n (pc := 480) 1 (n := 1) (by decide +kernel) rfl rfl ?_
                              refine r_aload_n (pc := 481) 0 (n := 0) (by decide +kernel) rfl rfl ?_
                              refine r_iload_n (pc := 482) 3 (n := 3) (by decide +kernel) rfl rfl ?_
                              refine r_iconst (pc := 483) (z := 1) (by decide +kernel) ⟨by decide, by decide⟩ ?_
                              refine r_iadd (pc := 484) (by decide +kernel) ?_
                              obtain ⟨e485, q485, h⟩ := bnd h
                              refine r_sld (pc := 485) (by decide +kernel) q485 ?_
                              refine r_aload_n (pc := 486) 0 (n := 0) (by decide +kernel) rfl rfl ?_
                              refine r_iload_n (pc := 487) 3 (n := 3) (by decide +kernel) rfl rfl ?_
                              refine r_iconst (pc := 488) (z := 2) (by decide +kernel) ⟨by decide, by decide⟩ ?_
                              refine r_iadd (pc := 489) (by decide +kernel) ?_
                              obtain ⟨e490, q490, h⟩ := bnd h
                              refine r_sld (pc := 490) (by decide +kernel) q490 ?_
                              obtain ⟨_, q491c, h⟩ := bnd h
                              obtain ⟨x491, q491, h⟩ := bnd h
                              refine r_callV (pc := 491) (i := 58) (d2 := d - 1) (As := [(0, e485), (0, e490)]) (st := []) (st1 := [(0, e490), (0, e485), (2, v1)]) (by decide +kernel) yk_T_renamed (by decide) rfl ⟨ml_law_58, vk_T_renamed⟩ np_T_renamed rfl (by omega) q491c (c_T_renamed (d := d - 1) (by omega) q491) (Nat.le_of_ble_eq_true rfl) (by omega) (by omega) rfl ?_
                              show Rn _ d _ _ (ca + 12) (sl + 676) _ 494 [(0, (2, 1000001)), (1, (2, v1)), (2, (2, v2)), (3, (0, v3))] [(0, x491.1)] x491.2
                              refine r_aload_n (pc := 494) 2 (n := 2) (by decide +kernel) rfl rfl ?_
                              refine r_aload_n (pc := 495) 0 (n := 0) (by decide +kernel) rfl rfl ?_
                              refine r_iload_n (pc := 496) 3 (n := 3) (by decide +kernel) rfl rfl ?_
                              refine r_iconst (pc := 497) (z := 1) (by decide +kernel) ⟨by decide, by decide⟩ ?_
                              refine r_iadd (pc := 498) (by decide +kernel) ?_
                              obtain ⟨e499, q499, h⟩ := bnd h
                              refine r_sld (pc := 499) (by decide +kernel) q499 ?_
                              refine r_aload_n (pc := 500) 0 (n := 0) (by decide +kernel) rfl rfl ?_
                              refine r_iload_n (pc := 501) 3 (n := 3) (by decide +kernel) rfl rfl ?_
                              refine r_iconst (pc := 502) (z := 2) (by decide +kernel) ⟨by decide, by decide⟩ ?_
                              refine r_iadd (pc := 503) (by decide +kernel) ?_
                              obtain ⟨e504, q504, h⟩ := bnd h
                              refine r_sld (pc := 504) (by decide +kernel) q504 ?_
                              obtain ⟨_, q505c, h⟩ := bnd h
                              obtain ⟨x505, q505, h⟩ := bnd h
                              refine r_callV (pc := 505) (i := 62) (d2 := d - 1) (As := [(0, e499), (0, e504)]) (st := [(0, x491.1)]) (st1 := [(0, e504), (0, e499), (2, v2), (0, x491.1)]) (by decide +kernel) yk_M_renamed (by decide) rfl ⟨ml_law_62, vk_M_renamed⟩ np_M_renamed rfl (by omega) q505c (c_M_renamed (d := d - 1) (by omega) q505) (Nat.le_of_ble_eq_true rfl) (by omega) (by omega) rfl ?_
                              show Rn _ d _ _ (ca + 12) (sl + 676) _ 508 [(0, (2, 1000001)), (1, (2, v1)), (2, (2, v2)), (3, (0, v3))] [(0, x505.1), (0, x491.1)] x505.2
                              refine r_icmp_eq (pc := 508) (off := 551) (tgt := 1059) (by decide +kernel) (by decide) (fun c508 => ?_) (fun c508 => ?_)
                              · have h := ite_t c508 h
                                refine r_iinc (pc := 1059) 3 (n := 6) (lv' := [(3, (0, wr (v3 + 6))), (0, (2, 1000001)), (1, (2, v1)), (2, (2, v2))]) (by decide +kernel) rfl (Nat.le_of_ble_eq_true rfl) rfl ?_
                                refine r_goto (pc := 1062) (off := (-1044)) (tgt := 18) (by decide +kernel) (by decide) ?_
                                refine r_lv [1, 2, 3, 0] rfl ?_
                                exact ih _ _ (wr (v3 + 6)) x505.2 (by omega) (by omega) h
                              · have h := ite_f c508 h
                                refine r_iconst (pc := 511) (z := 0) (by decide +kernel) ⟨by decide, by decide⟩ ?_
                                obtain rfl := Option.some.inj h
                                exact r_ret (pc := 512) (r := some (0, 0)) (by decide +kernel) rfl (Or.inl rfl) (by omega) (by omega)
                            · have h := ite_f e10 h
                              by_cases e11 : (iand e29 31) = 11
                              · have h := ite_t e11 h
                                obtain rfl : j = 11 := by omega
                                show Rn _ d _ _ ca sl _ 513 [(0, (2, 1000001)), (1, (2, v1)), (2, (2, v2)), (3, (0, v3))] [] M
                                refine r_aload_n (pc := 513) 1 (n := 1) (by decide +kernel) rfl rfl ?_
                                refine r_aload_n (pc := 514) 0 (n := 0) (by decide +kernel) rfl rfl ?_
                                refine r_iload_n (pc := 515) 3 (n := 3) (by decide +kernel) rfl rfl ?_
                                refine r_iconst (pc := 516) (z := 1) (by decide +kernel) ⟨by decide, by decide⟩ ?_
                                refine r_iadd (pc := 517) (by decide +kernel) ?_
                                obtain ⟨e518, q518, h⟩ := bnd h
                                refine r_sld (pc := 518) (by decide +kernel) q518 ?_
                                refine r_aload_n (pc := 519) 0 (n := 0) (by decide +kernel) rfl rfl ?_
                                refine r_iload_n (pc := 520) 3 (n := 3) (by decide +kernel) rfl rfl ?_
                                refine r_iconst (pc := 521) (z := 2) (by decide +kernel) ⟨by decide, by decide⟩ ?_
                                refine r_iadd (pc := 522) (by decide +kernel) ?_
                                obtain ⟨e523, q523, h⟩ := bnd h
                                refine r_sld (pc := 523) (by decide +kernel) q523 ?_
                                obtain ⟨_, q524c, h⟩ := bnd h
                                obtain ⟨x524, q524, h⟩ := bnd h
                                refine r_callV (pc := 524) (i := 63) (d2 := d - 1) (As := [(0, e518), (0, e523)]) (st := []) (st1 := [(0, e523), (0, e518), (2, v1)]) (by decide +kernel) yk_T_back (by decide) rfl ⟨ml_law_63, vk_T_back⟩ np_T_back rfl (by omega) q524c (c_T_back (d := d - 1) (by omega) q524) (Nat.le_of_ble_eq_true rfl) (by omega) (by omega) rfl ?_
                                show Rn _ d _ _ (ca + 12) (sl + 676) _ 527 [(0, (2, 1000001)), (1, (2, v1)), (2, (2, v2)), (3, (0, v3))] [(0, x524.1)] x524.2
                                refine r_aload_n (pc := 527) 2 (n := 2) (by decide +kernel) rfl rfl ?_
                                refine r_aload_n (pc := 528) 0 (n := 0) (by decide +kernel) rfl rfl ?_
                                refine r_iload_n (pc := 529) 3 (n := 3) (by decide +kernel) rfl rfl ?_
                                refine r_iconst (pc := 530) (z := 1) (by decide +kernel) ⟨by decide, by decide⟩ ?_
                                refine r_iadd (pc := 531) (by decide +kernel) ?_
                                obtain ⟨e532, q532, h⟩ := bnd h
                                refine r_sld (pc := 532) (by decide +kernel) q532 ?_
                                refine r_aload_n (pc := 533) 0 (n := 0) (by decide +kernel) rfl rfl ?_
                                refine r_iload_n (pc := 534) 3 (n := 3) (by decide +kernel) rfl rfl ?_
                                refine r_iconst (pc := 535) (z := 2) (by decide +kernel) ⟨by decide, by decide⟩ ?_
                                refine r_iadd (pc := 536) (by decide +kernel) ?_
                                obtain ⟨e537, q537, h⟩ := bnd h
                                refine r_sld (pc := 537) (by decide +kernel) q537 ?_
                                obtain ⟨_, q538c, h⟩ := bnd h
                                obtain ⟨x538, q538, h⟩ := bnd h
                                refine r_callV (pc := 538) (i := 66) (d2 := d - 1) (As := [(0, e532), (0, e537)]) (st := [(0, x524.1)]) (st1 := [(0, e537), (0, e532), (2, v2), (0, x524.1)]) (by decide +kernel) yk_M_back (by decide) rfl ⟨ml_law_66, vk_M_back⟩ np_M_back rfl (by omega) q538c (c_M_back (d := d - 1) (by omega) q538) (Nat.le_of_ble_eq_true rfl) (by omega) (by omega) rfl ?_
                                show Rn _ d _ _ (ca + 12) (sl + 676) _ 541 [(0, (2, 1000001)), (1, (2, v1)), (2, (2, v2)), (3, (0, v3))] [(0, x538.1), (0, x524.1)] x538.2
                                refine r_icmp_eq (pc := 541) (off := 518) (tgt := 1059) (by decide +kernel) (by decide) (fun c541 => ?_) (fun c541 => ?_)
                                · have h := ite_t c541 h
                                  refine r_iinc (pc := 1059) 3 (n := 6) (lv' := [(3, (0, wr (v3 + 6))), (0, (2, 1000001)), (1, (2, v1)), (2, (2, v2))]) (by decide +kernel) rfl (Nat.le_of_ble_eq_true rfl) rfl ?_
                                  refine r_goto (pc := 1062) (off := (-1044)) (tgt := 18) (by decide +kernel) (by decide) ?_
                                  refine r_lv [1, 2, 3, 0] rfl ?_
                                  exact ih _ _ (wr (v3 + 6)) x538.2 (by omega) (by omega) h
                                · have h := ite_f c541 h
                                  refine r_iconst (pc := 544) (z := 0) (by decide +kernel) ⟨by decide, by decide⟩ ?_
                                  obtain rfl := Option.some.inj h
                                  exact r_ret (pc := 545) (r := some (0, 0)) (by decide +kernel) rfl (Or.inl rfl) (by omega) (by omega)
                              · have h := ite_f e11 h
                                by_cases e12 : (iand e29 31) = 12
                                · have h := ite_t e12 h
                                  obtain rfl : j = 12 := by omega
                                  show Rn _ d _ _ ca sl _ 546 [(0, (2, 1000001)), (1, (2, v1)), (2, (2, v2)), (3, (0, v3))] [] M
                                  refine r_aload_n (pc := 546) 1 (n := 1) (by decide +kernel) rfl rfl ?_
                                  refine r_aload_n (pc := 547) 0 (n := 0) (by decide +kernel) rfl rfl ?_
                                  refine r_iload_n (pc := 548) 3 (n := 3) (by decide +kernel) rfl rfl ?_
                                  refine r_iconst (pc := 549) (z := 1) (by decide +kernel) ⟨by decide, by decide⟩ ?_
                                  refine r_iadd (pc := 550) (by decide +kernel) ?_
                                  obtain ⟨e551, q551, h⟩ := bnd h
                                  refine r_sld (pc := 551) (by decide +kernel) q551 ?_
                                  obtain ⟨_, q552c, h⟩ := bnd h
                                  obtain ⟨x552, q552, h⟩ := bnd h
                                  refine r_callV (pc := 552) (i := 67) (d2 := d - 1) (As := [(0, e551)]) (st := []) (st1 := [(0, e551), (2, v1)]) (by decide +kernel) yk_T_parts (by decide) rfl ⟨ml_law_67, vk_T_parts⟩ np_T_parts rfl (by omega) q552c (c_T_parts (d := d - 1) (by omega) q552) (Nat.le_of_ble_eq_true rfl) (by omega) (by omega) rfl ?_
                                  show Rn _ d _ _ (ca + 12) (sl + 676) _ 555 [(0, (2, 1000001)), (1, (2, v1)), (2, (2, v2)), (3, (0, v3))] [(0, x552.1)] x552.2
                                  refine r_aload_n (pc := 555) 2 (n := 2) (by decide +kernel) rfl rfl ?_
                                  refine r_aload_n (pc := 556) 0 (n := 0) (by decide +kernel) rfl rfl ?_
                                  refine r_iload_n (pc := 557) 3 (n := 3) (by decide +kernel) rfl rfl ?_
                                  refine r_iconst (pc := 558) (z := 1) (by decide +kernel) ⟨by decide, by decide⟩ ?_
                                  refine r_iadd (pc := 559) (by decide +kernel) ?_
                                  obtain ⟨e560, q560, h⟩ := bnd h
                                  refine r_sld (pc := 560) (by decide +kernel) q560 ?_
                                  obtain ⟨_, q561c, h⟩ := bnd h
                                  obtain ⟨x561, q561, h⟩ := bnd h
                                  refine r_callV (pc := 561) (i := 70) (d2 := d - 1) (As := [(0, e560)]) (st := [(0, x552.1)]) (st1 := [(0, e560), (2, v2), (0, x552.1)]) (by decide +kernel) yk_M_parts (by decide) rfl ⟨ml_law_70, vk_M_parts⟩ np_M_parts rfl (by omega) q561c (c_M_parts (d := d - 1) (by omega) q561) (Nat.le_of_ble_eq_true rfl) (by omega) (by omega) rfl ?_
                                  show Rn _ d _ _ (ca + 12) (sl + 676) _ 564 [(0, (2, 1000001)), (1, (2, v1)), (2, (2, v2)), (3, (0, v3))] [(0, x561.1), (0, x552.1)] x561.2
                                  refine r_icmp_eq (pc := 564) (off := 495) (tgt := 1059) (by decide +kernel) (by decide) (fun c564 => ?_) (fun c564 => ?_)
                                  · have h := ite_t c564 h
                                    refine r_iinc (pc := 1059) 3 (n := 6) (lv' := [(3, (0, wr (v3 + 6))), (0, (2, 1000001)), (1, (2, v1)), (2, (2, v2))]) (by decide +kernel) rfl (Nat.le_of_ble_eq_true rfl) rfl ?_
                                    refine r_goto (pc := 1062) (off := (-1044)) (tgt := 18) (by decide +kernel) (by decide) ?_
                                    refine r_lv [1, 2, 3, 0] rfl ?_
                                    exact ih _ _ (wr (v3 + 6)) x561.2 (by omega) (by omega) h
                                  · have h := ite_f c564 h
                                    refine r_iconst (pc := 567) (z := 0) (by decide +kernel) ⟨by decide, by decide⟩ ?_
                                    obtain rfl := Option.some.inj h
                                    exact r_ret (pc := 568) (r := some (0, 0)) (by decide +kernel) rfl (Or.inl rfl) (by omega) (by omega)
                                · have h := ite_f e12 h
                                  by_cases e13 : (iand e29 31) = 13
                                  · have h := ite_t e13 h
                                    obtain rfl : j = 13 := by omega
                                    show Rn _ d _ _ ca sl _ 569 [(0, (2, 1000001)), (1, (2, v1)), (2, (2, v2)), (3, (0, v3))] [] M
                                    refine r_aload_n (pc := 569) 1 (n := 1) (by decide +kernel) rfl rfl ?_
                                    refine r_aload_n (pc := 570) 0 (n := 0) (by decide +kernel) rfl rfl ?_
                                    refine r_iload_n (pc := 571) 3 (n := 3) (by decide +kernel) rfl rfl ?_
                                    refine r_iconst (pc := 572) (z := 1) (by decide +kernel) ⟨by decide, by decide⟩ ?_
                                    refine r_iadd (pc := 573) (by decide +kernel) ?_
                                    obtain ⟨e574, q574, h⟩ := bnd h
                                    refine r_sld (pc := 574) (by decide +kernel) q574 ?_
                                    obtain ⟨_, q575c, h⟩ := bnd h
                                    obtain ⟨x575, q575, h⟩ := bnd h
                                    refine r_callV (pc := 575) (i := 71) (d2 := d - 1) (As := [(0, e574)]) (st := []) (st1 := [(0, e574), (2, v1)]) (by decide +kernel) yk_T_within (by decide) rfl ⟨ml_law_71, vk_T_within⟩ np_T_within rfl (by omega) q575c (c_T_within (d := d - 1) (by omega) q575) (Nat.le_of_ble_eq_true rfl) (by omega) (by omega) rfl ?_
                                    show Rn _ d _ _ (ca + 12) (sl + 676) _ 578 [(0, (2, 1000001)), (1, (2, v1)), (2, (2, v2)), (3, (0, v3))] [(0, x575.1)] x575.2
                                    refine r_aload_n (pc := 578) 2 (n := 2) (by decide +kernel) rfl rfl ?_
                                    refine r_aload_n (pc := 579) 0 (n := 0) (by decide +kernel) rfl rfl ?_
                                    refine r_iload_n (pc := 580) 3 (n := 3) (by decide +kernel) rfl rfl ?_
                                    refine r_iconst (pc := 581) (z := 1) (by decide +kernel) ⟨by decide, by decide⟩ ?_
                                    refine r_iadd (pc := 582) (by decide +kernel) ?_
                                    obtain ⟨e583, q583, h⟩ := bnd h
                                    refine r_sld (pc := 583) (by decide +kernel) q583 ?_
                                    obtain ⟨_, q584c, h⟩ := bnd h
                                    obtain ⟨x584, q584, h⟩ := bnd h
                                    refine r_callV (pc := 584) (i := 74) (d2 := d - 1) (As := [(0, e583)]) (st := [(0, x575.1)]) (st1 := [(0, e583), (2, v2), (0, x575.1)]) (by decide +kernel) yk_M_within (by decide) rfl ⟨ml_law_74, vk_M_within⟩ np_M_within rfl (by omega) q584c (c_M_within (d := d - 1) (by omega) q584) (Nat.le_of_ble_eq_true rfl) (by omega) (by omega) rfl ?_
                                    show Rn _ d _ _ (ca + 12) (sl + 676) _ 587 [(0, (2, 1000001)), (1, (2, v1)), (2, (2, v2)), (3, (0, v3))] [(0, x584.1), (0, x575.1)] x584.2
                                    refine r_icmp_eq (pc := 587) (off := 472) (tgt := 1059) (by decide +kernel) (by decide) (fun c587 => ?_) (fun c587 => ?_)
                                    · have h := ite_t c587 h
                                      refine r_iinc (pc := 1059) 3 (n := 6) (lv' := [(3, (0, wr (v3 + 6))), (0, (2, 1000001)), (1, (2, v1)), (2, (2, v2))]) (by decide +kernel) rfl (Nat.le_of_ble_eq_true rfl) rfl ?_
                                      refine r_goto (pc := 1062) (off := (-1044)) (tgt := 18) (by decide +kernel) (by decide) ?_
                                      refine r_lv [1, 2, 3, 0] rfl ?_
                                      exact ih _ _ (wr (v3 + 6)) x584.2 (by omega) (by omega) h
                                    · have h := ite_f c587 h
                                      refine r_iconst (pc := 590) (z := 0) (by decide +kernel) ⟨by decide, by decide⟩ ?_
                                      obtain rfl := Option.some.inj h
                                      exact r_ret (pc := 591) (r := some (0, 0)) (by decide +kernel) rfl (Or.inl rfl) (by omega) (by omega)
                                  · have h := ite_f e13 h
                                    by_cases e14 : (iand e29 31) = 14
                                    · have h := ite_t e14 h
                                      obtain rfl : j = 14 := by omega
                                      show Rn _ d _ _ ca sl _ 592 [(0, (2, 1000001)), (1, (2, v1)), (2, (2, v2)), (3, (0, v3))] [] M
                                      refine r_aload_n (pc := 592) 1 (n := 1) (by decide +kernel) rfl rfl ?_
                                      refine r_aload_n (pc := 593) 0 (n := 0) (by decide +kernel) rfl rfl ?_
                                      refine r_iload_n (pc := 594) 3 (n := 3) (by decide +kernel) rfl rfl ?_
                                      refine r_iconst (pc := 595) (z := 1) (by decide +kernel) ⟨by decide, by decide⟩ ?_
                                      refine r_iadd (pc := 596) (by decide +kernel) ?_
                                      obtain ⟨e597, q597, h⟩ := bnd h
                                      refine r_sld (pc := 597) (by decide +kernel) q597 ?_
                                      refine r_aload_n (pc := 598) 0 (n := 0) (by decide +kernel) rfl rfl ?_
                                      refine r_iload_n (pc := 599) 3 (n := 3) (by decide +kernel) rfl rfl ?_
                                      refine r_iconst (pc := 600) (z := 2) (by decide +kernel) ⟨by decide, by decide⟩ ?_
                                      refine r_iadd (pc := 601) (by decide +kernel) ?_
                                      obtain ⟨e602, q602, h⟩ := bnd h
                                      refine r_sld (pc := 602) (by decide +kernel) q602 ?_
                                      refine r_aload_n (pc := 603) 0 (n := 0) (by decide +kernel) rfl rfl ?_
                                      refine r_iload_n (pc := 604) 3 (n := 3) (by decide +kernel) rfl rfl ?_
                                      refine r_iconst (pc := 605) (z := 3) (by decide +kernel) ⟨by decide, by decide⟩ ?_
                                      refine r_iadd (pc := 606) (by decide +kernel) ?_
                                      obtain ⟨e607, q607, h⟩ := bnd h
                                      refine r_sld (pc := 607) (by decide +kernel) q607 ?_
                                      obtain ⟨_, q608c, h⟩ := bnd h
                                      obtain ⟨x608, q608, h⟩ := bnd h
                                      refine r_callV (pc := 608) (i := 75) (d2 := d - 1) (As := [(0, e597), (0, e602), (0, e607)]) (st := []) (st1 := [(0, e607), (0, e602), (0, e597), (2, v1)]) (by decide +kernel) yk_T_grafted (by decide) rfl ⟨ml_law_75, vk_T_grafted⟩ np_T_grafted rfl (by omega) q608c (c_T_grafted (d := d - 1) (by omega) q608) (Nat.le_of_ble_eq_true rfl) (by omega) (by omega) rfl ?_
                                      show Rn _ d _ _ (ca + 12) (sl + 676) _ 611 [(0, (2, 1000001)), (1, (2, v1)), (2, (2, v2)), (3, (0, v3))] [(0, x608.1)] x608.2
                                      refine r_aload_n (pc := 611) 2 (n := 2) (by decide +kernel) rfl rfl ?_
                                      refine r_aload_n (pc := 612) 0 (n := 0) (by decide +kernel) rfl rfl ?_
                                      refine r_iload_n (pc := 613) 3 (n := 3) (by decide +kernel) rfl rfl ?_
                                      refine r_iconst (pc := 614) (z := 1) (by decide +kernel) ⟨by decide, by decide⟩ ?_
                                      refine r_iadd (pc := 615) (by decide +kernel) ?_
                                      obtain ⟨e616, q616, h⟩ := bnd h
                                      refine r_sld (pc := 616) (by decide +kernel) q616 ?_
                                      refine r_aload_n (pc := 617) 0 (n := 0) (by decide +kernel) rfl rfl ?_
                                      refine r_iload_n (pc := 618) 3 (n := 3) (by decide +kernel) rfl rfl ?_
                                      refine r_iconst (pc := 619) (z := 2) (by decide +kernel) ⟨by decide, by decide⟩ ?_
                                      refine r_iadd (pc := 620) (by decide +kernel) ?_
                                      obtain ⟨e621, q621, h⟩ := bnd h
                                      refine r_sld (pc := 621) (by decide +kernel) q621 ?_
                                      refine r_aload_n (pc := 622) 0 (n := 0) (by decide +kernel) rfl rfl ?_
                                      refine r_iload_n (pc := 623) 3 (n := 3) (by decide +kernel) rfl rfl ?_
                                      refine r_iconst (pc := 624) (z := 3) (by decide +kernel) ⟨by decide, by decide⟩ ?_
                                      refine r_iadd (pc := 625) (by decide +kernel) ?_
                                      obtain ⟨e626, q626, h⟩ := bnd h
                                      refine r_sld (pc := 626) (by decide +kernel) q626 ?_
                                      obtain ⟨_, q627c, h⟩ := bnd h
                                      obtain ⟨x627, q627, h⟩ := bnd h
                                      refine r_callV (pc := 627) (i := 78) (d2 := d - 1) (As := [(0, e616), (0, e621), (0, e626)]) (st := [(0, x608.1)]) (st1 := [(0, e626), (0, e621), (0, e616), (2, v2), (0, x608.1)]) (by decide +kernel) yk_M_grafted (by decide) rfl ⟨ml_law_78, vk_M_grafted⟩ np_M_grafted rfl (by omega) q627c (c_M_grafted (d := d - 1) (by omega) q627) (Nat.le_of_ble_eq_true rfl) (by omega) (by omega) rfl ?_
                                      show Rn _ d _ _ (ca + 12) (sl + 676) _ 630 [(0, (2, 1000001)), (1, (2, v1)), (2, (2, v2)), (3, (0, v3))] [(0, x627.1), (0, x608.1)] x627.2
                                      refine r_icmp_eq (pc := 630) (off := 429) (tgt := 1059) (by decide +kernel) (by decide) (fun c630 => ?_) (fun c630 => ?_)
                                      · have h := ite_t c630 h
                                        refine r_iinc (pc := 1059) 3 (n := 6) (lv' := [(3, (0, wr (v3 + 6))), (0, (2, 1000001)), (1, (2, v1)), (2, (2, v2))]) (by decide +kernel) rfl (Nat.le_of_ble_eq_true rfl) rfl ?_
                                        refine r_goto (pc := 1062) (off := (-1044)) (tgt := 18) (by decide +kernel) (by decide) ?_
                                        refine r_lv [1, 2, 3, 0] rfl ?_
                                        exact ih _ _ (wr (v3 + 6)) x627.2 (by omega) (by omega) h
                                      · have h := ite_f c630 h
                                        refine r_iconst (pc := 633) (z := 0) (by decide +kernel) ⟨by decide, by decide⟩ ?_
                                        obtain rfl := Option.some.inj h
                                        exact r_ret (pc := 634) (r := some (0, 0)) (by decide +kernel) rfl (Or.inl rfl) (by omega) (by omega)
                                    · have h := ite_f e14 h
                                      by_cases e15 : (iand e29 31) = 15
                                      · have h := ite_t e15 h
                                        obtain rfl : j = 15 := by omega
                                        show Rn _ d _ _ ca sl _ 635 [(0, (2, 1000001)), (1, (2, v1)), (2, (2, v2)), (3, (0, v3))] [] M
                                        refine r_aload_n (pc := 635) 1 (n := 1) (by decide +kernel) rfl rfl ?_
                                        obtain ⟨_, q636c, h⟩ := bnd h
                                        obtain ⟨x636, q636, h⟩ := bnd h
                                        refine r_callV (pc := 636) (i := 79) (d2 := d - 1) (As := []) (st := []) (st1 := [(2, v1)]) (by decide +kernel) yk_T_undo (by decide) rfl ⟨ml_law_79, vk_T_undo⟩ np_T_undo rfl (by omega) q636c (c_T_undo (d := d - 1) (by omega) q636) (Nat.le_of_ble_eq_true rfl) (by omega) (by omega) rfl ?_
                                        show Rn _ d _ _ ca sl _ 639 [(0, (2, 1000001)), (1, (2, v1)), (2, (2, v2)), (3, (0, v3))] [(0, x636.1)] x636.2
                                        refine r_aload_n (pc := 639) 2 (n := 2) (by decide +kernel) rfl rfl ?_
                                        obtain ⟨_, q640c, h⟩ := bnd h
                                        obtain ⟨x640, q640, h⟩ := bnd h
                                        refine r_callV (pc := 640) (i := 82) (d2 := d - 1) (As := []) (st := [(0, x636.1)]) (st1 := [(2, v2), (0, x636.1)]) (by decide +kernel) yk_M_undo (by decide) rfl ⟨ml_law_82, vk_M_undo⟩ np_M_undo rfl (by omega) q640c (c_M_undo (d := d - 1) (by omega) q640) (Nat.le_of_ble_eq_true rfl) (by omega) (by omega) rfl ?_
                                        show Rn _ d _ _ ca sl _ 643 [(0, (2, 1000001)), (1, (2, v1)), (2, (2, v2)), (3, (0, v3))] [(0, x640.1), (0, x636.1)] x640.2
                                        refine r_icmp_eq (pc := 643) (off := 416) (tgt := 1059) (by decide +kernel) (by decide) (fun c643 => ?_) (fun c643 => ?_)
                                        · have h := ite_t c643 h
                                          refine r_iinc (pc := 1059) 3 (n := 6) (lv' := [(3, (0, wr (v3 + 6))), (0, (2, 1000001)), (1, (2, v1)), (2, (2, v2))]) (by decide +kernel) rfl (Nat.le_of_ble_eq_true rfl) rfl ?_
                                          refine r_goto (pc := 1062) (off := (-1044)) (tgt := 18) (by decide +kernel) (by decide) ?_
                                          refine r_lv [1, 2, 3, 0] rfl ?_
                                          exact ih _ _ (wr (v3 + 6)) x640.2 (by omega) (by omega) h
                                        · have h := ite_f c643 h
                                          refine r_iconst (pc := 646) (z := 0) (by decide +kernel) ⟨by decide, by decide⟩ ?_
                                          obtain rfl := Option.some.inj h
                                          exact r_ret (pc := 647) (r := some (0, 0)) (by decide +kernel) rfl (Or.inl rfl) (by omega) (by omega)
                                      · have h := ite_f e15 h
                                        by_cases e16 : (iand e29 31) = 16
                                        · have h := ite_t e16 h
                                          obtain rfl : j = 16 := by omega
                                          show Rn _ d _ _ ca sl _ 648 [(0, (2, 1000001)), (1, (2, v1)), (2, (2, v2)), (3, (0, v3))] [] M
                                          refine r_aload_n (pc := 648) 1 (n := 1) (by decide +kernel) rfl rfl ?_
                                          refine r_aload_n (pc := 649) 0 (n := 0) (by decide +kernel) rfl rfl ?_
                                          refine r_iload_n (pc := 650) 3 (n := 3) (by decide +kernel) rfl rfl ?_
                                          refine r_iconst (pc := 651) (z := 1) (by decide +kernel) ⟨by decide, by decide⟩ ?_
                                          refine r_iadd (pc := 652) (by decide +kernel) ?_
                                          obtain ⟨e653, q653, h⟩ := bnd h
                                          refine r_sld (pc := 653) (by decide +kernel) q653 ?_
                                          obtain ⟨_, q654c, h⟩ := bnd h
                                          obtain ⟨x654, q654, h⟩ := bnd h
                                          refine r_callV (pc := 654) (i := 83) (d2 := d - 1) (As := [(0, e653)]) (st := []) (st1 := [(0, e653), (2, v1)]) (by decide +kernel) yk_T_classes (by decide) rfl ⟨ml_law_83, vk_T_classes⟩ np_T_classes rfl (by omega) q654c (c_T_classes (d := d - 1) (by omega) q654) (Nat.le_of_ble_eq_true rfl) (by omega) (by omega) rfl ?_
                                          show Rn _ d _ _ ca sl _ 657 [(0, (2, 1000001)), (1, (2, v1)), (2, (2, v2)), (3, (0, v3))] [(0, x654.1)] x654.2
                                          refine r_aload_n (pc := 657) 2 (n := 2) (by decide +kernel) rfl rfl ?_
                                          refine r_aload_n (pc := 658) 0 (n := 0) (by decide +kernel) rfl rfl ?_
                                          refine r_iload_n (pc := 659) 3 (n := 3) (by decide +kernel) rfl rfl ?_
                                          refine r_iconst (pc := 660) (z := 1) (by decide +kernel) ⟨by decide, by decide⟩ ?_
                                          refine r_iadd (pc := 661) (by decide +kernel) ?_
                                          obtain ⟨e662, q662, h⟩ := bnd h
                                          refine r_sld (pc := 662) (by decide +kernel) q662 ?_
                                          obtain ⟨_, q663c, h⟩ := bnd h
                                          obtain ⟨x663, q663, h⟩ := bnd h
                                          refine r_callV (pc := 663) (i := 86) (d2 := d - 1) (As := [(0, e662)]) (st := [(0, x654.1)]) (st1 := [(0, e662), (2, v2), (0, x654.1)]) (by decide +kernel) yk_M_classes (by decide) rfl ⟨ml_law_86, vk_M_classes⟩ np_M_classes rfl (by omega) q663c (c_M_classes (d := d - 1) (by omega) q663) (Nat.le_of_ble_eq_true rfl) (by omega) (by omega) rfl ?_
                                          show Rn _ d _ _ ca sl _ 666 [(0, (2, 1000001)), (1, (2, v1)), (2, (2, v2)), (3, (0, v3))] [(0, x663.1), (0, x654.1)] x663.2
                                          refine r_icmp_eq (pc := 666) (off := 393) (tgt := 1059) (by decide +kernel) (by decide) (fun c666 => ?_) (fun c666 => ?_)
                                          · have h := ite_t c666 h
                                            refine r_iinc (pc := 1059) 3 (n := 6) (lv' := [(3, (0, wr (v3 + 6))), (0, (2, 1000001)), (1, (2, v1)), (2, (2, v2))]) (by decide +kernel) rfl (Nat.le_of_ble_eq_true rfl) rfl ?_
                                            refine r_goto (pc := 1062) (off := (-1044)) (tgt := 18) (by decide +kernel) (by decide) ?_
                                            refine r_lv [1, 2, 3, 0] rfl ?_
                                            exact ih _ _ (wr (v3 + 6)) x663.2 (by omega) (by omega) h
                                          · have h := ite_f c666 h
                                            refine r_iconst (pc := 669) (z := 0) (by decide +kernel) ⟨by decide, by decide⟩ ?_
                                            obtain rfl := Option.some.inj h
                                            exact r_ret (pc := 670) (r := some (0, 0)) (by decide +kernel) rfl (Or.inl rfl) (by omega) (by omega)
                                        · have h := ite_f e16 h
                                          by_cases e17 : (iand e29 31) = 17
                                          · have h := ite_t e17 h
                                            obtain rfl : j = 17 := by omega
                                            show Rn _ d _ _ ca sl _ 671 [(0, (2, 1000001)), (1, (2, v1)), (2, (2, v2)), (3, (0, v3))] [] M
                                            refine r_aload_n (pc := 671) 1 (n := 1) (by decide +kernel) rfl rfl ?_
                                            refine r_aload_n (pc := 672) 0 (n := 0) (by decide +kernel) rfl rfl ?_
                                            refine r_iload_n (pc := 673) 3 (n := 3) (by decide +kernel) rfl rfl ?_
                                            refine r_iconst (pc := 674) (z := 1) (by decide +kernel) ⟨by decide, by decide⟩ ?_
                                            refine r_iadd (pc := 675) (by decide +kernel) ?_
                                            obtain ⟨e676, q676, h⟩ := bnd h
                                            refine r_sld (pc := 676) (by decide +kernel) q676 ?_
                                            refine r_aload_n (pc := 677) 0 (n := 0) (by decide +kernel) rfl rfl ?_
                                            refine r_iload_n (pc := 678) 3 (n := 3) (by decide +kernel) rfl rfl ?_
                                            refine r_iconst (pc := 679) (z := 2) (by decide +kernel) ⟨by decide, by decide⟩ ?_
                                            refine r_iadd (pc := 680) (by decide +kernel) ?_
                                            obtain ⟨e681, q681, h⟩ := bnd h
                                            refine r_sld (pc := 681) (by decide +kernel) q681 ?_
                                            refine r_aload_n (pc := 682) 0 (n := 0) (by decide +kernel) rfl rfl ?_
                                            refine r_iload_n (pc := 683) 3 (n := 3) (by decide +kernel) rfl rfl ?_
                                            refine r_iconst (pc := 684) (z := 3) (by decide +kernel) ⟨by decide, by decide⟩ ?_
                                            refine r_iadd (pc := 685) (by decide +kernel) ?_
                                            obtain ⟨e686, q686, h⟩ := bnd h
                                            refine r_sld (pc := 686) (by decide +kernel) q686 ?_
                                            refine r_aload_n (pc := 687) 0 (n := 0) (by decide +kernel) rfl rfl ?_
                                            refine r_iload_n (pc := 688) 3 (n := 3) (by decide +kernel) rfl rfl ?_
                                            refine r_iconst (pc := 689) (z := 4) (by decide +kernel) ⟨by decide, by decide⟩ ?_
                                            refine r_iadd (pc := 690) (by decide +kernel) ?_
                                            obtain ⟨e691, q691, h⟩ := bnd h
                                            refine r_sld (pc := 691) (by decide +kernel) q691 ?_
                                            obtain ⟨_, q692c, h⟩ := bnd h
                                            obtain ⟨x692, q692, h⟩ := bnd h
                                            refine r_callV (pc := 692) (i := 87) (d2 := d - 1) (As := [(0, e676), (0, e681), (0, e686), (0, e691)]) (st := []) (st1 := [(0, e691), (0, e686), (0, e681), (0, e676), (2, v1)]) (by decide +kernel) yk_T_go (by decide) rfl ⟨ml_law_87, vk_T_go⟩ np_T_go rfl (by omega) q692c (c_T_go (d := d - 1) (by omega) q692) (Nat.le_of_ble_eq_true rfl) (by omega) (by omega) rfl ?_
                                            show Rn _ d _ _ ca sl _ 695 [(0, (2, 1000001)), (1, (2, v1)), (2, (2, v2)), (3, (0, v3))] [(0, x692.1)] x692.2
                                            refine r_aload_n (pc := 695) 2 (n := 2) (by decide +kernel) rfl rfl ?_
                                            refine r_aload_n (pc := 696) 0 (n := 0) (by decide +kernel) rfl rfl ?_
                                            refine r_iload_n (pc := 697) 3 (n := 3) (by decide +kernel) rfl rfl ?_
                                            refine r_iconst (pc := 698) (z := 1) (by decide +kernel) ⟨by decide, by decide⟩ ?_
                                            refine r_iadd (pc := 699) (by decide +kernel) ?_
                                            obtain ⟨e700, q700, h⟩ := bnd h
                                            refine r_sld (pc := 700) (by decide +kernel) q700 ?_
                                            refine r_aload_n (pc := 701) 0 (n := 0) (by decide +kernel) rfl rfl ?_
                                            refine r_iload_n (pc := 702) 3 (n := 3) (by decide +kernel) rfl rfl ?_
                                            refine r_iconst (pc := 703) (z := 2) (by decide +kernel) ⟨by decide, by decide⟩ ?_
                                            refine r_iadd (pc := 704) (by decide +kernel) ?_
                                            obtain ⟨e705, q705, h⟩ := bnd h
                                            refine r_sld (pc := 705) (by decide +kernel) q705 ?_
                                            refine r_aload_n (pc := 706) 0 (n := 0) (by decide +kernel) rfl rfl ?_
                                            refine r_iload_n (pc := 707) 3 (n := 3) (by decide +kernel) rfl rfl ?_
                                            refine r_iconst (pc := 708) (z := 3) (by decide +kernel) ⟨by decide, by decide⟩ ?_
                                            refine r_iadd (pc := 709) (by decide +kernel) ?_
                                            obtain ⟨e710, q710, h⟩ := bnd h
                                            refine r_sld (pc := 710) (by decide +kernel) q710 ?_
                                            refine r_aload_n (pc := 711) 0 (n := 0) (by decide +kernel) rfl rfl ?_
                                            refine r_iload_n (pc := 712) 3 (n := 3) (by decide +kernel) rfl rfl ?_
                                            refine r_iconst (pc := 713) (z := 4) (by decide +kernel) ⟨by decide, by decide⟩ ?_
                                            refine r_iadd (pc := 714) (by decide +kernel) ?_
                                            obtain ⟨e715, q715, h⟩ := bnd h
                                            refine r_sld (pc := 715) (by decide +kernel) q715 ?_
                                            obtain ⟨_, q716c, h⟩ := bnd h
                                            obtain ⟨x716, q716, h⟩ := bnd h
                                            refine r_callV (pc := 716) (i := 91) (d2 := d - 1) (As := [(0, e700), (0, e705), (0, e710), (0, e715)]) (st := [(0, x692.1)]) (st1 := [(0, e715), (0, e710), (0, e705), (0, e700), (2, v2), (0, x692.1)]) (by decide +kernel) yk_M_go (by decide) rfl ⟨ml_law_91, vk_M_go⟩ np_M_go rfl (by omega) q716c (c_M_go (d := d - 1) (by omega) q716) (Nat.le_of_ble_eq_true rfl) (by omega) (by omega) rfl ?_
                                            show Rn _ d _ _ ca sl _ 719 [(0, (2, 1000001)), (1, (2, v1)), (2, (2, v2)), (3, (0, v3))] [(0, x716.1), (0, x692.1)] x716.2
                                            refine r_icmp_eq (pc := 719) (off := 340) (tgt := 1059) (by decide +kernel) (by decide) (fun c719 => ?_) (fun c719 => ?_)
                                            · have h := ite_t c719 h
                                              refine r_iinc (pc := 1059) 3 (n := 6) (lv' := [(3, (0, wr (v3 + 6))), (0, (2, 1000001)), (1, (2, v1)), (2, (2, v2))]) (by decide +kernel) rfl (Nat.le_of_ble_eq_true rfl) rfl ?_
                                              refine r_goto (pc := 1062) (off := (-1044)) (tgt := 18) (by decide +kernel) (by decide) ?_
                                              refine r_lv [1, 2, 3, 0] rfl ?_
                                              exact ih _ _ (wr (v3 + 6)) x716.2 (by omega) (by omega) h
                                            · have h := ite_f c719 h
                                              refine r_iconst (pc := 722) (z := 0) (by decide +kernel) ⟨by decide, by decide⟩ ?_
                                              obtain rfl := Option.some.inj h
                                              exact r_ret (pc := 723) (r := some (0, 0)) (by decide +kernel) rfl (Or.inl rfl) (by omega) (by omega)
                                          · have h := ite_f e17 h
                                            by_cases e18 : (iand e29 31) = 18
                                            · have h := ite_t e18 h
                                              obtain rfl : j = 18 := by omega
                                              show Rn _ d _ _ ca sl _ 724 [(0, (2, 1000001)), (1, (2, v1)), (2, (2, v2)), (3, (0, v3))] [] M
                                              refine r_aload_n (pc := 724) 1 (n := 1) (by decide +kernel) rfl rfl ?_
                                              refine r_aload_n (pc := 725) 0 (n := 0) (by decide +kernel) rfl rfl ?_
                                              refine r_iload_n (pc := 726) 3 (n := 3) (by decide +kernel) rfl rfl ?_
                                              refine r_iconst (pc := 727) (z := 1) (by decide +kernel) ⟨by decide, by decide⟩ ?_
                                              refine r_iadd (pc := 728) (by decide +kernel) ?_
                                              obtain ⟨e729, q729, h⟩ := bnd h
                                              refine r_sld (pc := 729) (by decide +kernel) q729 ?_
                                              refine r_aload_n (pc := 730) 0 (n := 0) (by decide +kernel) rfl rfl ?_
                                              refine r_iload_n (pc := 731) 3 (n := 3) (by decide +kernel) rfl rfl ?_
                                              refine r_iconst (pc := 732) (z := 2) (by decide +kernel) ⟨by decide, by decide⟩ ?_
                                              refine r_iadd (pc := 733) (by decide +kernel) ?_
                                              obtain ⟨e734, q734, h⟩ := bnd h
                                              refine r_sld (pc := 734) (by decide +kernel) q734 ?_
                                              obtain ⟨_, q735c, h⟩ := bnd h
                                              obtain ⟨x735, q735, h⟩ := bnd h
                                              refine r_callV (pc := 735) (i := 92) (d2 := d - 1) (As := [(0, e729), (0, e734)]) (st := []) (st1 := [(0, e734), (0, e729), (2, v1)]) (by decide +kernel) yk_T_isLast (by decide) rfl ⟨ml_law_92, vk_T_isLast⟩ np_T_isLast rfl (by omega) q735c (c_T_isLast (d := d - 1) (by omega) q735) (Nat.le_of_ble_eq_true rfl) (by omega) (by omega) rfl ?_
                                              show Rn _ d _ _ ca sl _ 738 [(0, (2, 1000001)), (1, (2, v1)), (2, (2, v2)), (3, (0, v3))] [(0, x735.1)] x735.2
                                              refine r_aload_n (pc := 738) 2 (n := 2) (by decide +kernel) rfl rfl ?_
                                              refine r_aload_n (pc := 739) 0 (n := 0) (by decide +kernel) rfl rfl ?_
                                              refine r_iload_n (pc := 740) 3 (n := 3) (by decide +kernel) rfl rfl ?_
                                              refine r_iconst (pc := 741) (z := 1) (by decide +kernel) ⟨by decide, by decide⟩ ?_
                                              refine r_iadd (pc := 742) (by decide +kernel) ?_
                                              obtain ⟨e743, q743, h⟩ := bnd h
                                              refine r_sld (pc := 743) (by decide +kernel) q743 ?_
                                              refine r_aload_n (pc := 744) 0 (n := 0) (by decide +kernel) rfl rfl ?_
                                              refine r_iload_n (pc := 745) 3 (n := 3) (by decide +kernel) rfl rfl ?_
                                              refine r_iconst (pc := 746) (z := 2) (by decide +kernel) ⟨by decide, by decide⟩ ?_
                                              refine r_iadd (pc := 747) (by decide +kernel) ?_
                                              obtain ⟨e748, q748, h⟩ := bnd h
                                              refine r_sld (pc := 748) (by decide +kernel) q748 ?_
                                              obtain ⟨_, q749c, h⟩ := bnd h
                                              obtain ⟨x749, q749, h⟩ := bnd h
                                              refine r_callV (pc := 749) (i := 95) (d2 := d - 1) (As := [(0, e743), (0, e748)]) (st := [(0, x735.1)]) (st1 := [(0, e748), (0, e743), (2, v2), (0, x735.1)]) (by decide +kernel) yk_M_isLast (by decide) rfl ⟨ml_law_95, vk_M_isLast⟩ np_M_isLast rfl (by omega) q749c (c_M_isLast (d := d - 1) (by omega) q749) (Nat.le_of_ble_eq_true rfl) (by omega) (by omega) rfl ?_
                                              show Rn _ d _ _ ca sl _ 752 [(0, (2, 1000001)), (1, (2, v1)), (2, (2, v2)), (3, (0, v3))] [(0, x749.1), (0, x735.1)] x749.2
                                              refine r_icmp_eq (pc := 752) (off := 307) (tgt := 1059) (by decide +kernel) (by decide) (fun c752 => ?_) (fun c752 => ?_)
                                              · have h := ite_t c752 h
                                                refine r_iinc (pc := 1059) 3 (n := 6) (lv' := [(3, (0, wr (v3 + 6))), (0, (2, 1000001)), (1, (2, v1)), (2, (2, v2))]) (by decide +kernel) rfl (Nat.le_of_ble_eq_true rfl) rfl ?_
                                                refine r_goto (pc := 1062) (off := (-1044)) (tgt := 18) (by decide +kernel) (by decide) ?_
                                                refine r_lv [1, 2, 3, 0] rfl ?_
                                                exact ih _ _ (wr (v3 + 6)) x749.2 (by omega) (by omega) h
                                              · have h := ite_f c752 h
                                                refine r_iconst (pc := 755) (z := 0) (by decide +kernel) ⟨by decide, by decide⟩ ?_
                                                obtain rfl := Option.some.inj h
                                                exact r_ret (pc := 756) (r := some (0, 0)) (by decide +kernel) rfl (Or.inl rfl) (by omega) (by omega)
                                            · have h := ite_f e18 h
                                              by_cases e19 : (iand e29 31) = 19
                                              · have h := ite_t e19 h
                                                obtain rfl : j = 19 := by omega
                                                show Rn _ d _ _ ca sl _ 757 [(0, (2, 1000001)), (1, (2, v1)), (2, (2, v2)), (3, (0, v3))] [] M
                                                refine r_aload_n (pc := 757) 1 (n := 1) (by decide +kernel) rfl rfl ?_
                                                refine r_aload_n (pc := 758) 0 (n := 0) (by decide +kernel) rfl rfl ?_
                                                refine r_iload_n (pc := 759) 3 (n := 3) (by decide +kernel) rfl rfl ?_
                                                refine r_iconst (pc := 760) (z := 1) (by decide +kernel) ⟨by decide, by decide⟩ ?_
                                                refine r_iadd (pc := 761) (by decide +kernel) ?_
                                                obtain ⟨e762, q762, h⟩ := bnd h
                                                refine r_sld (pc := 762) (by decide +kernel) q762 ?_
                                                refine r_aload_n (pc := 763) 0 (n := 0) (by decide +kernel) rfl rfl ?_
                                                refine r_iload_n (pc := 764) 3 (n := 3) (by decide +kernel) rfl rfl ?_
                                                refine r_iconst (pc := 765) (z := 2) (by decide +kernel) ⟨by decide, by decide⟩ ?_
                                                refine r_iadd (pc := 766) (by decide +kernel) ?_
                                                obtain ⟨e767, q767, h⟩ := bnd h
                                                refine r_sld (pc := 767) (by decide +kernel) q767 ?_
                                                obtain ⟨_, q768c, h⟩ := bnd h
                                                obtain ⟨x768, q768, h⟩ := bnd h
                                                refine r_callV (pc := 768) (i := 96) (d2 := d - 1) (As := [(0, e762), (0, e767)]) (st := []) (st1 := [(0, e767), (0, e762), (2, v1)]) (by decide +kernel) yk_T_size (by decide) rfl ⟨ml_law_96, vk_T_size⟩ np_T_size rfl (by omega) q768c (c_T_size (d := d - 1) (by omega) q768) (Nat.le_of_ble_eq_true rfl) (by omega) (by omega) rfl ?_
                                                show Rn _ d _ _ ca sl _ 771 [(0, (2, 1000001)), (1, (2, v1)), (2, (2, v2)), (3, (0, v3))] [(0, x768.1)] x768.2
                                                refine r_aload_n (pc := 771) 2 (n := 2) (by decide +kernel) rfl rfl ?_
                                                refine r_aload_n (pc := 772) 0 (n := 0) (by decide +kernel) rfl rfl ?_
                                                refine r_iload_n (pc := 773) 3 (n := 3) (by decide +kernel) rfl rfl ?_
                                                refine r_iconst (pc := 774) (z := 1) (by decide +kernel) ⟨by decide, by decide⟩ ?_
                                                refine r_iadd (pc := 775) (by decide +kernel) ?_
                                                obtain ⟨e776, q776, h⟩ := bnd h
                                                refine r_sld (pc := 776) (by decide +kernel) q776 ?_
                                                refine r_aload_n (pc := 777) 0 (n := 0) (by decide +kernel) rfl rfl ?_
                                                refine r_iload_n (pc := 778) 3 (n := 3) (by decide +kernel) rfl rfl ?_
                                                refine r_iconst (pc := 779) (z := 2) (by decide +kernel) ⟨by decide, by decide⟩ ?_
                                                refine r_iadd (pc := 780) (by decide +kernel) ?_
                                                obtain ⟨e781, q781, h⟩ := bnd h
                                                refine r_sld (pc := 781) (by decide +kernel) q781 ?_
                                                obtain ⟨_, q782c, h⟩ := bnd h
                                                obtain ⟨x782, q782, h⟩ := bnd h
                                                refine r_callV (pc := 782) (i := 99) (d2 := d - 1) (As := [(0, e776), (0, e781)]) (st := [(0, x768.1)]) (st1 := [(0, e781), (0, e776), (2, v2), (0, x768.1)]) (by decide +kernel) yk_M_size (by decide) rfl ⟨ml_law_99, vk_M_size⟩ np_M_size rfl (by omega) q782c (c_M_size (d := d - 1) (by omega) q782) (Nat.le_of_ble_eq_true rfl) (by omega) (by omega) rfl ?_
                                                show Rn _ d _ _ ca sl _ 785 [(0, (2, 1000001)), (1, (2, v1)), (2, (2, v2)), (3, (0, v3))] [(0, x782.1), (0, x768.1)] x782.2
                                                refine r_icmp_eq (pc := 785) (off := 274) (tgt := 1059) (by decide +kernel) (by decide) (fun c785 => ?_) (fun c785 => ?_)
                                                · have h := ite_t c785 h
                                                  refine r_iinc (pc := 1059) 3 (n := 6) (lv' := [(3, (0, wr (v3 + 6))), (0, (2, 1000001)), (1, (2, v1)), (2, (2, v2))]) (by decide +kernel) rfl (Nat.le_of_ble_eq_true rfl) rfl ?_
                                                  refine r_goto (pc := 1062) (off := (-1044)) (tgt := 18) (by decide +kernel) (by decide) ?_
                                                  refine r_lv [1, 2, 3, 0] rfl ?_
                                                  exact ih _ _ (wr (v3 + 6)) x782.2 (by omega) (by omega) h
                                                · have h := ite_f c785 h
                                                  refine r_iconst (pc := 788) (z := 0) (by decide +kernel) ⟨by decide, by decide⟩ ?_
                                                  obtain rfl := Option.some.inj h
                                                  exact r_ret (pc := 789) (r := some (0, 0)) (by decide +kernel) rfl (Or.inl rfl) (by omega) (by omega)
                                              · have h := ite_f e19 h
                                                by_cases e20 : (iand e29 31) = 20
                                                · have h := ite_t e20 h
                                                  obtain rfl : j = 20 := by omega
                                                  show Rn _ d _ _ ca sl _ 790 [(0, (2, 1000001)), (1, (2, v1)), (2, (2, v2)), (3, (0, v3))] [] M
                                                  refine r_aload_n (pc := 790) 1 (n := 1) (by decide +kernel) rfl rfl ?_
                                                  refine r_aload_n (pc := 791) 0 (n := 0) (by decide +kernel) rfl rfl ?_
                                                  refine r_iload_n (pc := 792) 3 (n := 3) (by decide +kernel) rfl rfl ?_
                                                  refine r_iconst (pc := 793) (z := 1) (by decide +kernel) ⟨by decide, by decide⟩ ?_
                                                  refine r_iadd (pc := 794) (by decide +kernel) ?_
                                                  obtain ⟨e795, q795, h⟩ := bnd h
                                                  refine r_sld (pc := 795) (by decide +kernel) q795 ?_
                                                  obtain ⟨_, q796c, h⟩ := bnd h
                                                  obtain ⟨x796, q796, h⟩ := bnd h
                                                  refine r_callV (pc := 796) (i := 100) (d2 := d - 1) (As := [(0, e795)]) (st := []) (st1 := [(0, e795), (2, v1)]) (by decide +kernel) yk_T_classOf (by decide) rfl ⟨ml_law_100, vk_T_classOf⟩ np_T_classOf rfl (by omega) q796c (c_T_classOf (d := d - 1) (by omega) q796) (Nat.le_of_ble_eq_true rfl) (by omega) (by omega) rfl ?_
                                                  show Rn _ d _ _ ca sl _ 799 [(0, (2, 1000001)), (1, (2, v1)), (2, (2, v2)), (3, (0, v3))] [(0, x796.1)] x796.2
                                                  refine r_aload_n (pc := 799) 2 (n := 2) (by decide +kernel) rfl rfl ?_
                                                  refine r_aload_n (pc := 800) 0 (n := 0) (by decide +kernel) rfl rfl ?_
                                                  refine r_iload_n (pc := 801) 3 (n := 3) (by decide +kernel) rfl rfl ?_
                                                  refine r_iconst (pc := 802) (z := 1) (by decide +kernel) ⟨by decide, by decide⟩ ?_
                                                  refine r_iadd (pc := 803) (by decide +kernel) ?_
                                                  obtain ⟨e804, q804, h⟩ := bnd h
                                                  refine r_sld (pc := 804) (by decide +kernel) q804 ?_
                                                  obtain ⟨_, q805c, h⟩ := bnd h
                                                  obtain ⟨x805, q805, h⟩ := bnd h
                                                  refine r_callV (pc := 805) (i := 103) (d2 := d - 1) (As := [(0, e804)]) (st := [(0, x796.1)]) (st1 := [(0, e804), (2, v2), (0, x796.1)]) (by decide +kernel) yk_M_classOf (by decide) rfl ⟨ml_law_103, vk_M_classOf⟩ np_M_classOf rfl (by omega) q805c (c_M_classOf (d := d - 1) (by omega) q805) (Nat.le_of_ble_eq_true rfl) (by omega) (by omega) rfl ?_
                                                  show Rn _ d _ _ ca sl _ 808 [(0, (2, 1000001)), (1, (2, v1)), (2, (2, v2)), (3, (0, v3))] [(0, x805.1), (0, x796.1)] x805.2
                                                  refine r_icmp_eq (pc := 808) (off := 251) (tgt := 1059) (by decide +kernel) (by decide) (fun c808 => ?_) (fun c808 => ?_)
                                                  · have h := ite_t c808 h
                                                    refine r_iinc (pc := 1059) 3 (n := 6) (lv' := [(3, (0, wr (v3 + 6))), (0, (2, 1000001)), (1, (2, v1)), (2, (2, v2))]) (by decide +kernel) rfl (Nat.le_of_ble_eq_true rfl) rfl ?_
                                                    refine r_goto (pc := 1062) (off := (-1044)) (tgt := 18) (by decide +kernel) (by decide) ?_
                                                    refine r_lv [1, 2, 3, 0] rfl ?_
                                                    exact ih _ _ (wr (v3 + 6)) x805.2 (by omega) (by omega) h
                                                  · have h := ite_f c808 h
                                                    refine r_iconst (pc := 811) (z := 0) (by decide +kernel) ⟨by decide, by decide⟩ ?_
                                                    obtain rfl := Option.some.inj h
                                                    exact r_ret (pc := 812) (r := some (0, 0)) (by decide +kernel) rfl (Or.inl rfl) (by omega) (by omega)
                                                · have h := ite_f e20 h
                                                  by_cases e21 : (iand e29 31) = 21
                                                  · have h := ite_t e21 h
                                                    obtain rfl : j = 21 := by omega
                                                    show Rn _ d _ _ ca sl _ 813 [(0, (2, 1000001)), (1, (2, v1)), (2, (2, v2)), (3, (0, v3))] [] M
                                                    refine r_aload_n (pc := 813) 1 (n := 1) (by decide +kernel) rfl rfl ?_
                                                    refine r_aload_n (pc := 814) 0 (n := 0) (by decide +kernel) rfl rfl ?_
                                                    refine r_iload_n (pc := 815) 3 (n := 3) (by decide +kernel) rfl rfl ?_
                                                    refine r_iconst (pc := 816) (z := 1) (by decide +kernel) ⟨by decide, by decide⟩ ?_
                                                    refine r_iadd (pc := 817) (by decide +kernel) ?_
                                                    obtain ⟨e818, q818, h⟩ := bnd h
                                                    refine r_sld (pc := 818) (by decide +kernel) q818 ?_
                                                    obtain ⟨_, q819c, h⟩ := bnd h
                                                    obtain ⟨x819, q819, h⟩ := bnd h
                                                    refine r_callV (pc := 819) (i := 104) (d2 := d - 1) (As := [(0, e818)]) (st := []) (st1 := [(0, e818), (2, v1)]) (by decide +kernel) yk_T_has (by decide) rfl ⟨ml_law_104, vk_T_has⟩ np_T_has rfl (by omega) q819c (c_T_has (d := d - 1) (by omega) q819) (Nat.le_of_ble_eq_true rfl) (by omega) (by omega) rfl ?_
                                                    show Rn _ d _ _ ca sl _ 822 [(0, (2, 1000001)), (1, (2, v1)), (2, (2, v2)), (3, (0, v3))] [(0, x819.1)] x819.2
                                                    refine r_aload_n (pc := 822) 2 (n := 2) (by decide +kernel) rfl rfl ?_
                                                    refine r_aload_n (pc := 823) 0 (n := 0) (by decide +kernel) rfl rfl ?_
                                                    refine r_iload_n (pc := 824) 3 (n := 3) (by decide +kernel) rfl rfl ?_
                                                    refine r_iconst (pc := 825) (z := 1) (by decide +kernel) ⟨by decide, by decide⟩ ?_
                                                    refine r_iadd (pc := 826) (by decide +kernel) ?_
                                                    obtain ⟨e827, q827, h⟩ := bnd h
                                                    refine r_sld (pc := 827) (by decide +kernel) q827 ?_
                                                    obtain ⟨_, q828c, h⟩ := bnd h
                                                    obtain ⟨x828, q828, h⟩ := bnd h
                                                    refine r_callV (pc := 828) (i := 107) (d2 := d - 1) (As := [(0, e827)]) (st := [(0, x819.1)]) (st1 := [(0, e827), (2, v2), (0, x819.1)]) (by decide +kernel) yk_M_has (by decide) rfl ⟨ml_law_107, vk_M_has⟩ np_M_has rfl (by omega) q828c (c_M_has (d := d - 1) (by omega) q828) (Nat.le_of_ble_eq_true rfl) (by omega) (by omega) rfl ?_
                                                    show Rn _ d _ _ ca sl _ 831 [(0, (2, 1000001)), (1, (2, v1)), (2, (2, v2)), (3, (0, v3))] [(0, x828.1), (0, x819.1)] x828.2
                                                    refine r_icmp_eq (pc := 831) (off := 228) (tgt := 1059) (by decide +kernel) (by decide) (fun c831 => ?_) (fun c831 => ?_)
                                                    · have h := ite_t c831 h
                                                      refine r_iinc (pc := 1059) 3 (n := 6) (lv' := [(3, (0, wr (v3 + 6))), (0, (2, 1000001)), (1, (2, v1)), (2, (2, v2))]) (by decide +kernel) rfl (Nat.le_of_ble_eq_true rfl) rfl ?_
                                                      refine r_goto (pc := 1062) (off := (-1044)) (tgt := 18) (by decide +kernel) (by decide) ?_
                                                      refine r_lv [1, 2, 3, 0] rfl ?_
                                                      exact ih _ _ (wr (v3 + 6)) x828.2 (by omega) (by omega) h
                                                    · have h := ite_f c831 h
                                                      refine r_iconst (pc := 834) (z := 0) (by decide +kernel) ⟨by decide, by decide⟩ ?_
                                                      obtain rfl := Option.some.inj h
                                                      exact r_ret (pc := 835) (r := some (0, 0)) (by decide +kernel) rfl (Or.inl rfl) (by omega) (by omega)
                                                  · have h := ite_f e21 h
                                                    by_cases e22 : (iand e29 31) = 22
                                                    · have h := ite_t e22 h
                                                      obtain rfl : j = 22 := by omega
                                                      show Rn _ d _ _ ca sl _ 836 [(0, (2, 1000001)), (1, (2, v1)), (2, (2, v2)), (3, (0, v3))] [] M
                                                      refine r_aload_n (pc := 836) 1 (n := 1) (by decide +kernel) rfl rfl ?_
                                                      refine r_aload_n (pc := 837) 0 (n := 0) (by decide +kernel) rfl rfl ?_
                                                      refine r_iload_n (pc := 838) 3 (n := 3) (by decide +kernel) rfl rfl ?_
                                                      refine r_iconst (pc := 839) (z := 1) (by decide +kernel) ⟨by decide, by decide⟩ ?_
                                                      refine r_iadd (pc := 840) (by decide +kernel) ?_
                                                      obtain ⟨e841, q841, h⟩ := bnd h
                                                      refine r_sld (pc := 841) (by decide +kernel) q841 ?_
                                                      obtain ⟨_, q842c, h⟩ := bnd h
                                                      obtain ⟨x842, q842, h⟩ := bnd h
                                                      refine r_callV (pc := 842) (i := 108) (d2 := d - 1) (As := [(0, e841)]) (st := []) (st1 := [(0, e841), (2, v1)]) (by decide +kernel) yk_T_least (by decide) rfl ⟨ml_law_108, vk_T_least⟩ np_T_least rfl (by omega) q842c (c_T_least (d := d - 1) (by omega) q842) (Nat.le_of_ble_eq_true rfl) (by omega) (by omega) rfl ?_
                                                      show Rn _ d _ _ ca sl _ 845 [(0, (2, 1000001)), (1, (2, v1)), (2, (2, v2)), (3, (0, v3))] [(0, x842.1)] x842.2
                                                      refine r_aload_n (pc := 845) 2 (n := 2) (by decide +kernel) rfl rfl ?_
                                                      refine r_aload_n (pc := 846) 0 (n := 0) (by decide +kernel) rfl rfl ?_
                                                      refine r_iload_n (pc := 847) 3 (n := 3) (by decide +kernel) rfl rfl ?_
                                                      refine r_iconst (pc := 848) (z := 1) (by decide +kernel) ⟨by decide, by decide⟩ ?_
                                                      refine r_iadd (pc := 849) (by decide +kernel) ?_
                                                      obtain ⟨e850, q850, h⟩ := bnd h
                                                      refine r_sld (pc := 850) (by decide +kernel) q850 ?_
                                                      obtain ⟨_, q851c, h⟩ := bnd h
                                                      obtain ⟨x851, q851, h⟩ := bnd h
                                                      refine r_callV (pc := 851) (i := 111) (d2 := d - 1) (As := [(0, e850)]) (st := [(0, x842.1)]) (st1 := [(0, e850), (2, v2), (0, x842.1)]) (by decide +kernel) yk_M_least (by decide) rfl ⟨ml_law_111, vk_M_least⟩ np_M_least rfl (by omega) q851c (c_M_least (d := d - 1) (by omega) q851) (Nat.le_of_ble_eq_true rfl) (by omega) (by omega) rfl ?_
                                                      show Rn _ d _ _ ca sl _ 854 [(0, (2, 1000001)), (1, (2, v1)), (2, (2, v2)), (3, (0, v3))] [(0, x851.1), (0, x842.1)] x851.2
                                                      refine r_icmp_eq (pc := 854) (off := 205) (tgt := 1059) (by decide +kernel) (by decide) (fun c854 => ?_) (fun c854 => ?_)
                                                      · have h := ite_t c854 h
                                                        refine r_iinc (pc := 1059) 3 (n := 6) (lv' := [(3, (0, wr (v3 + 6))), (0, (2, 1000001)), (1, (2, v1)), (2, (2, v2))]) (by decide +kernel) rfl (Nat.le_of_ble_eq_true rfl) rfl ?_
                                                        refine r_goto (pc := 1062) (off := (-1044)) (tgt := 18) (by decide +kernel) (by decide) ?_
                                                        refine r_lv [1, 2, 3, 0] rfl ?_
                                                        exact ih _ _ (wr (v3 + 6)) x851.2 (by omega) (by omega) h
                                                      · have h := ite_f c854 h
                                                        refine r_iconst (pc := 857) (z := 0) (by decide +kernel) ⟨by decide, by decide⟩ ?_
                                                        obtain rfl := Option.some.inj h
                                                        exact r_ret (pc := 858) (r := some (0, 0)) (by decide +kernel) rfl (Or.inl rfl) (by omega) (by omega)
                                                    · have h := ite_f e22 h
                                                      by_cases e23 : (iand e29 31) = 23
                                                      · have h := ite_t e23 h
                                                        obtain rfl : j = 23 := by omega
                                                        show Rn _ d _ _ ca sl _ 859 [(0, (2, 1000001)), (1, (2, v1)), (2, (2, v2)), (3, (0, v3))] [] M
                                                        refine r_aload_n (pc := 859) 1 (n := 1) (by decide +kernel) rfl rfl ?_
                                                        refine r_aload_n (pc := 860) 0 (n := 0) (by decide +kernel) rfl rfl ?_
                                                        refine r_iload_n (pc := 861) 3 (n := 3) (by decide +kernel) rfl rfl ?_
                                                        refine r_iconst (pc := 862) (z := 1) (by decide +kernel) ⟨by decide, by decide⟩ ?_
                                                        refine r_iadd (pc := 863) (by decide +kernel) ?_
                                                        obtain ⟨e864, q864, h⟩ := bnd h
                                                        refine r_sld (pc := 864) (by decide +kernel) q864 ?_
                                                        refine r_aload_n (pc := 865) 0 (n := 0) (by decide +kernel) rfl rfl ?_
                                                        refine r_iload_n (pc := 866) 3 (n := 3) (by decide +kernel) rfl rfl ?_
                                                        refine r_iconst (pc := 867) (z := 2) (by decide +kernel) ⟨by decide, by decide⟩ ?_
                                                        refine r_iadd (pc := 868) (by decide +kernel) ?_
                                                        obtain ⟨e869, q869, h⟩ := bnd h
                                                        refine r_sld (pc := 869) (by decide +kernel) q869 ?_
                                                        obtain ⟨_, q870c, h⟩ := bnd h
                                                        obtain ⟨x870, q870, h⟩ := bnd h
                                                        refine r_callV (pc := 870) (i := 112) (d2 := d - 1) (As := [(0, e864), (0, e869)]) (st := []) (st1 := [(0, e869), (0, e864), (2, v1)]) (by decide +kernel) yk_T_unlike (by decide) rfl ⟨ml_law_112, vk_T_unlike⟩ np_T_unlike rfl (by omega) q870c (c_T_unlike (d := d - 1) (by omega) q870) (Nat.le_of_ble_eq_true rfl) (by omega) (by omega) rfl ?_
                                                        show Rn _ d _ _ ca sl _ 873 [(0, (2, 1000001)), (1, (2, v1)), (2, (2, v2)), (3, (0, v3))] [(0, x870.1)] x870.2
                                                        refine r_aload_n (pc := 873) 2 (n := 2) (by decide +kernel) rfl rfl ?_
                                                        refine r_aload_n (pc := 874) 0 (n := 0) (by decide +kernel) rfl rfl ?_
                                                        refine r_iload_n (pc := 875) 3 (n := 3) (by decide +kernel) rfl rfl ?_
                                                        refine r_iconst (pc := 876) (z := 1) (by decide +kernel) ⟨by decide, by decide⟩ ?_
                                                        refine r_iadd (pc := 877) (by decide +kernel) ?_
                                                        obtain ⟨e878, q878, h⟩ := bnd h
                                                        refine r_sld (pc := 878) (by decide +kernel) q878 ?_
                                                        refine r_aload_n (pc := 879) 0 (n := 0) (by decide +kernel) rfl rfl ?_
                                                        refine r_iload_n (pc := 880) 3 (n := 3) (by decide +kernel) rfl rfl ?_
                                                        refine r_iconst (pc := 881) (z := 2) (by decide +kernel) ⟨by decide, by decide⟩ ?_
                                                        refine r_iadd (pc := 882) (by decide +kernel) ?_
                                                        obtain ⟨e883, q883, h⟩ := bnd h
                                                        refine r_sld (pc := 883) (by decide +kernel) q883 ?_
                                                        obtain ⟨_, q884c, h⟩ := bnd h
                                                        obtain ⟨x884, q884, h⟩ := bnd h
                                                        refine r_callV (pc := 884) (i := 115) (d2 := d - 1) (As := [(0, e878), (0, e883)]) (st := [(0, x870.1)]) (st1 := [(0, e883), (0, e878), (2, v2), (0, x870.1)]) (by decide +kernel) yk_M_unlike (by decide) rfl ⟨ml_law_115, vk_M_unlike⟩ np_M_unlike rfl (by omega) q884c (c_M_unlike (d := d - 1) (by omega) q884) (Nat.le_of_ble_eq_true rfl) (by omega) (by omega) rfl ?_
                                                        show Rn _ d _ _ ca sl _ 887 [(0, (2, 1000001)), (1, (2, v1)), (2, (2, v2)), (3, (0, v3))] [(0, x884.1), (0, x870.1)] x884.2
                                                        refine r_icmp_eq (pc := 887) (off := 172) (tgt := 1059) (by decide +kernel) (by decide) (fun c887 => ?_) (fun c887 => ?_)
                                                        · have h := ite_t c887 h
                                                          refine r_iinc (pc := 1059) 3 (n := 6) (lv' := [(3, (0, wr (v3 + 6))), (0, (2, 1000001)), (1, (2, v1)), (2, (2, v2))]) (by decide +kernel) rfl (Nat.le_of_ble_eq_true rfl) rfl ?_
                                                          refine r_goto (pc := 1062) (off := (-1044)) (tgt := 18) (by decide +kernel) (by decide) ?_
                                                          refine r_lv [1, 2, 3, 0] rfl ?_
                                                          exact ih _ _ (wr (v3 + 6)) x884.2 (by omega) (by omega) h
                                                        · have h := ite_f c887 h
                                                          refine r_iconst (pc := 890) (z := 0) (by decide +kernel) ⟨by decide, by decide⟩ ?_
                                                          obtain rfl := Option.some.inj h
                                                          exact r_ret (pc := 891) (r := some (0, 0)) (by decide +kernel) rfl (Or.inl rfl) (by omega) (by omega)
                                                      · have h := ite_f e23 h
                                                        by_cases e24 : (iand e29 31) = 24
                                                        · have h := ite_t e24 h
                                                          obtain rfl : j = 24 := by omega
                                                          show Rn _ d _ _ ca sl _ 892 [(0, (2, 1000001)), (1, (2, v1)), (2, (2, v2)), (3, (0, v3))] [] M
                                                          refine r_aload_n (pc := 892) 1 (n := 1) (by decide +kernel) rfl rfl ?_
                                                          refine r_aload_n (pc := 893) 0 (n := 0) (by decide +kernel) rfl rfl ?_
                                                          refine r_iload_n (pc := 894) 3 (n := 3) (by decide +kernel) rfl rfl ?_
                                                          refine r_iconst (pc := 895) (z := 1) (by decide +kernel) ⟨by decide, by decide⟩ ?_
                                                          refine r_iadd (pc := 896) (by decide +kernel) ?_
                                                          obtain ⟨e897, q897, h⟩ := bnd h
                                                          refine r_sld (pc := 897) (by decide +kernel) q897 ?_
                                                          obtain ⟨_, q898c, h⟩ := bnd h
                                                          obtain ⟨x898, q898, h⟩ := bnd h
                                                          refine r_callV (pc := 898) (i := 116) (d2 := d - 1) (As := [(0, e897)]) (st := []) (st1 := [(0, e897), (2, v1)]) (by decide +kernel) yk_T_ends (by decide) rfl ⟨ml_law_116, vk_T_ends⟩ np_T_ends rfl (by omega) q898c (c_T_ends (d := d - 1) (by omega) q898) (Nat.le_of_ble_eq_true rfl) (by omega) (by omega) rfl ?_
                                                          show Rn _ d _ _ ca sl _ 901 [(0, (2, 1000001)), (1, (2, v1)), (2, (2, v2)), (3, (0, v3))] [(0, x898.1)] x898.2
                                                          refine r_aload_n (pc := 901) 2 (n := 2) (by decide +kernel) rfl rfl ?_
                                                          refine r_aload_n (pc := 902) 0 (n := 0) (by decide +kernel) rfl rfl ?_
                                                          refine r_iload_n (pc := 903) 3 (n := 3) (by decide +kernel) rfl rfl ?_
                                                          refine r_iconst (pc := 904) (z := 1) (by decide +kernel) ⟨by decide, by decide⟩ ?_
                                                          refine r_iadd (pc := 905) (by decide +kernel) ?_
                                                          obtain ⟨e906, q906, h⟩ := bnd h
                                                          refine r_sld (pc := 906) (by decide +kernel) q906 ?_
                                                          obtain ⟨_, q907c, h⟩ := bnd h
                                                          obtain ⟨x907, q907, h⟩ := bnd h
                                                          refine r_callV (pc := 907) (i := 119) (d2 := d - 1) (As := [(0, e906)]) (st := [(0, x898.1)]) (st1 := [(0, e906), (2, v2), (0, x898.1)]) (by decide +kernel) yk_M_ends (by decide) rfl ⟨ml_law_119, vk_M_ends⟩ np_M_ends rfl (by omega) q907c (c_M_ends (d := d - 1) (by omega) q907) (Nat.le_of_ble_eq_true rfl) (by omega) (by omega) rfl ?_
                                                          show Rn _ d _ _ ca sl _ 910 [(0, (2, 1000001)), (1, (2, v1)), (2, (2, v2)), (3, (0, v3))] [(0, x907.1), (0, x898.1)] x907.2
                                                          refine r_icmp_eq (pc := 910) (off := 149) (tgt := 1059) (by decide +kernel) (by decide) (fun c910 => ?_) (fun c910 => ?_)
                                                          · have h := ite_t c910 h
                                                            refine r_iinc (pc := 1059) 3 (n := 6) (lv' := [(3, (0, wr (v3 + 6))), (0, (2, 1000001)), (1, (2, v1)), (2, (2, v2))]) (by decide +kernel) rfl (Nat.le_of_ble_eq_true rfl) rfl ?_
                                                            refine r_goto (pc := 1062) (off := (-1044)) (tgt := 18) (by decide +kernel) (by decide) ?_
                                                            refine r_lv [1, 2, 3, 0] rfl ?_
                                                            exact ih _ _ (wr (v3 + 6)) x907.2 (by omega) (by omega) h
                                                          · have h := ite_f c910 h
                                                            refine r_iconst (pc := 913) (z := 0) (by decide +kernel) ⟨by decide, by decide⟩ ?_
                                                            obtain rfl := Option.some.inj h
                                                            exact r_ret (pc := 914) (r := some (0, 0)) (by decide +kernel) rfl (Or.inl rfl) (by omega) (by omega)
                                                        · have h := ite_f e24 h
                                                          by_cases e25 : (iand e29 31) = 25
                                                          · have h := ite_t e25 h
                                                            obtain rfl : j = 25 := by omega
                                                            show Rn _ d _ _ ca sl _ 915 [(0, (2, 1000001)), (1, (2, v1)), (2, (2, v2)), (3, (0, v3))] [] M
                                                            refine r_aload_n (pc := 915) 1 (n := 1) (by decide +kernel) rfl rfl ?_
                                                            refine r_aload_n (pc := 916) 0 (n := 0) (by decide +kernel) rfl rfl ?_
                                                            refine r_iload_n (pc := 917) 3 (n := 3) (by decide +kernel) rfl rfl ?_
                                                            refine r_iconst (pc := 918) (z := 1) (by decide +kernel) ⟨by decide, by decide⟩ ?_
                                                            refine r_iadd (pc := 919) (by decide +kernel) ?_
                                                            obtain ⟨e920, q920, h⟩ := bnd h
                                                            refine r_sld (pc := 920) (by decide +kernel) q920 ?_
                                                            refine r_aload_n (pc := 921) 0 (n := 0) (by decide +kernel) rfl rfl ?_
                                                            refine r_iload_n (pc := 922) 3 (n := 3) (by decide +kernel) rfl rfl ?_
                                                            refine r_iconst (pc := 923) (z := 2) (by decide +kernel) ⟨by decide, by decide⟩ ?_
                                                            refine r_iadd (pc := 924) (by decide +kernel) ?_
                                                            obtain ⟨e925, q925, h⟩ := bnd h
                                                            refine r_sld (pc := 925) (by decide +kernel) q925 ?_
                                                            obtain ⟨_, q926c, h⟩ := bnd h
                                                            obtain ⟨x926, q926, h⟩ := bnd h
                                                            refine r_callV (pc := 926) (i := 120) (d2 := d - 1) (As := [(0, e920), (0, e925)]) (st := []) (st1 := [(0, e925), (0, e920), (2, v1)]) (by decide +kernel) yk_T_count (by decide) rfl ⟨ml_law_120, vk_T_count⟩ np_T_count rfl (by omega) q926c (c_T_count (d := d - 1) (by omega) q926) (Nat.le_of_ble_eq_true rfl) (by omega) (by omega) rfl ?_
                                                            show Rn _ d _ _ ca sl _ 929 [(0, (2, 1000001)), (1, (2, v1)), (2, (2, v2)), (3, (0, v3))] [(1, x926.1)] x926.2
                                                            refine r_aload_n (pc := 929) 2 (n := 2) (by decide +kernel) rfl rfl ?_
                                                            refine r_aload_n (pc := 930) 0 (n := 0) (by decide +kernel) rfl rfl ?_
                                                            refine r_iload_n (pc := 931) 3 (n := 3) (by decide +kernel) rfl rfl ?_
                                                            refine r_iconst (pc := 932) (z := 1) (by decide +kernel) ⟨by decide, by decide⟩ ?_
                                                            refine r_iadd (pc := 933) (by decide +kernel) ?_
                                                            obtain ⟨e934, q934, h⟩ := bnd h
                                                            refine r_sld (pc := 934) (by decide +kernel) q934 ?_
                                                            refine r_aload_n (pc := 935) 0 (n := 0) (by decide +kernel) rfl rfl ?_
                                                            refine r_iload_n (pc := 936) 3 (n := 3) (by decide +kernel) rfl rfl ?_
                                                            refine r_iconst (pc := 937) (z := 2) (by decide +kernel) ⟨by decide, by decide⟩ ?_
                                                            refine r_iadd (pc := 938) (by decide +kernel) ?_
                                                            obtain ⟨e939, q939, h⟩ := bnd h
                                                            refine r_sld (pc := 939) (by decide +kernel) q939 ?_
                                                            obtain ⟨_, q940c, h⟩ := bnd h
                                                            obtain ⟨x940, q940, h⟩ := bnd h
                                                            refine r_callV (pc := 940) (i := 124) (d2 := d - 1) (As := [(0, e934), (0, e939)]) (st := [(1, x926.1)]) (st1 := [(0, e939), (0, e934), (2, v2), (1, x926.1)]) (by decide +kernel) yk_M_count (by decide) rfl ⟨ml_law_124, vk_M_count⟩ np_M_count rfl (by omega) q940c (c_M_count (d := d - 1) (by omega) q940) (Nat.le_of_ble_eq_true rfl) (by omega) (by omega) rfl ?_
                                                            show Rn _ d _ _ ca sl _ 943 [(0, (2, 1000001)), (1, (2, v1)), (2, (2, v2)), (3, (0, v3))] [(1, x940.1), (1, x926.1)] x940.2
                                                            refine r_lcmp (pc := 943) (by decide +kernel) ?_
                                                            refine r_if_eq (pc := 944) (off := 115) (tgt := 1059) (by decide +kernel) (by decide) (fun c944 => ?_) (fun c944 => ?_)
                                                            · have h := ite_t c944 h
                                                              refine r_iinc (pc := 1059) 3 (n := 6) (lv' := [(3, (0, wr (v3 + 6))), (0, (2, 1000001)), (1, (2, v1)), (2, (2, v2))]) (by decide +kernel) rfl (Nat.le_of_ble_eq_true rfl) rfl ?_
                                                              refine r_goto (pc := 1062) (off := (-1044)) (tgt := 18) (by decide +kernel) (by decide) ?_
                                                              refine r_lv [1, 2, 3, 0] rfl ?_
                                                              exact ih _ _ (wr (v3 + 6)) x940.2 (by omega) (by omega) h
                                                            · have h := ite_f c944 h
                                                              refine r_iconst (pc := 947) (z := 0) (by decide +kernel) ⟨by decide, by decide⟩ ?_
                                                              obtain rfl := Option.some.inj h
                                                              exact r_ret (pc := 948) (r := some (0, 0)) (by decide +kernel) rfl (Or.inl rfl) (by omega) (by omega)
                                                          · have h := ite_f e25 h
                                                            by_cases e26 : (iand e29 31) = 26
                                                            · have h := ite_t e26 h
                                                              obtain rfl : j = 26 := by omega
                                                              show Rn _ d _ _ ca sl _ 949 [(0, (2, 1000001)), (1, (2, v1)), (2, (2, v2)), (3, (0, v3))] [] M
                                                              refine r_aload_n (pc := 949) 1 (n := 1) (by decide +kernel) rfl rfl ?_
                                                              refine r_aload_n (pc := 950) 0 (n := 0) (by decide +kernel) rfl rfl ?_
                                                              refine r_iload_n (pc := 951) 3 (n := 3) (by decide +kernel) rfl rfl ?_
                                                              refine r_iconst (pc := 952) (z := 1) (by decide +kernel) ⟨by decide, by decide⟩ ?_
                                                              refine r_iadd (pc := 953) (by decide +kernel) ?_
                                                              obtain ⟨e954, q954, h⟩ := bnd h
                                                              refine r_sld (pc := 954) (by decide +kernel) q954 ?_
                                                              refine r_aload_n (pc := 955) 0 (n := 0) (by decide +kernel) rfl rfl ?_
                                                              refine r_iload_n (pc := 956) 3 (n := 3) (by decide +kernel) rfl rfl ?_
                                                              refine r_iconst (pc := 957) (z := 2) (by decide +kernel) ⟨by decide, by decide⟩ ?_
                                                              refine r_iadd (pc := 958) (by decide +kernel) ?_
                                                              obtain ⟨e959, q959, h⟩ := bnd h
                                                              refine r_sld (pc := 959) (by decide +kernel) q959 ?_
                                                              refine r_i2l (pc := 960) (by decide +kernel) ?_
                                                              refine r_bipush (pc := 961) (z := 32) (by decide +kernel) ⟨by decide, by decide⟩ ?_
                                                              refine r_lshl (pc := 963) (by decide +kernel) ?_
                                                              refine r_aload_n (pc := 964) 0 (n := 0) (by decide +kernel) rfl rfl ?_
                                                              refine r_iload_n (pc := 965) 3 (n := 3) (by decide +kernel) rfl rfl ?_
                                                              refine r_iconst (pc := 966) (z := 3) (by decide +kernel) ⟨by decide, by decide⟩ ?_
                                                              refine r_iadd (pc := 967) (by decide +kernel) ?_
                                                              obtain ⟨e968, q968, h⟩ := bnd h
                                                              refine r_sld (pc := 968) (by decide +kernel) q968 ?_
                                                              refine r_i2l (pc := 969) (by decide +kernel) ?_
                                                              refine r_ldc2 (pc := 970) (i := 125) (z := 4294967295) (by decide +kernel) (mg 1354 (by decide +kernel) (by decide +kernel)) ⟨by decide, by decide⟩ ?_
                                                              refine r_land (pc := 973) (by decide +kernel) ?_
                                                              refine r_lor (pc := 974) (by decide +kernel) ?_
                                                              obtain ⟨_, q975c, h⟩ := bnd h
                                                              obtain ⟨x975, q975, h⟩ := bnd h
                                                              refine r_callV (pc := 975) (i := 127) (d2 := d - 1) (As := [(0, e954), (1, lrr (lsl e959 32) (lnd e968 4294967295))]) (st := []) (st1 := [(1, lrr (lsl e959 32) (lnd e968 4294967295)), (0, e954), (2, v1)]) (by decide +kernel) yk_T_tree (by decide) rfl ⟨ml_law_127, vk_T_tree⟩ np_T_tree rfl (by omega) q975c (c_T_tree (d := d - 1) (by omega) q975) (Nat.le_of_ble_eq_true rfl) (by omega) (by omega) rfl ?_
                                                              show Rn _ d _ _ ca sl _ 978 [(0, (2, 1000001)), (1, (2, v1)), (2, (2, v2)), (3, (0, v3))] [(0, x975.1)] x975.2
                                                              refine r_aload_n (pc := 978) 2 (n := 2) (by decide +kernel) rfl rfl ?_
                                                              refine r_aload_n (pc := 979) 0 (n := 0) (by decide +kernel) rfl rfl ?_
                                                              refine r_iload_n (pc := 980) 3 (n := 3) (by decide +kernel) rfl rfl ?_
                                                              refine r_iconst (pc := 981) (z := 1) (by decide +kernel) ⟨by decide, by decide⟩ ?_
                                                              refine r_iadd (pc := 982) (by decide +kernel) ?_
                                                              obtain ⟨e983, q983, h⟩ := bnd h
                                                              refine r_sld (pc := 983) (by decide +kernel) q983 ?_
                                                              refine r_aload_n (pc := 984) 0 (n := 0) (by decide +kernel) rfl rfl ?_
                                                              refine r_iload_n (pc := 985) 3 (n := 3) (by decide +kernel) rfl rfl ?_
                                                              refine r_iconst (pc := 986) (z := 2) (by decide +kernel) ⟨by decide, by decide⟩ ?_
                                                              refine r_iadd (pc := 987) (by decide +kernel) ?_
                                                              obtain ⟨e988, q988, h⟩ := bnd h
                                                              refine r_sld (pc := 988) (by decide +kernel) q988 ?_
                                                              refine r_i2l (pc := 989) (by decide +kernel) ?_
                                                              refine r_bipush (pc := 990) (z := 32) (by decide +kernel) ⟨by decide, by decide⟩ ?_
                                                              refine r_lshl (pc := 992) (by decide +kernel) ?_
                                                              refine r_aload_n (pc := 993) 0 (n := 0) (by decide +kernel) rfl rfl ?_
                                                              refine r_iload_n (pc := 994) 3 (n := 3) (by decide +kernel) rfl rfl ?_
                                                              refine r_iconst (pc := 995) (z := 3) (by decide +kernel) ⟨by decide, by decide⟩ ?_
                                                              refine r_iadd (pc := 996) (by decide +kernel) ?_
                                                              obtain ⟨e997, q997, h⟩ := bnd h
                                                              refine r_sld (pc := 997) (by decide +kernel) q997 ?_
                                                              refine r_i2l (pc := 998) (by decide +kernel) ?_
                                                              refine r_ldc2 (pc := 999) (i := 125) (z := 4294967295) (by decide +kernel) (mg 1354 (by decide +kernel) (by decide +kernel)) ⟨by decide, by decide⟩ ?_
                                                              refine r_land (pc := 1002) (by decide +kernel) ?_
                                                              refine r_lor (pc := 1003) (by decide +kernel) ?_
                                                              obtain ⟨_, q1004c, h⟩ := bnd h
                                                              obtain ⟨x1004, q1004, h⟩ := bnd h
                                                              refine r_callV (pc := 1004) (i := 131) (d2 := d - 1) (As := [(0, e983), (1, lrr (lsl e988 32) (lnd e997 4294967295))]) (st := [(0, x975.1)]) (st1 := [(1, lrr (lsl e988 32) (lnd e997 4294967295)), (0, e983), (2, v2), (0, x975.1)]) (by decide +kernel) yk_M_tree (by decide) rfl ⟨ml_law_131, vk_M_tree⟩ np_M_tree rfl (by omega) q1004c (c_M_tree (d := d - 1) (by omega) q1004) (Nat.le_of_ble_eq_true rfl) (by omega) (by omega) rfl ?_
                                                              show Rn _ d _ _ ca sl _ 1007 [(0, (2, 1000001)), (1, (2, v1)), (2, (2, v2)), (3, (0, v3))] [(0, x1004.1), (0, x975.1)] x1004.2
                                                              refine r_icmp_eq (pc := 1007) (off := 52) (tgt := 1059) (by decide +kernel) (by decide) (fun c1007 => ?_) (fun c1007 => ?_)
                                                              · have h := ite_t c1007 h
                                                                refine r_iinc (pc := 1059) 3 (n := 6) (lv' := [(3, (0, wr (v3 + 6))), (0, (2, 1000001)), (1, (2, v1)), (2, (2, v2))]) (by decide +kernel) rfl (Nat.le_of_ble_eq_true rfl) rfl ?_
                                                                refine r_goto (pc := 1062) (off := (-1044)) (tgt := 18) (by decide +kernel) (by decide) ?_
                                                                refine r_lv [1, 2, 3, 0] rfl ?_
                                                                exact ih _ _ (wr (v3 + 6)) x1004.2 (by omega) (by omega) h
                                                              · have h := ite_f c1007 h
                                                                refine r_iconst (pc := 1010) (z := 0) (by decide +kernel) ⟨by decide, by decide⟩ ?_
                                                                obtain rfl := Option.some.inj h
                                                                exact r_ret (pc := 1011) (r := some (0, 0)) (by decide +kernel) rfl (Or.inl rfl) (by omega) (by omega)
                                                            · have h := ite_f e26 h
                                                              by_cases e27 : (iand e29 31) = 27
                                                              · have h := ite_t e27 h
                                                                obtain rfl : j = 27 := by omega
                                                                show Rn _ d _ _ ca sl _ 1012 [(0, (2, 1000001)), (1, (2, v1)), (2, (2, v2)), (3, (0, v3))] [] M
                                                                refine r_aload_n (pc := 1012) 1 (n := 1) (by decide +kernel) rfl rfl ?_
                                                                refine r_aload_n (pc := 1013) 0 (n := 0) (by decide +kernel) rfl rfl ?_
                                                                refine r_iload_n (pc := 1014) 3 (n := 3) (by decide +kernel) rfl rfl ?_
                                                                refine r_iconst (pc := 1015) (z := 1) (by decide +kernel) ⟨by decide, by decide⟩ ?_
                                                                refine r_iadd (pc := 1016) (by decide +kernel) ?_
                                                                obtain ⟨e1017, q1017, h⟩ := bnd h
                                                                refine r_sld (pc := 1017) (by decide +kernel) q1017 ?_
                                                                obtain ⟨_, q1018c, h⟩ := bnd h
                                                                obtain ⟨x1018, q1018, h⟩ := bnd h
                                                                refine r_callV (pc := 1018) (i := 132) (d2 := d - 1) (As := [(0, e1017)]) (st := []) (st1 := [(0, e1017), (2, v1)]) (by decide +kernel) yk_T_place (by decide) rfl ⟨ml_law_132, vk_T_place⟩ np_T_place rfl (by omega) q1018c (c_T_place (d := d - 1) (by omega) q1018) (Nat.le_of_ble_eq_true rfl) (by omega) (by omega) rfl ?_
                                                                show Rn _ d _ _ ca sl _ 1021 [(0, (2, 1000001)), (1, (2, v1)), (2, (2, v2)), (3, (0, v3))] [(1, x1018.1)] x1018.2
                                                                refine r_aload_n (pc := 1021) 2 (n := 2) (by decide +kernel) rfl rfl ?_
                                                                refine r_aload_n (pc := 1022) 0 (n := 0) (by decide +kernel) rfl rfl ?_
                                                                refine r_iload_n (pc := 1023) 3 (n := 3) (by decide +kernel) rfl rfl ?_
                                                                refine r_iconst (pc := 1024) (z := 1) (by decide +kernel) ⟨by decide, by decide⟩ ?_
                                                                refine r_iadd (pc := 1025) (by decide +kernel) ?_
                                                                obtain ⟨e1026, q1026, h⟩ := bnd h
                                                                refine r_sld (pc := 1026) (by decide +kernel) q1026 ?_
                                                                obtain ⟨_, q1027c, h⟩ := bnd h
                                                                obtain ⟨x1027, q1027, h⟩ := bnd h
                                                                refine r_callV (pc := 1027) (i := 136) (d2 := d - 1) (As := [(0, e1026)]) (st := [(1, x1018.1)]) (st1 := [(0, e1026), (2, v2), (1, x1018.1)]) (by decide +kernel) yk_M_place (by decide) rfl ⟨ml_law_136, vk_M_place⟩ np_M_place rfl (by omega) q1027c (c_M_place (d := d - 1) (by omega) q1027) (Nat.le_of_ble_eq_true rfl) (by omega) (by omega) rfl ?_
                                                                show Rn _ d _ _ ca sl _ 1030 [(0, (2, 1000001)), (1, (2, v1)), (2, (2, v2)), (3, (0, v3))] [(1, x1027.1), (1, x1018.1)] x1027.2
                                                                refine r_lcmp (pc := 1030) (by decide +kernel) ?_
                                                                refine r_if_eq (pc := 1031) (off := 28) (tgt := 1059) (by decide +kernel) (by decide) (fun c1031 => ?_) (fun c1031 => ?_)
                                                                · have h := ite_t c1031 h
                                                                  refine r_iinc (pc := 1059) 3 (n := 6) (lv' := [(3, (0, wr (v3 + 6))), (0, (2, 1000001)), (1, (2, v1)), (2, (2, v2))]) (by decide +kernel) rfl (Nat.le_of_ble_eq_true rfl) rfl ?_
                                                                  refine r_goto (pc := 1062) (off := (-1044)) (tgt := 18) (by decide +kernel) (by decide) ?_
                                                                  refine r_lv [1, 2, 3, 0] rfl ?_
                                                                  exact ih _ _ (wr (v3 + 6)) x1027.2 (by omega) (by omega) h
                                                                · have h := ite_f c1031 h
                                                                  refine r_iconst (pc := 1034) (z := 0) (by decide +kernel) ⟨by decide, by decide⟩ ?_
                                                                  obtain rfl := Option.some.inj h
                                                                  exact r_ret (pc := 1035) (r := some (0, 0)) (by decide +kernel) rfl (Or.inl rfl) (by omega) (by omega)
                                                              · have h := ite_f e27 h
                                                                obtain rfl : j = 28 := by omega
                                                                show Rn _ d _ _ ca sl _ 1036 [(0, (2, 1000001)), (1, (2, v1)), (2, (2, v2)), (3, (0, v3))] [] M
                                                                refine r_aload_n (pc := 1036) 1 (n := 1) (by decide +kernel) rfl rfl ?_
                                                                refine r_aload_n (pc := 1037) 0 (n := 0) (by decide +kernel) rfl rfl ?_
                                                                refine r_iload_n (pc := 1038) 3 (n := 3) (by decide +kernel) rfl rfl ?_
                                                                refine r_iconst (pc := 1039) (z := 1) (by decide +kernel) ⟨by decide, by decide⟩ ?_
                                                                refine r_iadd (pc := 1040) (by decide +kernel) ?_
                                                                obtain ⟨e1041, q1041, h⟩ := bnd h
                                                                refine r_sld (pc := 1041) (by decide +kernel) q1041 ?_
                                                                obtain ⟨_, q1042c, h⟩ := bnd h
                                                                obtain ⟨x1042, q1042, h⟩ := bnd h
                                                                refine r_callV (pc := 1042) (i := 137) (d2 := d - 1) (As := [(0, e1041)]) (st := []) (st1 := [(0, e1041), (2, v1)]) (by decide +kernel) yk_T_told (by decide) rfl ⟨ml_law_137, vk_T_told⟩ np_T_told rfl (by omega) q1042c (c_T_told (d := d - 1) (by omega) q1042) (Nat.le_of_ble_eq_true rfl) (by omega) (by omega) rfl ?_
                                                                show Rn _ d _ _ ca sl _ 1045 [(0, (2, 1000001)), (1, (2, v1)), (2, (2, v2)), (3, (0, v3))] [(0, x1042.1)] x1042.2
                                                                refine r_aload_n (pc := 1045) 2 (n := 2) (by decide +kernel) rfl rfl ?_
                                                                refine r_aload_n (pc := 1046) 0 (n := 0) (by decide +kernel) rfl rfl ?_
                                                                refine r_iload_n (pc := 1047) 3 (n := 3) (by decide +kernel) rfl rfl ?_
                                                                refine r_iconst (pc := 1048) (z := 1) (by decide +kernel) ⟨by decide, by decide⟩ ?_
                                                                refine r_iadd (pc := 1049) (by decide +kernel) ?_
                                                                obtain ⟨e1050, q1050, h⟩ := bnd h
                                                                refine r_sld (pc := 1050) (by decide +kernel) q1050 ?_
                                                                obtain ⟨_, q1051c, h⟩ := bnd h
                                                                obtain ⟨x1051, q1051, h⟩ := bnd h
                                                                refine r_callV (pc := 1051) (i := 140) (d2 := d - 1) (As := [(0, e1050)]) (st := [(0, x1042.1)]) (st1 := [(0, e1050), (2, v2), (0, x1042.1)]) (by decide +kernel) yk_M_told (by decide) rfl ⟨ml_law_140, vk_M_told⟩ np_M_told rfl (by omega) q1051c (c_M_told (d := d - 1) (by omega) q1051) (Nat.le_of_ble_eq_true rfl) (by omega) (by omega) rfl ?_
                                                                show Rn _ d _ _ ca sl _ 1054 [(0, (2, 1000001)), (1, (2, v1)), (2, (2, v2)), (3, (0, v3))] [(0, x1051.1), (0, x1042.1)] x1051.2
                                                                refine r_icmp_eq (pc := 1054) (off := 5) (tgt := 1059) (by decide +kernel) (by decide) (fun c1054 => ?_) (fun c1054 => ?_)
                                                                · have h := ite_t c1054 h
                                                                  refine r_iinc (pc := 1059) 3 (n := 6) (lv' := [(3, (0, wr (v3 + 6))), (0, (2, 1000001)), (1, (2, v1)), (2, (2, v2))]) (by decide +kernel) rfl (Nat.le_of_ble_eq_true rfl) rfl ?_
                                                                  refine r_goto (pc := 1062) (off := (-1044)) (tgt := 18) (by decide +kernel) (by decide) ?_
                                                                  refine r_lv [1, 2, 3, 0] rfl ?_
                                                                  exact ih _ _ (wr (v3 + 6)) x1051.2 (by omega) (by omega) h
                                                                · have h := ite_f c1054 h
                                                                  refine r_iconst (pc := 1057) (z := 0) (by decide +kernel) ⟨by decide, by decide⟩ ?_
                                                                  obtain rfl := Option.some.inj h
                                                                  exact r_ret (pc := 1058) (r := some (0, 0)) (by decide +kernel) rfl (Or.inl rfl) (by omega) (by omega)
theorem rn_law {d : Nat} (hd : 130 ≤ d) {M : Mem} {x : Int × Mem} (h : D_law M = some x) : Rn Y_law d 600000 7302249 0 0 (some (0, x.1), x.2) 0 [(0, (2, 1000001))] [] M := by
  rw [D_law] at h
  obtain ⟨x0, q0, h⟩ := bnd h
  refine r_new (pc := 0) (i := 7) (by decide +kernel) (by decide) nK8 rfl (mg 93 (by decide +kernel) (by decide +kernel)) q0 (Nat.le_of_ble_eq_true rfl) (Nat.le_of_ble_eq_true rfl) ?_
  refine r_dup (pc := 3) (by decide +kernel) rfl ?_
  obtain ⟨_, q4c, h⟩ := bnd h
  obtain ⟨x4, q4, h⟩ := bnd h
  refine r_callI (pc := 4) (i := 9) (d2 := d - 1) (As := []) (st := [(2, x0.1)]) (st1 := [(2, x0.1), (2, x0.1)]) (by decide +kernel) yk_T_init rfl rfl (by decide) rfl ik_T_init (Or.inl ml_law_9) np_T_init rfl (by omega) q4c (c_T_init (d := d - 1) (by omega) q4) (Nat.le_of_ble_eq_true rfl) (Nat.le_of_ble_eq_true rfl) (Nat.le_of_ble_eq_true rfl) rfl ?_
  show Rn _ d _ _ 62 8845 _ 7 [(0, (2, 1000001))] [(2, x0.1)] x4
  refine r_astore_n (pc := 7) (n := 1) (lv' := [(1, (2, x0.1)), (0, (2, 1000001))]) (by decide +kernel) rfl (Nat.le_of_ble_eq_true rfl) rfl ?_
  obtain ⟨x8, q8, h⟩ := bnd h
  refine r_new (pc := 8) (i := 10) (by decide +kernel) (by decide) nK9 rfl (mg 886 (by decide +kernel) (by decide +kernel)) q8 (Nat.le_of_ble_eq_true rfl) (Nat.le_of_ble_eq_true rfl) ?_
  refine r_dup (pc := 11) (by decide +kernel) rfl ?_
  obtain ⟨_, q12c, h⟩ := bnd h
  obtain ⟨x12, q12, h⟩ := bnd h
  refine r_callI (pc := 12) (i := 12) (d2 := d - 1) (As := []) (st := [(2, x8.1)]) (st1 := [(2, x8.1), (2, x8.1)]) (by decide +kernel) yk_M_init rfl rfl (by decide) rfl ik_M_init (Or.inl ml_law_12) np_M_init rfl (by omega) q12c (c_M_init (d := d - 1) (by omega) q12) (Nat.le_of_ble_eq_true rfl) (Nat.le_of_ble_eq_true rfl) (Nat.le_of_ble_eq_true rfl) rfl ?_
  show Rn _ d _ _ 100 1593542 _ 15 [(1, (2, x0.1)), (0, (2, 1000001))] [(2, x8.1)] x12
  refine r_astore_n (pc := 15) (n := 2) (lv' := [(2, (2, x8.1)), (1, (2, x0.1)), (0, (2, 1000001))]) (by decide +kernel) rfl (Nat.le_of_ble_eq_true rfl) rfl ?_
  refine r_iconst (pc := 16) (z := 0) (by decide +kernel) ⟨by decide, by decide⟩ ?_
  refine r_istore_n (pc := 17) (n := 3) (lv' := [(3, (0, 0)), (2, (2, x8.1)), (1, (2, x0.1)), (0, (2, 1000001))]) (by decide +kernel) rfl (Nat.le_of_ble_eq_true rfl) rfl ?_
  refine r_lv [3, 2, 1, 0] rfl ?_
  refine sL_law_18 (by omega) ?_ _ _ _ _  _ (by rw [LF_eq]; decide) (by rw [LF_eq]; decide) h
  intro ca sl m18 hca hsl h
  refine r_iconst (pc := 1065) (z := 1) (by decide +kernel) ⟨by decide, by decide⟩ ?_
  obtain rfl := Option.some.inj h
  exact r_ret (pc := 1066) (r := some (0, 1)) (by decide +kernel) rfl (Or.inr rfl) (by omega) (by omega)
