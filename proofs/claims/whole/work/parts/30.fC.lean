-- @needs 23_ops
def f_X6_shelfAt (M : Mem) (a1 : Int32) : Option Nat :=
bnd (if a1 < 0 then
(none)
else (if 8 ≤ a1 then
(none)
else ((some (44 + a1.toNatClampNeg))))) fun (t_5 : Option Nat) =>
t_5
def f_X5_rowRefusal (M : Mem) (o : Nat) : Int32 :=
if ¬ M o 0 = 0 then
(bnd (if ¬ M o 0 = 2 then
((-12))
else (0)) fun (t_4 : Int32) =>
t_4)
else ((-11))
def f_X5_textRefusal (M : Mem) (o : Nat) : Int32 :=
bnd (f_X5_rowRefusal M o) fun y_4 =>
bnd (if ¬ y_4 = 0 then
(y_4)
else (if M o 2 = 0 then
(y_4)
else ((-12)))) fun (t_8 : Int32) =>
t_8
def f_X2_isDigit (a1 : Int32) : Int32 :=
bnd (if a1 < 48 then
(0)
else (if 57 < a1 then
(0)
else (1))) fun (t_4 : Int32) =>
t_4
def f_X2_isSumSign (a1 : Int32) : Int32 :=
bnd (if a1 = 43 then
(1)
else (if ¬ a1 = 45 then
(0)
else (1))) fun (t_4 : Int32) =>
t_4
def f_X2_isProductSign (a1 : Int32) : Int32 :=
bnd (if a1 = 42 then
(1)
else (if a1 = 47 then
(1)
else (if ¬ a1 = 37 then
(0)
else (1)))) fun (t_5 : Int32) =>
t_5
def lp_X2_faultIn_10 : Nat → Mem → Nat → Int32 → Int32 → Int32 → Int32 → Int32 → Int32
  | 0, M, a1, a2, v_594, v_595, v_596, v_597 => 0
  | n + 1, M, a1, a2, v_594, v_595, v_596, v_597 =>
    if a2 ≤ v_597 then
    (bnd (if ¬ v_596 = 0 then
    (a2)
    else (if v_594 ≤ 0 then
    ((-4))
    else (a2))) fun (t_602 : Int32) =>
    t_602)
    else (if 100 ≤ v_597 then
    (bnd (if ¬ v_596 = 0 then
    (a2)
    else (if v_594 ≤ 0 then
    ((-4))
    else (a2))) fun (t_607 : Int32) =>
    t_607)
    else (bnd (M a1 v_597.toNatClampNeg) fun y_608 =>
    if v_596 = 0 then
    (if v_596 = 0 then
    (if ¬ v_596 = 0 then
    (if ¬ v_596 = 0 then
    (if ¬ v_596 = 0 then
    (v_597)
    else (if ¬ y_608 = 41 then
    (v_597)
    else (if v_594 ≤ 0 then
    (v_597)
    else (bnd (v_594 + (-1)) fun y_616 =>
    bnd (v_597 + 1) fun y_617 =>
    lp_X2_faultIn_10 n M a1 a2 y_616 0 v_596 y_617))))
    else (if ¬ f_X2_isSumSign y_608 = 0 then
    (bnd (v_597 + 1) fun y_623 =>
    lp_X2_faultIn_10 n M a1 a2 v_594 v_595 1 y_623)
    else (if f_X2_isProductSign y_608 = 0 then
    (if ¬ v_596 = 0 then
    (v_597)
    else (if ¬ y_608 = 41 then
    (v_597)
    else (if v_594 ≤ 0 then
    (v_597)
    else (bnd (v_594 + (-1)) fun y_632 =>
    bnd (v_597 + 1) fun y_633 =>
    lp_X2_faultIn_10 n M a1 a2 y_632 0 v_596 y_633))))
    else (bnd (v_597 + 1) fun y_634 =>
    lp_X2_faultIn_10 n M a1 a2 v_594 v_595 1 y_634))))
    else (if f_X2_isDigit y_608 = 0 then
    (if ¬ v_596 = 0 then
    (if ¬ v_596 = 0 then
    (v_597)
    else (if ¬ y_608 = 41 then
    (v_597)
    else (if v_594 ≤ 0 then
    (v_597)
    else (bnd (v_594 + (-1)) fun y_644 =>
    bnd (v_597 + 1) fun y_645 =>
    lp_X2_faultIn_10 n M a1 a2 y_644 0 v_596 y_645))))
    else (if ¬ f_X2_isSumSign y_608 = 0 then
    (bnd (v_597 + 1) fun y_651 =>
    lp_X2_faultIn_10 n M a1 a2 v_594 v_595 1 y_651)
    else (if f_X2_isProductSign y_608 = 0 then
    (if ¬ v_596 = 0 then
    (v_597)
    else (if ¬ y_608 = 41 then
    (v_597)
    else (if v_594 ≤ 0 then
    (v_597)
    else (bnd (v_594 + (-1)) fun y_660 =>
    bnd (v_597 + 1) fun y_661 =>
    lp_X2_faultIn_10 n M a1 a2 y_660 0 v_596 y_661))))
    else (bnd (v_597 + 1) fun y_662 =>
    lp_X2_faultIn_10 n M a1 a2 v_594 v_595 1 y_662))))
    else (if v_595 ≤ 0 then
    (if ¬ v_596 = 0 then
    (if ¬ v_596 = 0 then
    (v_597)
    else (if ¬ y_608 = 41 then
    (v_597)
    else (if v_594 ≤ 0 then
    (v_597)
    else (bnd (v_594 + (-1)) fun y_668 =>
    bnd (v_597 + 1) fun y_669 =>
    lp_X2_faultIn_10 n M a1 a2 y_668 0 v_596 y_669))))
    else (if ¬ f_X2_isSumSign y_608 = 0 then
    (bnd (v_597 + 1) fun y_675 =>
    lp_X2_faultIn_10 n M a1 a2 v_594 v_595 1 y_675)
    else (if f_X2_isProductSign y_608 = 0 then
    (if ¬ v_596 = 0 then
    (v_597)
    else (if ¬ y_608 = 41 then
    (v_597)
    else (if v_594 ≤ 0 then
    (v_597)
    else (bnd (v_594 + (-1)) fun y_684 =>
    bnd (v_597 + 1) fun y_685 =>
    lp_X2_faultIn_10 n M a1 a2 y_684 0 v_596 y_685))))
    else (bnd (v_597 + 1) fun y_686 =>
    lp_X2_faultIn_10 n M a1 a2 v_594 v_595 1 y_686))))
    else (bnd (v_595 + (-1)) fun y_687 =>
    bnd (v_597 + 1) fun y_688 =>
    lp_X2_faultIn_10 n M a1 a2 v_594 y_687 v_596 y_688))))
    else (if ¬ f_X2_isDigit y_608 = 0 then
    (bnd (if f_X2_isDigit y_608 = 0 then
    (0)
    else (if y_608 = 48 then
    (0)
    else (2))) fun (t_701 : Int32) =>
    bnd (v_597 + 1) fun y_702 =>
    lp_X2_faultIn_10 n M a1 a2 v_594 t_701 0 y_702)
    else (if y_608 = 116 then
    (bnd (if f_X2_isDigit y_608 = 0 then
    (0)
    else (if y_608 = 48 then
    (0)
    else (2))) fun (t_711 : Int32) =>
    bnd (v_597 + 1) fun y_712 =>
    lp_X2_faultIn_10 n M a1 a2 v_594 t_711 0 y_712)
    else (if ¬ y_608 = 115 then
    (if ¬ v_596 = 0 then
    (if ¬ v_596 = 0 then
    (if ¬ v_596 = 0 then
    (v_597)
    else (if ¬ y_608 = 41 then
    (v_597)
    else (if v_594 ≤ 0 then
    (v_597)
    else (bnd (v_594 + (-1)) fun y_719 =>
    bnd (v_597 + 1) fun y_720 =>
    lp_X2_faultIn_10 n M a1 a2 y_719 0 v_596 y_720))))
    else (if ¬ f_X2_isSumSign y_608 = 0 then
    (bnd (v_597 + 1) fun y_726 =>
    lp_X2_faultIn_10 n M a1 a2 v_594 v_595 1 y_726)
    else (if f_X2_isProductSign y_608 = 0 then
    (if ¬ v_596 = 0 then
    (v_597)
    else (if ¬ y_608 = 41 then
    (v_597)
    else (if v_594 ≤ 0 then
    (v_597)
    else (bnd (v_594 + (-1)) fun y_735 =>
    bnd (v_597 + 1) fun y_736 =>
    lp_X2_faultIn_10 n M a1 a2 y_735 0 v_596 y_736))))
    else (bnd (v_597 + 1) fun y_737 =>
    lp_X2_faultIn_10 n M a1 a2 v_594 v_595 1 y_737))))
    else (if f_X2_isDigit y_608 = 0 then
    (if ¬ v_596 = 0 then
    (if ¬ v_596 = 0 then
    (v_597)
    else (if ¬ y_608 = 41 then
    (v_597)
    else (if v_594 ≤ 0 then
    (v_597)
    else (bnd (v_594 + (-1)) fun y_747 =>
    bnd (v_597 + 1) fun y_748 =>
    lp_X2_faultIn_10 n M a1 a2 y_747 0 v_596 y_748))))
    else (if ¬ f_X2_isSumSign y_608 = 0 then
    (bnd (v_597 + 1) fun y_754 =>
    lp_X2_faultIn_10 n M a1 a2 v_594 v_595 1 y_754)
    else (if f_X2_isProductSign y_608 = 0 then
    (if ¬ v_596 = 0 then
    (v_597)
    else (if ¬ y_608 = 41 then
    (v_597)
    else (if v_594 ≤ 0 then
    (v_597)
    else (bnd (v_594 + (-1)) fun y_763 =>
    bnd (v_597 + 1) fun y_764 =>
    lp_X2_faultIn_10 n M a1 a2 y_763 0 v_596 y_764))))
    else (bnd (v_597 + 1) fun y_765 =>
    lp_X2_faultIn_10 n M a1 a2 v_594 v_595 1 y_765))))
    else (if v_595 ≤ 0 then
    (if ¬ v_596 = 0 then
    (if ¬ v_596 = 0 then
    (v_597)
    else (if ¬ y_608 = 41 then
    (v_597)
    else (if v_594 ≤ 0 then
    (v_597)
    else (bnd (v_594 + (-1)) fun y_771 =>
    bnd (v_597 + 1) fun y_772 =>
    lp_X2_faultIn_10 n M a1 a2 y_771 0 v_596 y_772))))
    else (if ¬ f_X2_isSumSign y_608 = 0 then
    (bnd (v_597 + 1) fun y_778 =>
    lp_X2_faultIn_10 n M a1 a2 v_594 v_595 1 y_778)
    else (if f_X2_isProductSign y_608 = 0 then
    (if ¬ v_596 = 0 then
    (v_597)
    else (if ¬ y_608 = 41 then
    (v_597)
    else (if v_594 ≤ 0 then
    (v_597)
    else (bnd (v_594 + (-1)) fun y_787 =>
    bnd (v_597 + 1) fun y_788 =>
    lp_X2_faultIn_10 n M a1 a2 y_787 0 v_596 y_788))))
    else (bnd (v_597 + 1) fun y_789 =>
    lp_X2_faultIn_10 n M a1 a2 v_594 v_595 1 y_789))))
    else (bnd (v_595 + (-1)) fun y_790 =>
    bnd (v_597 + 1) fun y_791 =>
    lp_X2_faultIn_10 n M a1 a2 v_594 y_790 v_596 y_791))))
    else (bnd (if f_X2_isDigit y_608 = 0 then
    (0)
    else (if y_608 = 48 then
    (0)
    else (2))) fun (t_799 : Int32) =>
    bnd (v_597 + 1) fun y_800 =>
    lp_X2_faultIn_10 n M a1 a2 v_594 t_799 0 y_800)))))
    else (if ¬ y_608 = 40 then
    (if v_596 = 0 then
    (if ¬ v_596 = 0 then
    (if ¬ v_596 = 0 then
    (if ¬ v_596 = 0 then
    (v_597)
    else (if ¬ y_608 = 41 then
    (v_597)
    else (if v_594 ≤ 0 then
    (v_597)
    else (bnd (v_594 + (-1)) fun y_808 =>
    bnd (v_597 + 1) fun y_809 =>
    lp_X2_faultIn_10 n M a1 a2 y_808 0 v_596 y_809))))
    else (if ¬ f_X2_isSumSign y_608 = 0 then
    (bnd (v_597 + 1) fun y_815 =>
    lp_X2_faultIn_10 n M a1 a2 v_594 v_595 1 y_815)
    else (if f_X2_isProductSign y_608 = 0 then
    (if ¬ v_596 = 0 then
    (v_597)
    else (if ¬ y_608 = 41 then
    (v_597)
    else (if v_594 ≤ 0 then
    (v_597)
    else (bnd (v_594 + (-1)) fun y_824 =>
    bnd (v_597 + 1) fun y_825 =>
    lp_X2_faultIn_10 n M a1 a2 y_824 0 v_596 y_825))))
    else (bnd (v_597 + 1) fun y_826 =>
    lp_X2_faultIn_10 n M a1 a2 v_594 v_595 1 y_826))))
    else (if f_X2_isDigit y_608 = 0 then
    (if ¬ v_596 = 0 then
    (if ¬ v_596 = 0 then
    (v_597)
    else (if ¬ y_608 = 41 then
    (v_597)
    else (if v_594 ≤ 0 then
    (v_597)
    else (bnd (v_594 + (-1)) fun y_836 =>
    bnd (v_597 + 1) fun y_837 =>
    lp_X2_faultIn_10 n M a1 a2 y_836 0 v_596 y_837))))
    else (if ¬ f_X2_isSumSign y_608 = 0 then
    (bnd (v_597 + 1) fun y_843 =>
    lp_X2_faultIn_10 n M a1 a2 v_594 v_595 1 y_843)
    else (if f_X2_isProductSign y_608 = 0 then
    (if ¬ v_596 = 0 then
    (v_597)
    else (if ¬ y_608 = 41 then
    (v_597)
    else (if v_594 ≤ 0 then
    (v_597)
    else (bnd (v_594 + (-1)) fun y_852 =>
    bnd (v_597 + 1) fun y_853 =>
    lp_X2_faultIn_10 n M a1 a2 y_852 0 v_596 y_853))))
    else (bnd (v_597 + 1) fun y_854 =>
    lp_X2_faultIn_10 n M a1 a2 v_594 v_595 1 y_854))))
    else (if v_595 ≤ 0 then
    (if ¬ v_596 = 0 then
    (if ¬ v_596 = 0 then
    (v_597)
    else (if ¬ y_608 = 41 then
    (v_597)
    else (if v_594 ≤ 0 then
    (v_597)
    else (bnd (v_594 + (-1)) fun y_860 =>
    bnd (v_597 + 1) fun y_861 =>
    lp_X2_faultIn_10 n M a1 a2 y_860 0 v_596 y_861))))
    else (if ¬ f_X2_isSumSign y_608 = 0 then
    (bnd (v_597 + 1) fun y_867 =>
    lp_X2_faultIn_10 n M a1 a2 v_594 v_595 1 y_867)
    else (if f_X2_isProductSign y_608 = 0 then
    (if ¬ v_596 = 0 then
    (v_597)
    else (if ¬ y_608 = 41 then
    (v_597)
    else (if v_594 ≤ 0 then
    (v_597)
    else (bnd (v_594 + (-1)) fun y_876 =>
    bnd (v_597 + 1) fun y_877 =>
    lp_X2_faultIn_10 n M a1 a2 y_876 0 v_596 y_877))))
    else (bnd (v_597 + 1) fun y_878 =>
    lp_X2_faultIn_10 n M a1 a2 v_594 v_595 1 y_878))))
    else (bnd (v_595 + (-1)) fun y_879 =>
    bnd (v_597 + 1) fun y_880 =>
    lp_X2_faultIn_10 n M a1 a2 v_594 y_879 v_596 y_880))))
    else (if ¬ f_X2_isDigit y_608 = 0 then
    (bnd (if f_X2_isDigit y_608 = 0 then
    (0)
    else (if y_608 = 48 then
    (0)
    else (2))) fun (t_893 : Int32) =>
    bnd (v_597 + 1) fun y_894 =>
    lp_X2_faultIn_10 n M a1 a2 v_594 t_893 0 y_894)
    else (if y_608 = 116 then
    (bnd (if f_X2_isDigit y_608 = 0 then
    (0)
    else (if y_608 = 48 then
    (0)
    else (2))) fun (t_903 : Int32) =>
    bnd (v_597 + 1) fun y_904 =>
    lp_X2_faultIn_10 n M a1 a2 v_594 t_903 0 y_904)
    else (if ¬ y_608 = 115 then
    (if ¬ v_596 = 0 then
    (if ¬ v_596 = 0 then
    (if ¬ v_596 = 0 then
    (v_597)
    else (if ¬ y_608 = 41 then
    (v_597)
    else (if v_594 ≤ 0 then
    (v_597)
    else (bnd (v_594 + (-1)) fun y_911 =>
    bnd (v_597 + 1) fun y_912 =>
    lp_X2_faultIn_10 n M a1 a2 y_911 0 v_596 y_912))))
    else (if ¬ f_X2_isSumSign y_608 = 0 then
    (bnd (v_597 + 1) fun y_918 =>
    lp_X2_faultIn_10 n M a1 a2 v_594 v_595 1 y_918)
    else (if f_X2_isProductSign y_608 = 0 then
    (if ¬ v_596 = 0 then
    (v_597)
    else (if ¬ y_608 = 41 then
    (v_597)
    else (if v_594 ≤ 0 then
    (v_597)
    else (bnd (v_594 + (-1)) fun y_927 =>
    bnd (v_597 + 1) fun y_928 =>
    lp_X2_faultIn_10 n M a1 a2 y_927 0 v_596 y_928))))
    else (bnd (v_597 + 1) fun y_929 =>
    lp_X2_faultIn_10 n M a1 a2 v_594 v_595 1 y_929))))
    else (if f_X2_isDigit y_608 = 0 then
    (if ¬ v_596 = 0 then
    (if ¬ v_596 = 0 then
    (v_597)
    else (if ¬ y_608 = 41 then
    (v_597)
    else (if v_594 ≤ 0 then
    (v_597)
    else (bnd (v_594 + (-1)) fun y_939 =>
    bnd (v_597 + 1) fun y_940 =>
    lp_X2_faultIn_10 n M a1 a2 y_939 0 v_596 y_940))))
    else (if ¬ f_X2_isSumSign y_608 = 0 then
    (bnd (v_597 + 1) fun y_946 =>
    lp_X2_faultIn_10 n M a1 a2 v_594 v_595 1 y_946)
    else (if f_X2_isProductSign y_608 = 0 then
    (if ¬ v_596 = 0 then
    (v_597)
    else (if ¬ y_608 = 41 then
    (v_597)
    else (if v_594 ≤ 0 then
    (v_597)
    else (bnd (v_594 + (-1)) fun y_955 =>
    bnd (v_597 + 1) fun y_956 =>
    lp_X2_faultIn_10 n M a1 a2 y_955 0 v_596 y_956))))
    else (bnd (v_597 + 1) fun y_957 =>
    lp_X2_faultIn_10 n M a1 a2 v_594 v_595 1 y_957))))
    else (if v_595 ≤ 0 then
    (if ¬ v_596 = 0 then
    (if ¬ v_596 = 0 then
    (v_597)
    else (if ¬ y_608 = 41 then
    (v_597)
    else (if v_594 ≤ 0 then
    (v_597)
    else (bnd (v_594 + (-1)) fun y_963 =>
    bnd (v_597 + 1) fun y_964 =>
    lp_X2_faultIn_10 n M a1 a2 y_963 0 v_596 y_964))))
    else (if ¬ f_X2_isSumSign y_608 = 0 then
    (bnd (v_597 + 1) fun y_970 =>
    lp_X2_faultIn_10 n M a1 a2 v_594 v_595 1 y_970)
    else (if f_X2_isProductSign y_608 = 0 then
    (if ¬ v_596 = 0 then
    (v_597)
    else (if ¬ y_608 = 41 then
    (v_597)
    else (if v_594 ≤ 0 then
    (v_597)
    else (bnd (v_594 + (-1)) fun y_979 =>
    bnd (v_597 + 1) fun y_980 =>
    lp_X2_faultIn_10 n M a1 a2 y_979 0 v_596 y_980))))
    else (bnd (v_597 + 1) fun y_981 =>
    lp_X2_faultIn_10 n M a1 a2 v_594 v_595 1 y_981))))
    else (bnd (v_595 + (-1)) fun y_982 =>
    bnd (v_597 + 1) fun y_983 =>
    lp_X2_faultIn_10 n M a1 a2 v_594 y_982 v_596 y_983))))
    else (bnd (if f_X2_isDigit y_608 = 0 then
    (0)
    else (if y_608 = 48 then
    (0)
    else (2))) fun (t_991 : Int32) =>
    bnd (v_597 + 1) fun y_992 =>
    lp_X2_faultIn_10 n M a1 a2 v_594 t_991 0 y_992)))))
    else (if 6 ≤ v_594 then
    (if v_596 = 0 then
    (if ¬ v_596 = 0 then
    (if ¬ v_596 = 0 then
    (if ¬ v_596 = 0 then
    (v_597)
    else (if ¬ y_608 = 41 then
    (v_597)
    else (if v_594 ≤ 0 then
    (v_597)
    else (bnd (v_594 + (-1)) fun y_1000 =>
    bnd (v_597 + 1) fun y_1001 =>
    lp_X2_faultIn_10 n M a1 a2 y_1000 0 v_596 y_1001))))
    else (if ¬ f_X2_isSumSign y_608 = 0 then
    (bnd (v_597 + 1) fun y_1007 =>
    lp_X2_faultIn_10 n M a1 a2 v_594 v_595 1 y_1007)
    else (if f_X2_isProductSign y_608 = 0 then
    (if ¬ v_596 = 0 then
    (v_597)
    else (if ¬ y_608 = 41 then
    (v_597)
    else (if v_594 ≤ 0 then
    (v_597)
    else (bnd (v_594 + (-1)) fun y_1016 =>
    bnd (v_597 + 1) fun y_1017 =>
    lp_X2_faultIn_10 n M a1 a2 y_1016 0 v_596 y_1017))))
    else (bnd (v_597 + 1) fun y_1018 =>
    lp_X2_faultIn_10 n M a1 a2 v_594 v_595 1 y_1018))))
    else (if f_X2_isDigit y_608 = 0 then
    (if ¬ v_596 = 0 then
    (if ¬ v_596 = 0 then
    (v_597)
    else (if ¬ y_608 = 41 then
    (v_597)
    else (if v_594 ≤ 0 then
    (v_597)
    else (bnd (v_594 + (-1)) fun y_1028 =>
    bnd (v_597 + 1) fun y_1029 =>
    lp_X2_faultIn_10 n M a1 a2 y_1028 0 v_596 y_1029))))
    else (if ¬ f_X2_isSumSign y_608 = 0 then
    (bnd (v_597 + 1) fun y_1035 =>
    lp_X2_faultIn_10 n M a1 a2 v_594 v_595 1 y_1035)
    else (if f_X2_isProductSign y_608 = 0 then
    (if ¬ v_596 = 0 then
    (v_597)
    else (if ¬ y_608 = 41 then
    (v_597)
    else (if v_594 ≤ 0 then
    (v_597)
    else (bnd (v_594 + (-1)) fun y_1044 =>
    bnd (v_597 + 1) fun y_1045 =>
    lp_X2_faultIn_10 n M a1 a2 y_1044 0 v_596 y_1045))))
    else (bnd (v_597 + 1) fun y_1046 =>
    lp_X2_faultIn_10 n M a1 a2 v_594 v_595 1 y_1046))))
    else (if v_595 ≤ 0 then
    (if ¬ v_596 = 0 then
    (if ¬ v_596 = 0 then
    (v_597)
    else (if ¬ y_608 = 41 then
    (v_597)
    else (if v_594 ≤ 0 then
    (v_597)
    else (bnd (v_594 + (-1)) fun y_1052 =>
    bnd (v_597 + 1) fun y_1053 =>
    lp_X2_faultIn_10 n M a1 a2 y_1052 0 v_596 y_1053))))
    else (if ¬ f_X2_isSumSign y_608 = 0 then
    (bnd (v_597 + 1) fun y_1059 =>
    lp_X2_faultIn_10 n M a1 a2 v_594 v_595 1 y_1059)
    else (if f_X2_isProductSign y_608 = 0 then
    (if ¬ v_596 = 0 then
    (v_597)
    else (if ¬ y_608 = 41 then
    (v_597)
    else (if v_594 ≤ 0 then
    (v_597)
    else (bnd (v_594 + (-1)) fun y_1068 =>
    bnd (v_597 + 1) fun y_1069 =>
    lp_X2_faultIn_10 n M a1 a2 y_1068 0 v_596 y_1069))))
    else (bnd (v_597 + 1) fun y_1070 =>
    lp_X2_faultIn_10 n M a1 a2 v_594 v_595 1 y_1070))))
    else (bnd (v_595 + (-1)) fun y_1071 =>
    bnd (v_597 + 1) fun y_1072 =>
    lp_X2_faultIn_10 n M a1 a2 v_594 y_1071 v_596 y_1072))))
    else (if ¬ f_X2_isDigit y_608 = 0 then
    (bnd (if f_X2_isDigit y_608 = 0 then
    (0)
    else (if y_608 = 48 then
    (0)
    else (2))) fun (t_1085 : Int32) =>
    bnd (v_597 + 1) fun y_1086 =>
    lp_X2_faultIn_10 n M a1 a2 v_594 t_1085 0 y_1086)
    else (if y_608 = 116 then
    (bnd (if f_X2_isDigit y_608 = 0 then
    (0)
    else (if y_608 = 48 then
    (0)
    else (2))) fun (t_1095 : Int32) =>
    bnd (v_597 + 1) fun y_1096 =>
    lp_X2_faultIn_10 n M a1 a2 v_594 t_1095 0 y_1096)
    else (if ¬ y_608 = 115 then
    (if ¬ v_596 = 0 then
    (if ¬ v_596 = 0 then
    (if ¬ v_596 = 0 then
    (v_597)
    else (if ¬ y_608 = 41 then
    (v_597)
    else (if v_594 ≤ 0 then
    (v_597)
    else (bnd (v_594 + (-1)) fun y_1103 =>
    bnd (v_597 + 1) fun y_1104 =>
    lp_X2_faultIn_10 n M a1 a2 y_1103 0 v_596 y_1104))))
    else (if ¬ f_X2_isSumSign y_608 = 0 then
    (bnd (v_597 + 1) fun y_1110 =>
    lp_X2_faultIn_10 n M a1 a2 v_594 v_595 1 y_1110)
    else (if f_X2_isProductSign y_608 = 0 then
    (if ¬ v_596 = 0 then
    (v_597)
    else (if ¬ y_608 = 41 then
    (v_597)
    else (if v_594 ≤ 0 then
    (v_597)
    else (bnd (v_594 + (-1)) fun y_1119 =>
    bnd (v_597 + 1) fun y_1120 =>
    lp_X2_faultIn_10 n M a1 a2 y_1119 0 v_596 y_1120))))
    else (bnd (v_597 + 1) fun y_1121 =>
    lp_X2_faultIn_10 n M a1 a2 v_594 v_595 1 y_1121))))
    else (if f_X2_isDigit y_608 = 0 then
    (if ¬ v_596 = 0 then
    (if ¬ v_596 = 0 then
    (v_597)
    else (if ¬ y_608 = 41 then
    (v_597)
    else (if v_594 ≤ 0 then
    (v_597)
    else (bnd (v_594 + (-1)) fun y_1131 =>
    bnd (v_597 + 1) fun y_1132 =>
    lp_X2_faultIn_10 n M a1 a2 y_1131 0 v_596 y_1132))))
    else (if ¬ f_X2_isSumSign y_608 = 0 then
    (bnd (v_597 + 1) fun y_1138 =>
    lp_X2_faultIn_10 n M a1 a2 v_594 v_595 1 y_1138)
    else (if f_X2_isProductSign y_608 = 0 then
    (if ¬ v_596 = 0 then
    (v_597)
    else (if ¬ y_608 = 41 then
    (v_597)
    else (if v_594 ≤ 0 then
    (v_597)
    else (bnd (v_594 + (-1)) fun y_1147 =>
    bnd (v_597 + 1) fun y_1148 =>
    lp_X2_faultIn_10 n M a1 a2 y_1147 0 v_596 y_1148))))
    else (bnd (v_597 + 1) fun y_1149 =>
    lp_X2_faultIn_10 n M a1 a2 v_594 v_595 1 y_1149))))
    else (if v_595 ≤ 0 then
    (if ¬ v_596 = 0 then
    (if ¬ v_596 = 0 then
    (v_597)
    else (if ¬ y_608 = 41 then
    (v_597)
    else (if v_594 ≤ 0 then
    (v_597)
    else (bnd (v_594 + (-1)) fun y_1155 =>
    bnd (v_597 + 1) fun y_1156 =>
    lp_X2_faultIn_10 n M a1 a2 y_1155 0 v_596 y_1156))))
    else (if ¬ f_X2_isSumSign y_608 = 0 then
    (bnd (v_597 + 1) fun y_1162 =>
    lp_X2_faultIn_10 n M a1 a2 v_594 v_595 1 y_1162)
    else (if f_X2_isProductSign y_608 = 0 then
    (if ¬ v_596 = 0 then
    (v_597)
    else (if ¬ y_608 = 41 then
    (v_597)
    else (if v_594 ≤ 0 then
    (v_597)
    else (bnd (v_594 + (-1)) fun y_1171 =>
    bnd (v_597 + 1) fun y_1172 =>
    lp_X2_faultIn_10 n M a1 a2 y_1171 0 v_596 y_1172))))
    else (bnd (v_597 + 1) fun y_1173 =>
    lp_X2_faultIn_10 n M a1 a2 v_594 v_595 1 y_1173))))
    else (bnd (v_595 + (-1)) fun y_1174 =>
    bnd (v_597 + 1) fun y_1175 =>
    lp_X2_faultIn_10 n M a1 a2 v_594 y_1174 v_596 y_1175))))
    else (bnd (if f_X2_isDigit y_608 = 0 then
    (0)
    else (if y_608 = 48 then
    (0)
    else (2))) fun (t_1183 : Int32) =>
    bnd (v_597 + 1) fun y_1184 =>
    lp_X2_faultIn_10 n M a1 a2 v_594 t_1183 0 y_1184)))))
    else (bnd (v_594 + 1) fun y_1185 =>
    bnd (v_597 + 1) fun y_1186 =>
    lp_X2_faultIn_10 n M a1 a2 y_1185 v_595 v_596 y_1186)))))
def f_X2_faultIn (M : Mem) (a1 : Nat) (a2 : Int32) : Int32 :=
lp_X2_faultIn_10 101 M a1 a2 0 0 1 0
def f_X6_fault (M : Mem) (a1 : Int32) : Int32 :=
oel (f_X6_shelfAt M a1) ((-1)) fun b_5 =>
bnd (f_X5_textRefusal M b_5) fun y_9 =>
bnd (if y_9 = 0 then
((f_X2_faultIn M (b_5 + 16) (M b_5 3)))
else (y_9)) fun (t_15 : Int32) =>
t_15
def f_X2_addStep (M : Mem) (o : Nat) (a1 : Int32) : Mem :=
bnd (if M o 1 < 0 then
(M)
else (if 100 ≤ M o 1 then
(M)
else (bnd (up2 M (o + 6) (M o 1).toNatClampNeg a1) fun M_4 =>
bnd (up2 M_4 o 1 ((M_4 o 1) + 1)) fun M_5 =>
M_5))) fun (M_6 : Mem) =>
M_6
def f_X2_tightness (a1 : Int32) : Int32 :=
if f_X2_isProductSign a1 = 0 then
(bnd (if f_X2_isSumSign a1 = 0 then
(0)
else (1)) fun (t_12 : Int32) =>
t_12)
else (2)
def lp_X2_endWaits_0 : Nat → Nat → Int32 → Mem → Mem
  | 0, o, a1, M_1 => M_1
  | n + 1, o, a1, M_1 =>
    if M_1 o 3 ≤ 0 then
    (M_1)
    else (if 100 < M_1 o 3 then
    (M_1)
    else (if f_X2_tightness (M_1 (o + 64) ((M_1 o 3) - 1).toNatClampNeg) < a1 then
    (M_1)
    else (bnd (up2 M_1 o 3 ((M_1 o 3) - 1)) fun M_9 =>
    bnd (f_X2_addStep M_9 o (-(M_9 (o + 64) (M_9 o 3).toNatClampNeg))) fun M_12 =>
    lp_X2_endWaits_0 n o a1 M_12)))
def f_X2_endWaits (M : Mem) (o : Nat) (a1 : Int32) : Mem :=
bnd (lp_X2_endWaits_0 ((M o 3).toInt.toNat + 1) o a1 M) fun M_13 =>
M_13
def f_X2_tellSign (M : Mem) (o : Nat) (a1 : Int32) : Mem :=
if ¬ a1 = 41 then
(bnd (if a1 = 40 then
(M)
else (bnd (f_X2_endWaits M o (f_X2_tightness a1)) fun M_9 =>
M_9)) fun (M_10 : Mem) =>
bnd (if M_10 o 3 < 0 then
(M_10)
else (if 100 ≤ M_10 o 3 then
(M_10)
else (bnd (up2 M_10 (o + 64) (M_10 o 3).toNatClampNeg a1) fun M_14 =>
bnd (up2 M_14 o 3 ((M_14 o 3) + 1)) fun M_15 =>
M_15))) fun (M_16 : Mem) =>
M_16)
else (bnd (f_X2_endWaits M o 1) fun M_19 =>
bnd (up2 M_19 o 3 (mx 0 ((M_19 o 3) - 1))) fun M_20 =>
M_20)
def lp_X2_tell_15 : Nat → Nat → Nat → Int32 → Mem → Int32 → Int32 → Mem
  | 0, o, a1, a2, M_55, v_53, v_54 => M_55
  | n + 1, o, a1, a2, M_55, v_53, v_54 =>
    if a2 ≤ v_54 then
    (M_55)
    else (if 100 ≤ v_54 then
    (M_55)
    else (bnd (M_55 a1 v_54.toNatClampNeg) fun y_59 =>
    bnd2 (if f_X2_isDigit y_59 = 0 then
    (if y_59 = 116 then
    (bnd (if ¬ y_59 = 116 then
    ((-2))
    else ((-1))) fun (t_69 : Int32) =>
    bnd (f_X2_addStep M_55 o t_69) fun M_72 =>
    (v_53, M_72))
    else (if ¬ y_59 = 115 then
    (bnd (f_X2_tellSign M_55 o y_59) fun M_76 =>
    (v_53, M_76))
    else (bnd (if ¬ y_59 = 116 then
    ((-2))
    else ((-1))) fun (t_79 : Int32) =>
    bnd (f_X2_addStep M_55 o t_79) fun M_82 =>
    (v_53, M_82))))
    else (bnd (((v_53 * 10) + y_59) - 48) fun y_83 =>
    if a2 ≤ v_54 + 1 then
    (bnd (f_X2_addStep M_55 o y_83) fun M_87 =>
    (0, M_87))
    else (if 100 ≤ v_54 + 1 then
    (bnd (f_X2_addStep M_55 o y_83) fun M_91 =>
    (0, M_91))
    else (if ¬ f_X2_isDigit (M_55 a1 (v_54 + 1).toNatClampNeg) = 0 then
    ((y_83, M_55))
    else (bnd (f_X2_addStep M_55 o y_83) fun M_99 =>
    (0, M_99)))))) fun (x_100 : Int32) (M_101 : Mem) =>
    bnd (v_54 + 1) fun y_102 =>
    lp_X2_tell_15 n o a1 a2 M_101 x_100 y_102))
def f_X2_tell (M : Mem) (o : Nat) (a1 : Nat) (a2 : Int32) : Mem :=
bnd (up2 M o 1 0) fun M_1 =>
bnd (up2 M_1 o 3 0) fun M_2 =>
bnd (lp_X2_tell_15 101 o a1 a2 M_2 0 0) fun M_103 =>
bnd (f_X2_endWaits M_103 o 1) fun M_106 =>
M_106
def lp_J7_fill_53178_5 : Nat → Nat → Int32 → Int32 → Mem → Int32 → Mem
  | 0, a1, a2, y_1, M_9, v_8 => M_9
  | n + 1, a1, a2, y_1, M_9, v_8 =>
    if y_1 ≤ v_8 then
    (M_9)
    else (bnd (up2 M_9 a1 v_8.toNatClampNeg a2) fun M_12 =>
    bnd (v_8 + 1) fun y_13 =>
    lp_J7_fill_53178_5 n a1 a2 y_1 M_12 y_13)
def f_J7_fill_53178 (M : Mem) (a1 : Nat) (a2 : Int32) : Mem :=
bnd (nI (nIA a1)) fun y_1 =>
bnd (lp_J7_fill_53178_5 ((y_1.toInt - 0).toNat + 1) a1 a2 y_1 M 0) fun M_14 =>
M_14
def f_X0_tellLaw (M : Mem) (o : Nat) (a1 : Nat) (a2 : Int32) : Mem :=
bnd (f_X2_tell M (o + 3) a1 a2) fun M_3 =>
bnd (f_J7_fill_53178 M_3 (o + 6) 100) fun M_6 =>
M_6
def f_X6_law (M : Mem) (a1 : Int32) : Int32 × Mem :=
oel (f_X6_shelfAt M a1) (((-1), M)) fun b_5 =>
bnd (f_X5_textRefusal M b_5) fun y_9 =>
if y_9 = 0 then
(bnd (f_X2_faultIn M (b_5 + 16) (M b_5 3)) fun y_14 =>
if y_14 = (-4) then
(bnd (f_X0_tellLaw M 1 (b_5 + 16) (M b_5 3)) fun M_18 =>
(1, M_18))
else (((-100) - y_14, M)))
else ((y_9, M))
def f_X2_joined (a1 : Int32) (a2 : Int32) (a3 : Int32) : Int32 :=
if a1 = 42 then
(a2 * a3)
else (if a1 = 43 then
(a2 + a3)
else (if a1 = 45 then
(a2 - a3)
else (if a1 = 47 then
(bnd (if ¬ a3 = 0 then
((a2 / a3))
else (0)) fun (t_7 : Int32) =>
t_7)
else (bnd (if ¬ a3 = 0 then
((a2 - a2 / a3 * a3))
else (0)) fun (t_10 : Int32) =>
t_10))))
def lp_X2_valueAt_5 : Nat → Nat → Int32 → Int32 → Mem → Int32 → Int32 → Int32 × Mem
  | 0, o, a1, a2, M_46, v_44, v_45 => (v_44, M_46)
  | n + 1, o, a1, a2, M_46, v_44, v_45 =>
    if M_46 o 1 ≤ v_45 then
    ((v_44, M_46))
    else (if 100 ≤ v_45 then
    ((v_44, M_46))
    else (bnd (M_46 (o + 6) v_45.toNatClampNeg) fun y_50 =>
    bnd2 (if (-2) ≤ y_50 then
    (if y_50 < (-2) then
    ((v_44, M_46))
    else (if 100 ≤ v_44 then
    ((v_44, M_46))
    else (bnd (if y_50 < 0 then
    (if ¬ y_50 = (-1) then
    (a2)
    else (a1))
    else (y_50)) fun (t_58 : Int32) =>
    bnd (up2 M_46 (o + 67) v_44.toNatClampNeg t_58) fun M_59 =>
    bnd (v_44 + 1) fun y_60 =>
    (y_60, M_59))))
    else (if v_44 < 2 then
    (if y_50 < (-2) then
    ((v_44, M_46))
    else (if 100 ≤ v_44 then
    ((v_44, M_46))
    else (bnd (if y_50 < 0 then
    (if ¬ y_50 = (-1) then
    (a2)
    else (a1))
    else (y_50)) fun (t_67 : Int32) =>
    bnd (up2 M_46 (o + 67) v_44.toNatClampNeg t_67) fun M_68 =>
    bnd (v_44 + 1) fun y_69 =>
    (y_69, M_68))))
    else (if 100 < v_44 then
    (if y_50 < (-2) then
    ((v_44, M_46))
    else (if 100 ≤ v_44 then
    ((v_44, M_46))
    else (bnd (if y_50 < 0 then
    (if ¬ y_50 = (-1) then
    (a2)
    else (a1))
    else (y_50)) fun (t_76 : Int32) =>
    bnd (up2 M_46 (o + 67) v_44.toNatClampNeg t_76) fun M_77 =>
    bnd (v_44 + 1) fun y_78 =>
    (y_78, M_77))))
    else (bnd (v_44 + (-1)) fun y_79 =>
    bnd (up2 M_46 (o + 67) (y_79 - 1).toNatClampNeg (f_X2_joined (-y_50) (M_46 (o + 67) (y_79 - 1).toNatClampNeg) (M_46 (o + 67) y_79.toNatClampNeg))) fun M_83 =>
    (y_79, M_83))))) fun (x_84 : Int32) (M_85 : Mem) =>
    bnd (v_45 + 1) fun y_86 =>
    lp_X2_valueAt_5 n o a1 a2 M_85 x_84 y_86))
def f_X2_valueAt (M : Mem) (o : Nat) (a1 : Int32) (a2 : Int32) : Int32 × Mem :=
bnd2 (lp_X2_valueAt_5 101 o a1 a2 M 0 0) fun w_87 M_88 =>
bnd (if ¬ w_87 = 0 then
((M_88 (o + 67) (0 : Int32).toNatClampNeg))
else (0)) fun (t_91 : Int32) =>
(t_91, M_88)
def f_X0_windAt (M : Mem) (o : Nat) (a1 : Int32) : Int32 × Mem :=
if a1 < 0 then
((0, M))
else (if a1 < 401 then
(bnd (if ¬ M (o + 6) a1.toNatClampNeg = 100 then
(M)
else (bnd2 (f_X2_valueAt M (o + 3) a1 (M o 4)) fun r_5 M_7 =>
bnd (up2 M_7 (o + 6) a1.toNatClampNeg (mx (-40) (mn 40 r_5))) fun M_8 =>
M_8)) fun (M_9 : Mem) =>
(M_9 (o + 6) a1.toNatClampNeg, M_9))
else ((0, M)))
def f_X6_wind (M : Mem) (a1 : Int32) : Int32 × Mem :=
if a1 < 0 then
(((-1000000001), M))
else (if a1 ≤ 400 then
(bnd2 (f_X0_windAt M 1 a1) fun r_3 M_5 =>
(r_3, M_5))
else (((-1000000001), M)))
def f_X6_isInBay (a1 : Int32) : Int32 :=
bnd (if a1 < (-200) then
(0)
else (if 200 < a1 then
(0)
else (1))) fun (t_4 : Int32) =>
t_4
def f_X3_isFull (M : Mem) (o : Nat) : Int32 :=
bnd (if M o 1 < 4 then
(0)
else (1)) fun (t_3 : Int32) =>
t_3
def f_X4_become (M : Mem) (o : Nat) (a1 : Int32) (a2 : Int32) (a3 : Int32) : Mem :=
bnd (up2 M o 0 a1) fun M_1 =>
bnd (up2 M_1 o 1 a2) fun M_2 =>
bnd (up2 M_2 o 2 a3) fun M_3 =>
M_3
def f_X1_beginAnew (M : Mem) (o : Nat) : Mem :=
bnd (up2 M o 3 (M o 1)) fun M_1 =>
bnd (up2 M_1 o 4 0) fun M_2 =>
bnd (up2 M_2 o 5 (b01 (M_2 o 2))) fun M_3 =>
bnd (up2 M_3 o 6 0) fun M_4 =>
bnd (up2 M_4 o 7 (-4)) fun M_5 =>
bnd (up2 M_5 o 8 0) fun M_6 =>
M_6
def f_X1_comeToStart (M : Mem) (o : Nat) (a1 : Int32) (a2 : Int32) : Mem :=
bnd (up2 M o 1 a1) fun M_1 =>
bnd (up2 M_1 o 2 a2) fun M_2 =>
bnd (f_X1_beginAnew M_2 o) fun M_5 =>
M_5
def f_X3_enter (M : Mem) (o : Nat) (a1 : Int32) (a2 : Int32) (a3 : Int32) (a4 : Int32) : Int32 × Mem :=
if M o 1 < 0 then
(((-2), M))
else (if f_X3_isFull M o = 0 then
(bnd (f_X4_become M ((4 * (o + 3) - 45 + (M o 1).toNatClampNeg) + 12) a1 a4 (M o 1)) fun M_10 =>
bnd (f_X1_comeToStart M_10 (4 * (o + 3) - 45 + (M o 1).toNatClampNeg) a2 a3) fun M_13 =>
bnd (up2 M_13 o 1 ((M_13 o 1) + 1)) fun M_14 =>
(M_14 ((4 * (o + 3) - 45 + (M o 1).toNatClampNeg) + 12) 2, M_14))
else (((-2), M)))
def f_X6_boat (M : Mem) (a1 : Int32) (a2 : Int32) (a3 : Int32) (a4 : Int32) : Int32 × Mem :=
if a1 < 0 then
(((-1), M))
else (if 7 < a1 then
(((-1), M))
else (if f_X6_isInBay a2 = 0 then
(((-1), M))
else (if a4 < 0 then
(((-1), M))
else (if a4 ≤ 40 then
(if f_X3_isFull M 13 = 0 then
(if M 13 2 ≤ 0 then
(bnd2 (f_X3_enter M 13 a1 a2 a3 a4) fun r_16 M_18 =>
(r_16, M_18))
else (((-3), M)))
else (((-2), M)))
else (((-1), M))))))
def f_X3_boatAt (M : Mem) (o : Nat) (a1 : Int32) : Option Nat :=
bnd (if a1 < 0 then
(none)
else (if M o 1 ≤ a1 then
(none)
else (if 4 ≤ a1 then
(none)
else ((some (4 * (o + 3) - 45 + a1.toNatClampNeg)))))) fun (t_6 : Option Nat) =>
t_6
def f_X1_tells (M : Mem) (o : Nat) (a1 : Int32) : Int32 :=
if a1 = 0 then
(M (o + 12) 0)
else (if a1 = 1 then
(M o 3)
else (if a1 = 2 then
(M o 4)
else (if a1 = 3 then
(bnd (if b01 (M o 5) = 0 then
(0)
else (1)) fun (t_7 : Int32) =>
t_7)
else (if a1 = 4 then
(M o 6)
else (if a1 = 5 then
(M o 7)
else (if a1 = 6 then
(M (o + 12) 1)
else (M o 8)))))))
def f_X6_of (M : Mem) (a1 : Int32) (a2 : Int32) : Int32 :=
oel (f_X3_boatAt M 13 a1) ((-1000000001)) fun b_5 =>
if a2 < 0 then
((-1000000001))
else (if a2 ≤ 7 then
(f_X1_tells M b_5 a2)
else ((-1000000001)))
def f_X1_fouls (M : Mem) (o : Nat) (a1 : Nat) : Int32 :=
bnd ((M o 4) - (M a1 4)) fun y_1 =>
bnd (if ¬ M o 7 = (-4) then
(0)
else (if ¬ M a1 7 = (-4) then
(0)
else (if y_1 < 1 then
(0)
else (if 20 < y_1 then
(0)
else (if 6 < ab ((M o 3) - (M a1 3)) then
(0)
else (1)))))) fun (t_8 : Int32) =>
t_8
def lp_X3_tellBadAir_31' : Nat → Nat → Int32 → Mem → Int32 → Mem
  | 0, o, v_44, M_69, v_68 => M_69
  | n + 1, o, v_44, M_69, v_68 =>
    if M_69 o 1 ≤ v_68 then
    (M_69)
    else (if 4 ≤ v_68 then
    (M_69)
    else (bnd (if f_X1_fouls M_69 (4 * (o + 3) - 45 + v_68.toNatClampNeg) (4 * (o + 3) - 45 + v_44.toNatClampNeg) = 0 then
    (M_69)
    else (bnd (up2 M_69 (4 * (o + 3) - 45 + v_44.toNatClampNeg) 9 1) fun M_82 =>
    M_82)) fun (M_83 : Mem) =>
    bnd (v_68 + 1) fun y_84 =>
    lp_X3_tellBadAir_31' n o v_44 M_83 y_84))
def lp_X3_tellBadAir_2 : Nat → Nat → Mem → Int32 → Mem
  | 0, o, M_45, v_44 => M_45
  | n + 1, o, M_45, v_44 =>
    if M_45 o 1 ≤ v_44 then
    (M_45)
    else (if 4 ≤ v_44 then
    (M_45)
    else (bnd (up2 M_45 (4 * (o + 3) - 45 + v_44.toNatClampNeg) 9 0) fun M_50 =>
    bnd (lp_X3_tellBadAir_31' 5 o v_44 M_50 0) fun M_85 =>
    bnd (v_44 + 1) fun y_86 =>
    lp_X3_tellBadAir_2 n o M_85 y_86))
def f_X3_tellBadAir (M : Mem) (o : Nat) : Mem :=
bnd (lp_X3_tellBadAir_2 5 o M 0) fun M_87 =>
M_87
def f_X6_badAir (M : Mem) (a1 : Int32) : Int32 × Mem :=
oel (f_X3_boatAt M 13 a1) (((-1), M)) fun b_5 =>
bnd (f_X3_tellBadAir M 13) fun M_8 =>
bnd (if b01 (M_8 b_5 9) = 0 then
(0)
else (1)) fun (t_11 : Int32) =>
(t_11, M_8)
def f_X1_isIn (M : Mem) (o : Nat) : Int32 :=
bnd (if M o 7 = (-4) then
(0)
else (1)) fun (t_3 : Int32) =>
t_3
def lp_X3_howManyIn_4 : Nat → Mem → Nat → Int32 → Int32 → Int32
  | 0, M, o, v_16, v_17 => v_16
  | n + 1, M, o, v_16, v_17 =>
    if M o 1 ≤ v_17 then
    (v_16)
    else (if 4 ≤ v_17 then
    (v_16)
    else (bnd (if f_X1_isIn M (4 * (o + 3) - 45 + v_17.toNatClampNeg) = 0 then
    (0)
    else (1)) fun (t_28 : Int32) =>
    bnd (v_16 + t_28) fun y_29 =>
    bnd (v_17 + 1) fun y_30 =>
    lp_X3_howManyIn_4 n M o y_29 y_30))
def f_X3_howManyIn (M : Mem) (o : Nat) : Int32 :=
bnd (lp_X3_howManyIn_4 5 M o 0 0) fun w_31 =>
w_31
def f_X3_hasEnded (M : Mem) (o : Nat) : Int32 :=
bnd (if 400 ≤ M o 2 then
(1)
else (if M o 1 ≤ 0 then
(0)
else (if ¬ f_X3_howManyIn M o = M o 1 then
(0)
else (1)))) fun (t_8 : Int32) =>
t_8
def f_X0_tideAt (M : Mem) (o : Nat) (a1 : Int32) : Int32 :=
bnd (if M o 2 < ab a1 then
(((M o 1) / 2))
else ((M o 1))) fun (t_3 : Int32) =>
t_3
def f_X1_sail (M : Mem) (o : Nat) (a1 : Nat) (a2 : Int32) (a3 : Int32) : Mem :=
if f_X1_isIn M o = 0 then
(bnd (if M o 4 < M a1 0 then
(if M o 6 ≤ 0 then
(bnd (if b01 (M o 5) = 0 then
((6 + (a2 / 5)))
else ((6 - (a2 / 5)))) fun (t_11 : Int32) =>
bnd (if b01 (M o 9) = 0 then
(0)
else (2)) fun (t_14 : Int32) =>
bnd (t_11 - (t_14 + (f_X0_tideAt M a1 (M o 3)))) fun y_18 =>
bnd (up2 M o 4 ((M o 4) + (mx 0 y_18))) fun M_19 =>
bnd (if b01 (M_19 o 5) = 0 then
((mx (-200) ((M_19 o 3) - 8)))
else ((mn 200 ((M_19 o 3) + 8)))) fun (t_22 : Int32) =>
bnd (up2 M_19 o 3 t_22) fun M_23 =>
M_23)
else (bnd (up2 M o 6 ((M o 6) - 1)) fun M_24 =>
bnd (up2 M_24 o 4 (mx 0 ((M_24 o 4) - (f_X0_tideAt M_24 a1 (M_24 o 3))))) fun M_28 =>
M_28))
else (bnd (if M o 3 ≤ 0 then
((mn 0 ((M o 3) + 8)))
else ((mx 0 ((M o 3) - 8)))) fun (t_31 : Int32) =>
bnd (up2 M o 3 t_31) fun M_32 =>
M_32)) fun (M_33 : Mem) =>
bnd (if M_33 o 4 < M_33 a1 0 then
(M_33)
else (if ¬ M_33 o 3 = 0 then
(M_33)
else (bnd (up2 M_33 o 7 a3) fun M_37 =>
M_37))) fun (M_38 : Mem) =>
M_38)
else (M)
def f_X1_canTurn (M : Mem) (o : Nat) (a1 : Nat) : Int32 :=
bnd (if ¬ f_X1_isIn M o = 0 then
(0)
else (if ¬ M o 6 = 0 then
(0)
else (if M a1 0 ≤ M o 4 then
(0)
else (1)))) fun (t_9 : Int32) =>
t_9
def f_X1_goesOut (M : Mem) (o : Nat) : Int32 :=
bnd (if b01 (M o 5) = 0 then
(if (-200) < M o 3 then
(0)
else (1))
else (if M o 3 < 200 then
(0)
else (1))) fun (t_5 : Int32) =>
t_5
def f_X1_turnsAt (M : Mem) (o : Nat) (a1 : Int32) : Int32 :=
bnd (5 * (M (o + 12) 1)) fun y_1 =>
bnd (if y_1 ≤ 0 then
(0)
else (if ¬ a1 - a1 / y_1 * y_1 = 0 then
(0)
else (1))) fun (t_5 : Int32) =>
t_5
def f_X1_isHeadedBy (M : Mem) (o : Nat) (a1 : Int32) : Int32 :=
bnd (if b01 (M o 5) = 0 then
((-(a1 / 5)))
else ((a1 / 5))) fun (t_3 : Int32) =>
bnd (if t_3 < ((M (o + 12) 1) / 5) + 1 then
(0)
else (1)) fun (t_6 : Int32) =>
t_6
def f_X3_hasToCover (M : Mem) (o : Nat) (a1 : Nat) : Int32 :=
bnd (if M (a1 + 12) 2 ≤ 0 then
(((M o 1) - 1))
else (((M (a1 + 12) 2) - 1))) fun (t_3 : Int32) =>
if t_3 < 0 then
(0)
else (if 4 ≤ t_3 then
(0)
else (if ¬ (4 * (o + 3) - 45 + t_3.toNatClampNeg) = a1 then
(bnd (if b01 (M (4 * (o + 3) - 45 + t_3.toNatClampNeg) 5) = b01 (M a1 5) then
(0)
else (if M a1 4 ≤ M (4 * (o + 3) - 45 + t_3.toNatClampNeg) 4 then
(0)
else (1))) fun (t_13 : Int32) =>
t_13)
else (0)))
def f_X1_turnsOddlyAt (M : Mem) (o : Nat) (a1 : Int32) : Int32 :=
bnd (5 * (M (o + 12) 1)) fun y_1 =>
bnd (if y_1 ≤ 0 then
(0)
else (if ¬ a1 - a1 / (2 * y_1) * (2 * y_1) = y_1 then
(0)
else (1))) fun (t_5 : Int32) =>
t_5
def f_X1_isFarAside (M : Mem) (o : Nat) : Int32 :=
bnd (if b01 (M o 5) = 0 then
((-(M o 3)))
else ((M o 3))) fun (t_3 : Int32) =>
bnd (if t_3 < 5 * (M (o + 12) 1) then
(0)
else (1)) fun (t_6 : Int32) =>
t_6
def f_X1_isOnItsLast (M : Mem) (o : Nat) (a1 : Int32) : Int32 :=
bnd (if b01 (M o 5) = 0 then
(if 0 ≤ M o 3 then
(0)
else (1))
else (if M o 3 ≤ 0 then
(0)
else (1))) fun (t_5 : Int32) =>
bnd (if t_5 = 0 then
(0)
else (if ab (M o 3) < (8 * (a1 - (M o 4))) / 6 then
(0)
else (1))) fun (t_9 : Int32) =>
t_9
def f_X1_turnsByBitsAt (M : Mem) (o : Nat) (a1 : Int32) : Int32 :=
bnd ((a1 / 10) - 1) fun y_1 =>
bnd (if ¬ a1 - a1 / 10 * 10 = 0 then
(0)
else (if y_1 < 0 then
(0)
else (if 8 ≤ y_1 then
(0)
else (if ¬ ((M (o + 12) 1) >>> (y_1 &&& 31)) &&& 1 = 1 then
(0)
else (1))))) fun (t_7 : Int32) =>
t_7
def f_X3_wantsToTurn (M : Mem) (o : Nat) (a1 : Nat) (a2 : Nat) (a3 : Int32) : Int32 :=
if M (a1 + 12) 0 = 0 then
(f_X1_turnsAt M a1 (M o 2))
else (if M (a1 + 12) 0 = 1 then
(f_X1_isHeadedBy M a1 a3)
else (if M (a1 + 12) 0 = 2 then
(b01 (M a1 9))
else (if M (a1 + 12) 0 = 3 then
(bnd (if ¬ b01 (M a1 9) = 0 then
(1)
else (if f_X3_hasToCover M o a1 = 0 then
(0)
else (1))) fun (t_20 : Int32) =>
t_20)
else (if M (a1 + 12) 0 = 4 then
(f_X1_turnsOddlyAt M a1 (M o 2))
else (if M (a1 + 12) 0 = 5 then
(f_X1_isFarAside M a1)
else (if M (a1 + 12) 0 = 6 then
(bnd (if ¬ f_X1_isFarAside M a1 = 0 then
(1)
else (if f_X1_isOnItsLast M a1 (M a2 0) = 0 then
(0)
else (1))) fun (t_43 : Int32) =>
t_43)
else (if M (a1 + 12) 0 = 7 then
(bnd (if f_X1_isHeadedBy M a1 a3 = 0 then
(0)
else (if M a2 3 ≤ 2 then
(1)
else (if ¬ (M o 2) - (M o 2) / 10 * 10 = 0 then
(0)
else (1)))) fun (t_53 : Int32) =>
t_53)
else (f_X1_turnsByBitsAt M a1 (M o 2)))))))))
def f_X1_comeAbout (M : Mem) (o : Nat) (a1 : Int32) : Mem :=
bnd (if ¬ b01 (M o 5) = 0 then
(0)
else (1)) fun (t_3 : Int32) =>
bnd (up2 M o 5 t_3) fun M_4 =>
bnd (up2 M_4 o 6 a1) fun M_5 =>
bnd (up2 M_5 o 8 ((M_5 o 8) + 1)) fun M_6 =>
M_6
def lp_X3_step_17 : Nat → Nat → Nat → Int32 → Mem → Int32 → Mem
  | 0, o, a1, a2, M_16, v_15 => M_16
  | n + 1, o, a1, a2, M_16, v_15 =>
    if M_16 o 1 ≤ v_15 then
    (M_16)
    else (if 4 ≤ v_15 then
    (M_16)
    else (bnd (f_X1_sail M_16 (4 * (o + 3) - 45 + v_15.toNatClampNeg) a1 a2 (M_16 o 2)) fun M_23 =>
    bnd (v_15 + 1) fun y_24 =>
    lp_X3_step_17 n o a1 a2 M_23 y_24))
def lp_X3_step_65 : Nat → Nat → Nat → Int32 → Mem → Int32 → Mem
  | 0, o, a1, a3, M_55, v_54 => M_55
  | n + 1, o, a1, a3, M_55, v_54 =>
    if M_55 o 1 ≤ v_54 then
    (M_55)
    else (if 4 ≤ v_54 then
    (M_55)
    else (bnd (if f_X1_canTurn M_55 (4 * (o + 3) - 45 + v_54.toNatClampNeg) a1 = 0 then
    (0)
    else (if ¬ f_X1_goesOut M_55 (4 * (o + 3) - 45 + v_54.toNatClampNeg) = 0 then
    (1)
    else (if f_X3_wantsToTurn M_55 o (4 * (o + 3) - 45 + v_54.toNatClampNeg) a1 a3 = 0 then
    (0)
    else (1)))) fun (t_76 : Int32) =>
    bnd (up2 M_55 (4 * (o + 3) - 45 + v_54.toNatClampNeg) 10 t_76) fun M_77 =>
    bnd (v_54 + 1) fun y_78 =>
    lp_X3_step_65 n o a1 a3 M_77 y_78))
def lp_X3_step_140 : Nat → Nat → Nat → Mem → Int32 → Mem
  | 0, o, a1, M_95, v_94 => M_95
  | n + 1, o, a1, M_95, v_94 =>
    if M_95 o 1 ≤ v_94 then
    (M_95)
    else (if 4 ≤ v_94 then
    (M_95)
    else (bnd (if b01 (M_95 (4 * (o + 3) - 45 + v_94.toNatClampNeg) 10) = 0 then
    (M_95)
    else (bnd (f_X1_comeAbout M_95 (4 * (o + 3) - 45 + v_94.toNatClampNeg) (M_95 a1 3)) fun M_105 =>
    M_105)) fun (M_106 : Mem) =>
    bnd (v_94 + 1) fun y_107 =>
    lp_X3_step_140 n o a1 M_106 y_107))
def f_X3_step (M : Mem) (o : Nat) (a1 : Nat) (a2 : Int32) (a3 : Int32) : Mem :=
bnd (f_X3_tellBadAir M o) fun M_3 =>
bnd (up2 M_3 o 2 ((M_3 o 2) + 1)) fun M_4 =>
bnd (lp_X3_step_17 5 o a1 a2 M_4 0) fun M_25 =>
bnd (f_X3_tellBadAir M_25 o) fun M_28 =>
bnd (lp_X3_step_65 5 o a1 a3 M_28 0) fun M_79 =>
bnd (lp_X3_step_140 5 o a1 M_79 0) fun M_108 =>
M_108
def lp_X3_goOn_2 : Nat → Nat → Nat → Int32 → Mem → Int32 → Mem
  | 0, o, a1, a2, M_21, v_20 => M_21
  | n + 1, o, a1, a2, M_21, v_20 =>
    if a2 ≤ v_20 then
    (M_21)
    else (if ¬ f_X3_hasEnded M_21 o = 0 then
    (M_21)
    else (bnd2 (f_X0_windAt M_21 a1 (M_21 o 2)) fun r_29 M_31 =>
    bnd2 (f_X0_windAt M_31 a1 ((M_31 o 2) + 1)) fun r_32 M_34 =>
    bnd (f_X3_step M_34 o a1 r_29 r_32) fun M_37 =>
    bnd (v_20 + 1) fun y_38 =>
    lp_X3_goOn_2 n o a1 a2 M_37 y_38))
def f_X3_goOn (M : Mem) (o : Nat) (a1 : Nat) (a2 : Int32) : Mem :=
bnd (lp_X3_goOn_2 ((a2.toInt - 0).toNat + 1) o a1 a2 M 0) fun M_39 =>
M_39
def f_X6_go (M : Mem) (a1 : Int32) : Int32 × Mem :=
if a1 < 1 then
(((-1), M))
else (if a1 ≤ 100 then
(if M 13 1 = 0 then
(((-3), M))
else (if f_X3_hasEnded M 13 = 0 then
(bnd (f_X3_goOn M 13 1 a1) fun M_11 =>
(M_11 13 2, M_11))
else (((-3), M))))
else (((-1), M)))
def f_X6_turn (M : Mem) (a1 : Int32) : Int32 × Mem :=
oel (f_X3_boatAt M 13 a1) (((-1), M)) fun b_5 =>
if ¬ f_X1_canTurn M b_5 1 = 0 then
(bnd (f_X1_comeAbout M b_5 (M 1 3)) fun M_13 =>
(M_13 1 3, M_13))
else (((-3), M))
def lp_X3_beginAnew_7 : Nat → Nat → Mem → Int32 → Mem
  | 0, o, M_13, v_12 => M_13
  | n + 1, o, M_13, v_12 =>
    if M_13 o 1 ≤ v_12 then
    (M_13)
    else (if 4 ≤ v_12 then
    (M_13)
    else (bnd (f_X1_beginAnew M_13 (4 * (o + 3) - 45 + v_12.toNatClampNeg)) fun M_20 =>
    bnd (v_12 + 1) fun y_21 =>
    lp_X3_beginAnew_7 n o M_20 y_21))
def f_X3_beginAnew (M : Mem) (o : Nat) : Mem :=
bnd (up2 M o 2 0) fun M_1 =>
bnd (lp_X3_beginAnew_7 5 o M_1 0) fun M_22 =>
M_22
def f_X6_anew (M : Mem) : Int32 × Mem :=
bnd (f_X3_beginAnew M 13) fun M_3 =>
(M_3 13 1, M_3)
def f_X1_height (M : Mem) (o : Nat) : Int32 :=
(M o 4) - ((ab (M o 3)) / 2)
def f_X1_isAheadOf (M : Mem) (o : Nat) (a1 : Nat) : Int32 :=
if M o 7 = M a1 7 then
(if f_X1_height M o = f_X1_height M a1 then
(bnd (if M (a1 + 12) 2 ≤ M (o + 12) 2 then
(0)
else (1)) fun (t_11 : Int32) =>
t_11)
else (bnd (if f_X1_height M o ≤ f_X1_height M a1 then
(0)
else (1)) fun (t_20 : Int32) =>
t_20))
else (bnd (if f_X1_isIn M o = 0 then
(0)
else (if f_X1_isIn M a1 = 0 then
(1)
else (if M a1 7 ≤ M o 7 then
(0)
else (1)))) fun (t_33 : Int32) =>
t_33)
def lp_X3_placeOf_4 : Nat → Int32 → Int32 → Int32
  | 0, v_1, v_2 => v_1
  | n + 1, v_1, v_2 =>
    v_1
def lp_X3_placeOf_4' : Nat → Mem → Nat → Nat → Int32 → Int32 → Int32
  | 0, M, o, b0, v_20, v_21 => v_20
  | n + 1, M, o, b0, v_20, v_21 =>
    if M o 1 ≤ v_21 then
    (v_20)
    else (if 4 ≤ v_21 then
    (v_20)
    else (bnd (if f_X1_isAheadOf M (4 * (o + 3) - 45 + v_21.toNatClampNeg) b0 = 0 then
    (0)
    else (1)) fun (t_32 : Int32) =>
    bnd (v_20 + t_32) fun y_33 =>
    bnd (v_21 + 1) fun y_34 =>
    lp_X3_placeOf_4' n M o b0 y_33 y_34))
def f_X3_placeOf (M : Mem) (o : Nat) (a1 : Option Nat) : Int32 :=
oel a1 (bnd (lp_X3_placeOf_4 1 1 0) fun w_4 =>
w_4) fun b0 =>
bnd (lp_X3_placeOf_4' 5 M o b0 1 0) fun w_35 =>
w_35
def lp_X3_boatAtPlace_2 : Nat → Mem → Nat → Int32 → Int32 → Int32
  | 0, M, o, a1, v_10 => 0
  | n + 1, M, o, a1, v_10 =>
    if M o 1 ≤ v_10 then
    ((-4))
    else (if 4 ≤ v_10 then
    ((-4))
    else (if ¬ f_X3_placeOf M o (some (4 * (o + 3) - 45 + v_10.toNatClampNeg)) = a1 then
    (bnd (v_10 + 1) fun y_18 =>
    lp_X3_boatAtPlace_2 n M o a1 y_18)
    else (v_10)))
def f_X3_boatAtPlace (M : Mem) (o : Nat) (a1 : Int32) : Int32 :=
lp_X3_boatAtPlace_2 5 M o a1 0
def f_X6_place (M : Mem) (a1 : Int32) : Int32 :=
bnd (if 1 ≤ a1 then
((f_X3_boatAtPlace M 13 a1))
else ((-1))) fun (t_6 : Int32) =>
t_6
def f_X1_take (M : Mem) (o : Nat) (a1 : Nat) : Mem :=
bnd (f_X4_become M (o + 12) (M (a1 + 12) 0) (M (a1 + 12) 1) (M (a1 + 12) 2)) fun M_3 =>
bnd (up2 M_3 o 1 (M_3 a1 1)) fun M_4 =>
bnd (up2 M_4 o 2 (b01 (M_4 a1 2))) fun M_5 =>
bnd (up2 M_5 o 3 (M_5 a1 3)) fun M_6 =>
bnd (up2 M_6 o 4 (M_6 a1 4)) fun M_7 =>
bnd (up2 M_7 o 5 (b01 (M_7 a1 5))) fun M_8 =>
bnd (up2 M_8 o 6 (M_8 a1 6)) fun M_9 =>
bnd (up2 M_9 o 7 (M_9 a1 7)) fun M_10 =>
bnd (up2 M_10 o 8 (M_10 a1 8)) fun M_11 =>
M_11
def lp_X3_take_18 : Nat → Nat → Nat → Mem → Int32 → Mem
  | 0, o, a1, M_15, v_14 => M_15
  | n + 1, o, a1, M_15, v_14 =>
    if 4 ≤ v_14 then
    (M_15)
    else (if 4 ≤ v_14 then
    (M_15)
    else (bnd (f_X1_take M_15 (4 * (o + 3) - 45 + v_14.toNatClampNeg) (4 * (a1 + 3) - 45 + v_14.toNatClampNeg)) fun M_23 =>
    bnd (v_14 + 1) fun y_24 =>
    lp_X3_take_18 n o a1 M_23 y_24))
def f_X3_take (M : Mem) (o : Nat) (a1 : Nat) : Mem :=
bnd (up2 M o 1 (M a1 1)) fun M_1 =>
bnd (up2 M_1 o 2 (M_1 a1 2)) fun M_2 =>
bnd (lp_X3_take_18 5 o a1 M_2 0) fun M_25 =>
M_25
def f_X6_endInMind (M : Mem) : Mem :=
bnd (f_X3_take M 15 13) fun M_3 =>
bnd (f_X3_goOn M_3 15 1 400) fun M_6 =>
M_6
def f_X6_ends (M : Mem) (a1 : Int32) : Int32 × Mem :=
oel (f_X3_boatAt M 13 a1) (((-1), M)) fun b_5 =>
bnd (f_X6_endInMind M) fun M_8 =>
oel (f_X3_boatAt M_8 15 a1) ((f_X3_placeOf M_8 15 none, M_8)) fun b_13 =>
(f_X3_placeOf M_8 15 (some b_13), M_8)
def f_X3_clear (M : Mem) (o : Nat) : Mem :=
bnd (up2 M o 1 0) fun M_1 =>
bnd (up2 M_1 o 2 0) fun M_2 =>
M_2
def f_X6_secondsAlone (M : Mem) (a1 : Int32) (a2 : Int32) (a3 : Int32) : Int32 × Mem :=
bnd (f_X3_clear M 15) fun M_3 =>
bnd2 (f_X3_enter M_3 15 8 a1 a2 a3) fun r_4 M_6 =>
bnd (f_X3_goOn M_6 15 1 400) fun M_9 =>
(M_9 15 2, M_9)
def f_X6_tacks (M : Mem) (a1 : Int32) (a2 : Int32) (a3 : Int32) : Int32 × Mem :=
if f_X6_isInBay a1 = 0 then
(((-1), M))
else (if a3 < 0 then
(((-1), M))
else (if a3 < 256 then
(bnd2 (f_X6_secondsAlone M a1 a2 a3) fun r_8 M_10 =>
(r_8, M_10))
else (((-1), M))))
def lp_X6_bestAlone_46' : Nat → Int32 → Int32 → Int32 → Mem → Int32 → Int32 → Int32 × Mem
  | 0, a1, a2, v_25, M_32, v_30, v_31 => (v_30, M_32)
  | n + 1, a1, a2, v_25, M_32, v_30, v_31 =>
    if 2 <<< (v_25 &&& 31) ≤ v_31 then
    ((v_30, M_32))
    else (bnd2 (f_X6_secondsAlone M_32 a1 a2 v_31) fun r_35 M_37 =>
    bnd (mn v_30 ((r_35 * 256) + v_31)) fun y_38 =>
    bnd (v_31 + 1) fun y_39 =>
    lp_X6_bestAlone_46' n a1 a2 v_25 M_37 y_38 y_39)
def lp_X6_bestAlone_15 : Nat → Int32 → Int32 → Mem → Int32 → Int32 → Int32 × Mem
  | 0, a1, a2, M_26, v_24, v_25 => (0, M_26)
  | n + 1, a1, a2, M_26, v_24, v_25 =>
    if 8 ≤ v_25 then
    ((v_24, M_26))
    else (if (v_25 + 1) * 10 < v_24 / 256 then
    (bnd (1 <<< (v_25 &&& 31)) fun y_29 =>
    bnd2 (lp_X6_bestAlone_46' (((2 <<< (v_25 &&& 31)).toInt - y_29.toInt).toNat + 1) a1 a2 v_25 M_26 v_24 y_29) fun w_40 M_41 =>
    bnd (v_25 + 1) fun y_42 =>
    lp_X6_bestAlone_15 n a1 a2 M_41 w_40 y_42)
    else ((v_24, M_26)))
def f_X6_bestAlone (M : Mem) (a1 : Int32) (a2 : Int32) : Int32 × Mem :=
bnd2 (f_X6_secondsAlone M a1 a2 0) fun r_1 M_3 =>
bnd (r_1 * 256) fun y_4 =>
lp_X6_bestAlone_15 9 a1 a2 M_3 y_4 0
def f_X6_best (M : Mem) (a1 : Int32) (a2 : Int32) (a3 : Int32) : Int32 × Mem :=
if f_X6_isInBay a1 = 0 then
(((-1), M))
else (if a3 < 0 then
(((-1), M))
else (if a3 ≤ 1 then
(bnd2 (f_X6_bestAlone M a1 a2) fun r_8 M_10 =>
bnd (if ¬ a3 = 0 then
((r_8 / 256))
else ((r_8 - r_8 / 256 * 256))) fun (t_13 : Int32) =>
(t_13, M_10))
else (((-1), M))))
def f_X6_sides (M : Mem) : Int32 × Mem :=
bnd2 (f_X6_bestAlone M 100 0) fun r_1 M_3 =>
bnd2 (f_X6_bestAlone M_3 100 1) fun r_4 M_6 =>
bnd ((mn r_1 r_4) / 256) fun y_7 =>
bnd2 (f_X6_bestAlone M_6 (-100) 0) fun r_8 M_10 =>
bnd2 (f_X6_bestAlone M_10 (-100) 1) fun r_11 M_13 =>
bnd ((mn r_8 r_11) / 256) fun y_14 =>
(y_7 - y_14, M_13)
def f_X6_isGame (a1 : Int32) (a2 : Int32) (a3 : Int32) : Int32 :=
bnd (if f_X6_isInBay a1 = 0 then
(0)
else (if f_X6_isInBay a2 = 0 then
(0)
else (if a3 < 0 then
(0)
else (if 3 < a3 then
(0)
else (1))))) fun (t_14 : Int32) =>
t_14
def f_X6_isGameBits (a1 : Int32) : Int32 :=
bnd (if a1 < 0 then
(0)
else (if 16 ≤ a1 then
(0)
else (1))) fun (t_4 : Int32) =>
t_4
def f_X3_leadOfFirst (M : Mem) (o : Nat) (a1 : Int32) : Int32 :=
oel (f_X3_boatAt M o 0) (oel (f_X3_boatAt M o 1) (0) fun b_10 =>
0) fun b_5 =>
oel (f_X3_boatAt M o 1) (0) fun b_15 =>
bnd (if f_X1_isIn M b_5 = 0 then
((f_X1_height M b_5))
else (a1)) fun (t_25 : Int32) =>
bnd (if f_X1_isIn M b_15 = 0 then
((f_X1_height M b_15))
else (a1)) fun (t_35 : Int32) =>
t_25 - t_35
def f_X6_gameLead (M : Mem) (a1 : Int32) (a2 : Int32) (a3 : Int32) (a4 : Int32) (a5 : Int32) : Int32 × Mem :=
bnd (f_X3_clear M 15) fun M_3 =>
bnd (if a3 &&& 1 = 0 then
(0)
else (1)) fun (t_6 : Int32) =>
bnd2 (f_X3_enter M_3 15 8 a1 t_6 a4) fun r_7 M_9 =>
bnd (if a3 &&& 2 = 0 then
(0)
else (1)) fun (t_12 : Int32) =>
bnd2 (f_X3_enter M_9 15 8 a2 t_12 a5) fun r_13 M_15 =>
bnd (f_X3_goOn M_15 15 1 60) fun M_18 =>
(f_X3_leadOfFirst M_18 15 (M_18 1 0), M_18)
def f_X6_lead (M : Mem) (a1 : Int32) (a2 : Int32) (a3 : Int32) (a4 : Int32) (a5 : Int32) : Int32 × Mem :=
if f_X6_isGame a1 a2 a3 = 0 then
(((-1000000001), M))
else (if f_X6_isGameBits a4 = 0 then
(((-1000000001), M))
else (if ¬ f_X6_isGameBits a5 = 0 then
(bnd2 (f_X6_gameLead M a1 a2 a3 a4 a5) fun r_16 M_18 =>
(r_16, M_18))
else (((-1000000001), M))))
def lp_X6_worstGame_18 : Nat → Int32 → Int32 → Int32 → Int32 → Mem → Int32 → Int32 → Int32 × Mem
  | 0, a1, a2, a3, a4, M_17, v_15, v_16 => (v_15, M_17)
  | n + 1, a1, a2, a3, a4, M_17, v_15, v_16 =>
    if 16 ≤ v_16 then
    ((v_15, M_17))
    else (bnd2 (f_X6_gameLead M_17 a1 a2 a3 a4 v_16) fun r_20 M_22 =>
    bnd (mn v_15 ((r_20 * 16) + v_16)) fun y_23 =>
    bnd (v_16 + 1) fun y_24 =>
    lp_X6_worstGame_18 n a1 a2 a3 a4 M_22 y_23 y_24)
def f_X6_worstGame (M : Mem) (a1 : Int32) (a2 : Int32) (a3 : Int32) (a4 : Int32) : Int32 × Mem :=
bnd2 (f_X6_gameLead M a1 a2 a3 a4 0) fun r_1 M_3 =>
bnd (r_1 * 16) fun y_4 =>
bnd2 (lp_X6_worstGame_18 16 a1 a2 a3 a4 M_3 y_4 1) fun w_25 M_26 =>
(w_25, M_26)
def f_J9_floorDiv_7cf53 (a1 : Int32) (a2 : Int32) : Int32 :=
bnd (a1 / a2) fun y_1 =>
if 0 ≤ a1 ^^^ a2 then
(y_1)
else (if y_1 * a2 = a1 then
(y_1)
else (y_1 - 1))
def lp_X6_safe_44 : Nat → Int32 → Int32 → Int32 → Mem → Int32 → Int32 → Int32 → Int32 × Int32 × Mem
  | 0, a1, a2, a3, M_54, v_51, v_52, v_53 => (v_51, v_52, M_54)
  | n + 1, a1, a2, a3, M_54, v_51, v_52, v_53 =>
    if 16 ≤ v_53 then
    ((v_51, v_52, M_54))
    else (bnd2 (f_X6_worstGame M_54 a1 a2 a3 v_53) fun r_57 M_59 =>
    bnd (f_J9_floorDiv_7cf53 r_57 16) fun y_63 =>
    bnd2 (if y_63 ≤ v_52 then
    ((v_51, v_52))
    else ((v_53, y_63))) fun (x_66 : Int32) (x_67 : Int32) =>
    bnd (v_53 + 1) fun y_68 =>
    lp_X6_safe_44 n a1 a2 a3 M_59 x_66 x_67 y_68)
def f_X6_safe (M : Mem) (a1 : Int32) (a2 : Int32) (a3 : Int32) (a4 : Int32) : Int32 × Mem :=
if f_X6_isGame a1 a2 a3 = 0 then
(((-1000000001), M))
else (if a4 < 0 then
(((-1000000001), M))
else (if a4 ≤ 1 then
(bnd2 (f_X6_worstGame M a1 a2 a3 0) fun r_8 M_10 =>
bnd (f_J9_floorDiv_7cf53 r_8 16) fun y_14 =>
bnd3 (lp_X6_safe_44 16 a1 a2 a3 M_10 0 y_14 1) fun w_69 w_70 M_71 =>
bnd (if ¬ a4 = 0 then
(w_69)
else (w_70)) fun (t_74 : Int32) =>
(t_74, M_71))
else (((-1000000001), M))))
def f_J9_floorMod_7cf53 (a1 : Int32) (a2 : Int32) : Int32 :=
bnd (a1 - a1 / a2 * a2) fun y_1 =>
if 0 ≤ a1 ^^^ a2 then
(y_1)
else (if y_1 = 0 then
(y_1)
else (y_1 + a2))
def f_X6_answer (M : Mem) (a1 : Int32) (a2 : Int32) (a3 : Int32) (a4 : Int32) : Int32 × Mem :=
if f_X6_isGame a1 a2 a3 = 0 then
(((-1), M))
else (if ¬ f_X6_isGameBits a4 = 0 then
(bnd2 (f_X6_worstGame M a1 a2 a3 a4) fun r_11 M_13 =>
(f_J9_floorMod_7cf53 r_11 16, M_13))
else (((-1), M)))
def f_X6_cover (M : Mem) (a1 : Int32) (a2 : Int32) (a3 : Int32) (a4 : Int32) : Int32 × Mem :=
if f_X6_isGame a1 a2 a3 = 0 then
(((-1000000001), M))
else (if ¬ f_X6_isGameBits a4 = 0 then
(bnd2 (f_X6_gameLead M a1 a2 a3 a4 a4) fun r_11 M_13 =>
(r_11, M_13))
else (((-1000000001), M)))
def f_J6_compare_7cf53 (a1 : Int32) (a2 : Int32) : Int32 :=
bnd (if a2 ≤ a1 then
(if ¬ a1 = a2 then
(1)
else (0))
else ((-1))) fun (t_4 : Int32) =>
t_4
def lp_X5_swing_9 : Nat → Mem → Nat → Int32 → Int32 → Int32 → Int32 → Int32 × Int32
  | 0, M, o, v_23, v_24, v_25, v_26 => (v_23, v_24)
  | n + 1, M, o, v_23, v_24, v_25, v_26 =>
    if M o 3 ≤ v_26 then
    ((v_23, v_24))
    else (if 100 ≤ v_26 then
    ((v_23, v_24))
    else (bnd (f_J6_compare_7cf53 (M (o + 16) v_26.toNatClampNeg) (M (o + 16) (v_26 - 1).toNatClampNeg)) fun y_33 =>
    bnd3 (if y_33 = 0 then
    ((v_23, v_24, v_25))
    else (bnd (v_23 + 1) fun y_36 =>
    bnd (if ¬ y_33 + v_25 = 0 then
    (0)
    else (1)) fun (t_39 : Int32) =>
    bnd (v_24 + t_39) fun y_40 =>
    (y_36, y_40, y_33))) fun (x_41 : Int32) (x_42 : Int32) (x_43 : Int32) =>
    bnd (v_26 + 1) fun y_44 =>
    lp_X5_swing_9 n M o x_41 x_42 x_43 y_44))
def f_X5_swing (M : Mem) (o : Nat) : Int32 :=
bnd2 (lp_X5_swing_9 100 M o 0 0 0 1) fun w_45 w_46 =>
if 3 ≤ w_45 then
(bnd (if 3 * w_46 < w_45 then
(2)
else (1)) fun (t_50 : Int32) =>
t_50)
else (0)
def f_X6_which (M : Mem) (a1 : Int32) : Int32 :=
oel (f_X6_shelfAt M a1) ((-1)) fun b_5 =>
bnd (f_X5_rowRefusal M b_5) fun y_9 =>
bnd (if y_9 = 0 then
((f_X5_swing M b_5))
else (y_9)) fun (t_15 : Int32) =>
t_15
def f_X5_hasPlace (M : Mem) (o : Nat) (a1 : Int32) : Int32 :=
bnd (if a1 < 0 then
(0)
else (if M o 3 ≤ a1 then
(0)
else (if 100 ≤ a1 then
(0)
else (1)))) fun (t_5 : Int32) =>
t_5
def f_X5_tellsAt (M : Mem) (o : Nat) (a1 : Int32) : Int32 :=
if M o 2 = 0 then
(bnd (if f_X5_hasPlace M o a1 = 0 then
(0)
else (if M (o + 16) a1.toNatClampNeg = (-128) then
(0)
else (1))) fun (t_9 : Int32) =>
t_9)
else (if M o 2 = 1 then
(bnd (if f_X5_hasPlace M o a1 = 0 then
(0)
else (if M (o + 16) a1.toNatClampNeg = (-32768) then
(0)
else (1))) fun (t_18 : Int32) =>
t_18)
else (bnd (if f_X5_hasPlace M o a1 = 0 then
(0)
else (if M (o + 16) a1.toNatClampNeg = (-2147483648) then
(0)
else (1))) fun (t_26 : Int32) =>
t_26))
def lp_X6_firstNotSo_23 : Nat → Mem → Int32 → Int32 × Mem
  | 0, M_10, v_9 => (0, M_10)
  | n + 1, M_10, v_9 =>
    ((-4), M_10)
def lp_X6_firstNotSo_23' : Nat → Nat → Nat → Mem → Int32 → Int32 × Mem
  | 0, a2, b_8, M_26, v_25 => (0, M_26)
  | n + 1, a2, b_8, M_26, v_25 =>
    if M_26 a2 3 ≤ v_25 then
    (((-4), M_26))
    else (bnd (f_X3_goOn M_26 15 1 1) fun M_30 =>
    if f_X5_tellsAt M_30 a2 v_25 = 0 then
    (bnd (v_25 + 1) fun y_36 =>
    lp_X6_firstNotSo_23' n a2 b_8 M_30 y_36)
    else (if M_30 (a2 + 16) v_25.toNatClampNeg = M_30 b_8 4 then
    (bnd (v_25 + 1) fun y_38 =>
    lp_X6_firstNotSo_23' n a2 b_8 M_30 y_38)
    else ((v_25, M_30))))
def f_X6_firstNotSo (M : Mem) (a1 : Int32) (a2 : Nat) : Int32 × Mem :=
bnd (f_X3_take M 15 13) fun M_3 =>
oel (f_X3_boatAt M_3 15 a1) (lp_X6_firstNotSo_23 1 M_3 0) fun b_8 =>
lp_X6_firstNotSo_23' ((M_3 a2 3).toInt.toNat + 1) a2 b_8 M_3 0
def f_X6_read (M : Mem) (a1 : Int32) (a2 : Int32) : Int32 × Mem :=
oel (f_X6_shelfAt M a2) (((-1), M)) fun b_5 =>
oel (f_X3_boatAt M 13 a1) (((-1), M)) fun b_10 =>
bnd (f_X5_rowRefusal M b_5) fun y_14 =>
bnd2 (if y_14 = 0 then
(bnd2 (f_X6_firstNotSo M a1 b_5) fun r_17 M_19 =>
(r_17, M_19))
else ((y_14, M))) fun (t_20 : Int32) (M_21 : Mem) =>
(t_20, M_21)
def f_X2_take (M : Mem) (o : Nat) (a1 : Nat) : Mem :=
bnd (up2 M o 1 (mx 0 (mn (M a1 1) 100))) fun M_1 =>
bnd (cpM M_1 (a1 + 6) (o + 6) 0 0 (M_1 o 1)) fun M_2 =>
M_2
def f_X0_take (M : Mem) (o : Nat) (a1 : Nat) : Mem :=
bnd (up2 M o 0 (M a1 0)) fun M_1 =>
bnd (up2 M_1 o 1 (M_1 a1 1)) fun M_2 =>
bnd (up2 M_2 o 2 (M_2 a1 2)) fun M_3 =>
bnd (up2 M_3 o 3 (M_3 a1 3)) fun M_4 =>
bnd (up2 M_4 o 4 (M_4 a1 4)) fun M_5 =>
bnd (f_X2_take M_5 (o + 3) (a1 + 3)) fun M_8 =>
bnd (f_J7_fill_53178 M_8 (o + 6) 100) fun M_11 =>
M_11
def f_X0_setting (M : Mem) (o : Nat) (a1 : Int32) : Int32 :=
if a1 = 0 then
(M o 0)
else (if a1 = 1 then
(M o 1)
else (if a1 = 2 then
(M o 2)
else (if a1 = 3 then
(M o 3)
else (M o 4))))
def f_X0_change (M : Mem) (o : Nat) (a1 : Int32) (a2 : Int32) : Int32 × Mem :=
bnd (f_X0_setting M o a1) fun y_4 =>
bnd (if a1 = 0 then
(bnd (up2 M o 0 a2) fun M_7 =>
M_7)
else (if a1 = 1 then
(bnd (up2 M o 1 a2) fun M_9 =>
M_9)
else (if a1 = 2 then
(bnd (up2 M o 2 a2) fun M_11 =>
M_11)
else (if a1 = 3 then
(bnd (up2 M o 3 a2) fun M_13 =>
M_13)
else (bnd (up2 M o 4 a2) fun M_14 =>
bnd (f_J7_fill_53178 M_14 (o + 6) 100) fun M_17 =>
M_17))))) fun (M_18 : Mem) =>
(y_4, M_18)
def f_X1_gain (M : Mem) (o : Nat) (a1 : Int32) (a2 : Int32) : Mem :=
bnd (up2 M o 4 (mx (M o 4) (mn a2 ((M o 4) + a1)))) fun M_1 =>
M_1
def f_X6_firstWinsWith (M : Mem) (a1 : Int32) : Int32 × Mem :=
bnd (f_X3_take M 15 13) fun M_3 =>
oel (f_X3_boatAt M_3 15 0) (oel (f_X3_boatAt M_3 15 1) ((0, M_3)) fun b_13 =>
(0, M_3)) fun b_8 =>
oel (f_X3_boatAt M_3 15 1) ((0, M_3)) fun b_18 =>
bnd (f_X1_gain M_3 b_8 a1 (M_3 3 0)) fun M_21 =>
bnd (f_X3_goOn M_21 15 3 400) fun M_24 =>
(f_X1_isAheadOf M_24 b_8 b_18, M_24)
def lp_X6_worth_53 : Nat → Int32 → Int32 → Mem → Int32 → Int32 → Int32 × Mem
  | 0, a1, a2, M_27, v_25, v_26 => (v_25, M_27)
  | n + 1, a1, a2, M_27, v_25, v_26 =>
    if a2 ≤ v_26 then
    ((v_25, M_27))
    else (bnd2 (f_X0_change M_27 3 4 v_26) fun r_30 M_32 =>
    bnd2 (f_X6_firstWinsWith M_32 a1) fun r_33 M_35 =>
    bnd (if r_33 = 0 then
    (v_25)
    else (bnd (v_25 + 1) fun y_38 =>
    y_38)) fun (x_39 : Int32) =>
    bnd (v_26 + 1) fun y_40 =>
    lp_X6_worth_53 n a1 a2 M_35 x_39 y_40)
def f_X6_worth (M : Mem) (a1 : Int32) (a2 : Int32) : Int32 × Mem :=
if a1 < 0 then
(((-1), M))
else (if 100 < a1 then
(((-1), M))
else (if a2 < 1 then
(((-1), M))
else (if a2 ≤ 20 then
(if 2 ≤ M 13 1 then
(bnd (f_X0_take M 3 1) fun M_8 =>
bnd2 (lp_X6_worth_53 ((a2.toInt - 0).toNat + 1) a1 a2 M_8 0 0) fun w_41 M_42 =>
(w_41, M_42))
else (((-3), M)))
else (((-1), M)))))
def f_X6_pairs (M : Mem) : Int32 × Mem :=
if M 13 1 = 4 then
(bnd (f_X6_endInMind M) fun M_4 =>
oel (f_X3_boatAt M_4 15 0) (oel (f_X3_boatAt M_4 15 1) (((f_X3_placeOf M_4 15 none) + (f_X3_placeOf M_4 15 none), M_4)) fun b_17 =>
((f_X3_placeOf M_4 15 none) + (f_X3_placeOf M_4 15 (some b_17)), M_4)) fun b_9 =>
oel (f_X3_boatAt M_4 15 1) (((f_X3_placeOf M_4 15 (some b_9)) + (f_X3_placeOf M_4 15 none), M_4)) fun b_31 =>
((f_X3_placeOf M_4 15 (some b_9)) + (f_X3_placeOf M_4 15 (some b_31)), M_4))
else (((-3), M))
def f_X6_image (M : Mem) : Int32 × Mem :=
bnd (f_X0_take M 2 1) fun M_3 =>
bnd (f_X3_take M_3 14 13) fun M_6 =>
bnd (up2 M_6 0 4 1) fun M_7 =>
(M_7 13 2, M_7)
def f_X6_restore (M : Mem) : Int32 × Mem :=
if ¬ b01 (M 0 4) = 0 then
(bnd (f_X0_take M 1 2) fun M_4 =>
bnd (f_X3_take M_4 13 14) fun M_7 =>
(M_7 13 2, M_7))
else (((-3), M))
def lp_X3_allTurns_4 : Nat → Mem → Nat → Int32 → Int32 → Int32
  | 0, M, o, v_9, v_10 => v_9
  | n + 1, M, o, v_9, v_10 =>
    if M o 1 ≤ v_10 then
    (v_9)
    else (if 4 ≤ v_10 then
    (v_9)
    else (bnd (v_9 + (M (4 * (o + 3) - 45 + v_10.toNatClampNeg) 8)) fun y_15 =>
    bnd (v_10 + 1) fun y_16 =>
    lp_X3_allTurns_4 n M o y_15 y_16))
def f_X3_allTurns (M : Mem) (o : Nat) : Int32 :=
bnd (lp_X3_allTurns_4 5 M o 0 0) fun w_17 =>
w_17
def lp_X3_howManyInBadAir_8 : Nat → Nat → Mem → Int32 → Int32 → Int32
  | 0, o, M_3, v_15, v_16 => v_15
  | n + 1, o, M_3, v_15, v_16 =>
    if M_3 o 1 ≤ v_16 then
    (v_15)
    else (if 4 ≤ v_16 then
    (v_15)
    else (bnd (if b01 (M_3 (4 * (o + 3) - 45 + v_16.toNatClampNeg) 9) = 0 then
    (0)
    else (1)) fun (t_23 : Int32) =>
    bnd (v_15 + t_23) fun y_24 =>
    bnd (v_16 + 1) fun y_25 =>
    lp_X3_howManyInBadAir_8 n o M_3 y_24 y_25))
def f_X3_howManyInBadAir (M : Mem) (o : Nat) : Int32 × Mem :=
bnd (f_X3_tellBadAir M o) fun M_3 =>
bnd (lp_X3_howManyInBadAir_8 5 o M_3 0 0) fun w_26 =>
(w_26, M_3)
def f_X6_count (M : Mem) (a1 : Int32) : Int32 × Mem :=
if a1 = 0 then
((M 13 1, M))
else (if a1 = 1 then
((M 13 2, M))
else (if a1 = 2 then
((f_X3_howManyIn M 13, M))
else (if a1 = 3 then
((f_X3_allTurns M 13, M))
else (if a1 = 4 then
(bnd2 (f_X3_howManyInBadAir M 13) fun r_12 M_14 =>
(r_12, M_14))
else (if a1 = 5 then
((M 1 0, M))
else (((-1), M)))))))
def f_X5_holdSailor (M : Mem) (o : Nat) (a1 : Nat) : Mem :=
bnd (up2 M o 0 1) fun M_1 =>
bnd (f_X4_become M_1 (o + 8) (M_1 a1 0) (M_1 a1 1) (M_1 a1 2)) fun M_4 =>
M_4
def f_X6_keep (M : Mem) (a1 : Int32) (a2 : Int32) (a3 : Int32) : Int32 × Mem :=
oel (f_X6_shelfAt M a1) (((-1), M)) fun b_5 =>
if a2 < 0 then
(((-1), M))
else (if a2 ≤ 1 then
(if ¬ a2 = 0 then
(oel (f_X3_boatAt M 13 a3) (((-1), M)) fun b_13 =>
bnd (f_X5_holdSailor M b_5 (b_13 + 12)) fun M_16 =>
(0, M_16))
else (bnd (up2 M b_5 0 0) fun M_17 =>
(0, M_17)))
else (((-1), M)))
def f_X5_holdRow (M : Mem) (o : Nat) (a1 : Int32) (a2 : Int32) : Mem :=
bnd (up2 M o 0 2) fun M_1 =>
bnd (up2 M_1 o 2 a1) fun M_2 =>
bnd (up2 M_2 o 3 a2) fun M_3 =>
bnd (f_J7_fill_53178 M_3 (o + 16) 0) fun M_6 =>
M_6
def f_X6_row (M : Mem) (a1 : Int32) (a2 : Int32) (a3 : Int32) : Int32 × Mem :=
oel (f_X6_shelfAt M a1) (((-1), M)) fun b_5 =>
if a2 < 0 then
(((-1), M))
else (if 2 < a2 then
(((-1), M))
else (if a3 ≤ 100 then
(if 0 ≤ a3 then
(bnd (f_X5_holdRow M b_5 a2 a3) fun M_12 =>
(0, M_12))
else (((-14), M)))
else (((-1), M))))
def f_X5_narrowed (M : Mem) (o : Nat) (a1 : Int32) : Int32 :=
if M o 2 = 0 then
(a1.toInt8.toInt32)
else (if M o 2 = 1 then
(a1.toInt16.toInt32)
else (a1))
def f_X6_put (M : Mem) (a1 : Int32) (a2 : Int32) (a3 : Int32) : Int32 × Mem :=
oel (f_X6_shelfAt M a1) (((-1), M)) fun b_5 =>
bnd (f_X5_rowRefusal M b_5) fun y_9 =>
if y_9 = 0 then
(if ¬ f_X5_hasPlace M b_5 a2 = 0 then
(bnd (up2 M (b_5 + 16) a2.toNatClampNeg (f_X5_narrowed M b_5 a3)) fun M_19 =>
(0, M_19))
else (((-13), M)))
else ((y_9, M))
def f_X5_hasStretch (M : Mem) (o : Nat) (a1 : Int32) (a2 : Int32) : Int32 :=
bnd (if a1 < 0 then
(0)
else (if M o 3 < a1 then
(0)
else (if a2 < 0 then
(0)
else (if (M o 3) - a1 < a2 then
(0)
else (1))))) fun (t_6 : Int32) =>
t_6
def f_X6_copy (M : Mem) (a1 : Int32) (a2 : Int32) (a3 : Int32) (a4 : Int32) (a5 : Int32) : Int32 × Mem :=
oel (f_X6_shelfAt M a1) (oel (f_X6_shelfAt M a3) (((-1), M)) fun b_10 =>
((-1), M)) fun b_5 =>
oel (f_X6_shelfAt M a3) (((-1), M)) fun b_15 =>
if M b_5 0 = 0 then
(((-11), M))
else (if ¬ M b_15 0 = 0 then
(if ¬ M b_5 0 = 2 then
(((-12), M))
else (if ¬ M b_15 0 = 2 then
(((-12), M))
else (if M b_5 2 = M b_15 2 then
(if f_X5_hasStretch M b_5 a2 a5 = 0 then
(((-13), M))
else (if ¬ f_X5_hasStretch M b_15 a4 a5 = 0 then
(bnd (cpM M (b_5 + 16) (b_15 + 16) a2 a4 a5) fun M_31 =>
(a5, M_31))
else (((-13), M))))
else (((-12), M)))))
else (((-11), M)))
def f_X5_sailorRefusal (M : Mem) (o : Nat) : Int32 :=
if ¬ M o 0 = 0 then
(bnd (if ¬ M o 0 = 1 then
((-12))
else (0)) fun (t_4 : Int32) =>
t_4)
else ((-11))
def f_X4_skilled (M : Mem) (o : Nat) : Int32 :=
if M o 0 = 1 then
(10 + (M o 1))
else (if M o 0 = 2 then
(13)
else (if M o 0 = 3 then
(26)
else (if M o 0 = 4 then
(10 - (M o 1))
else (if M o 0 = 5 then
(15)
else (if M o 0 = 6 then
(15 + (M o 1))
else (if M o 0 = 7 then
((10 + (M o 1)) / 2)
else (10)))))))
def f_X6_skill (M : Mem) (a1 : Int32) : Int32 :=
oel (f_X6_shelfAt M a1) ((-1000000001)) fun b_5 =>
bnd (f_X5_sailorRefusal M b_5) fun y_9 =>
bnd (if y_9 = 0 then
((f_X4_skilled M (b_5 + 8)))
else (((-1000000000) + y_9))) fun (t_15 : Int32) =>
t_15
def lp_X3_reaches_2 : Nat → Mem → Nat → Int32 → Int32 → Int32
  | 0, M, o, a1, v_7 => 0
  | n + 1, M, o, a1, v_7 =>
    if M o 1 ≤ v_7 then
    (0)
    else (if 4 ≤ v_7 then
    (0)
    else (if M (4 * (o + 3) - 45 + v_7.toNatClampNeg) 4 < a1 then
    (bnd (v_7 + 1) fun y_12 =>
    lp_X3_reaches_2 n M o a1 y_12)
    else (1)))
def f_X3_reaches (M : Mem) (o : Nat) (a1 : Int32) : Int32 :=
lp_X3_reaches_2 5 M o a1 0
def f_X4_hasFailure (M : Mem) (o : Nat) : Int32 :=
bnd (if M o 0 = 4 then
(0)
else (if M o 1 ≤ 0 then
(0)
else (1))) fun (t_4 : Int32) =>
t_4
def f_X4_failureNumber (M : Mem) (o : Nat) : Int32 :=
if M o 0 = 3 then
(100 + (M o 2))
else (if M o 0 = 6 then
(200 + (f_X4_skilled M o))
else (M o 2))
