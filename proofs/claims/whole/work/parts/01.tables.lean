-- ===== PART A: goes FIRST, ahead of the names: the tables' words, and 'selects' of the private methods out of them =====
/-- a private method of a class that the tables say can be made, by its rows of tables_1 -/
def lw_okq (q : MethodName × Nat) : Prop := (q.1.cls ≠ "java/lang/invoke/MethodHandle" ∧ q.1.cls ≠ "java/lang/invoke/VarHandle") ∧ Cond.instantiable q.1.cls q.2 ∈ tables_1 ∧ Cond.privateMethod q.1 ∈ tables_1 ∧ Cond.instanceMethod q.1 ∈ tables_1
theorem lw_p0 : lw_okq (⟨"ShakePictures", "isBlock", "(I)Z"⟩, 9) := ⟨⟨by decide +kernel, by decide +kernel⟩, List.mem_of_getElem? (i := 22) (by decide +kernel), List.mem_of_getElem? (i := 473) (by decide +kernel), List.mem_of_getElem? (i := 474) (by decide +kernel)⟩
theorem lw_p1 : lw_okq (⟨"ShakePictures", "isCell", "(I)Z"⟩, 9) := ⟨⟨by decide +kernel, by decide +kernel⟩, List.mem_of_getElem? (i := 22) (by decide +kernel), List.mem_of_getElem? (i := 516) (by decide +kernel), List.mem_of_getElem? (i := 517) (by decide +kernel)⟩
theorem lw_p2 : lw_okq (⟨"ShakePictures$Ground", "pull", "(I)Z"⟩, 9) := ⟨⟨by decide +kernel, by decide +kernel⟩, List.mem_of_getElem? (i := 30) (by decide +kernel), List.mem_of_getElem? (i := 536) (by decide +kernel), List.mem_of_getElem? (i := 537) (by decide +kernel)⟩
theorem lw_p3 : lw_okq (⟨"ShakePictures$Ground", "nextOnWay", "(I)I"⟩, 9) := ⟨⟨by decide +kernel, by decide +kernel⟩, List.mem_of_getElem? (i := 30) (by decide +kernel), List.mem_of_getElem? (i := 548) (by decide +kernel), List.mem_of_getElem? (i := 549) (by decide +kernel)⟩
theorem lw_p4 : lw_okq (⟨"ShakePictures", "isEar", "(I)Z"⟩, 9) := ⟨⟨by decide +kernel, by decide +kernel⟩, List.mem_of_getElem? (i := 22) (by decide +kernel), List.mem_of_getElem? (i := 564) (by decide +kernel), List.mem_of_getElem? (i := 565) (by decide +kernel)⟩
theorem lw_p5 : lw_okq (⟨"ShakePictures", "isShake", "(I)Z"⟩, 9) := ⟨⟨by decide +kernel, by decide +kernel⟩, List.mem_of_getElem? (i := 22) (by decide +kernel), List.mem_of_getElem? (i := 584) (by decide +kernel), List.mem_of_getElem? (i := 585) (by decide +kernel)⟩
theorem lw_p6 : lw_okq (⟨"ShakePictures", "isPick", "(I)Z"⟩, 9) := ⟨⟨by decide +kernel, by decide +kernel⟩, List.mem_of_getElem? (i := 22) (by decide +kernel), List.mem_of_getElem? (i := 608) (by decide +kernel), List.mem_of_getElem? (i := 609) (by decide +kernel)⟩
theorem lw_p7 : lw_okq (⟨"ShakePictures$Fitter", "improve", "(I)I"⟩, 9) := ⟨⟨by decide +kernel, by decide +kernel⟩, List.mem_of_getElem? (i := 200) (by decide +kernel), List.mem_of_getElem? (i := 685) (by decide +kernel), List.mem_of_getElem? (i := 686) (by decide +kernel)⟩
theorem lw_p8 : lw_okq (⟨"ShakePictures$Fitter", "gatherMembers", "(II)V"⟩, 9) := ⟨⟨by decide +kernel, by decide +kernel⟩, List.mem_of_getElem? (i := 200) (by decide +kernel), List.mem_of_getElem? (i := 690) (by decide +kernel), List.mem_of_getElem? (i := 691) (by decide +kernel)⟩
theorem lw_p9 : lw_okq (⟨"ShakePictures$Fitter", "tabulate", "(III)V"⟩, 9) := ⟨⟨by decide +kernel, by decide +kernel⟩, List.mem_of_getElem? (i := 200) (by decide +kernel), List.mem_of_getElem? (i := 694) (by decide +kernel), List.mem_of_getElem? (i := 695) (by decide +kernel)⟩
theorem lw_p10 : lw_okq (⟨"ShakePictures$Fitter", "measure", "(IIII)V"⟩, 9) := ⟨⟨by decide +kernel, by decide +kernel⟩, List.mem_of_getElem? (i := 200) (by decide +kernel), List.mem_of_getElem? (i := 698) (by decide +kernel), List.mem_of_getElem? (i := 699) (by decide +kernel)⟩
theorem lw_p11 : lw_okq (⟨"ShakePictures$Fitter", "isStraight", "(IIII)Z"⟩, 9) := ⟨⟨by decide +kernel, by decide +kernel⟩, List.mem_of_getElem? (i := 200) (by decide +kernel), List.mem_of_getElem? (i := 702) (by decide +kernel), List.mem_of_getElem? (i := 703) (by decide +kernel)⟩
theorem lw_p12 : lw_okq (⟨"ShakePictures$Fitter", "fillLine", "(III)V"⟩, 9) := ⟨⟨by decide +kernel, by decide +kernel⟩, List.mem_of_getElem? (i := 200) (by decide +kernel), List.mem_of_getElem? (i := 707) (by decide +kernel), List.mem_of_getElem? (i := 708) (by decide +kernel)⟩
theorem lw_p13 : lw_okq (⟨"ShakePictures$Fitter", "addMisfits", "(I)V"⟩, 9) := ⟨⟨by decide +kernel, by decide +kernel⟩, List.mem_of_getElem? (i := 200) (by decide +kernel), List.mem_of_getElem? (i := 711) (by decide +kernel), List.mem_of_getElem? (i := 712) (by decide +kernel)⟩
theorem lw_p14 : lw_okq (⟨"ShakePictures$Press", "narrow", "(I)Z"⟩, 7) := ⟨⟨by decide +kernel, by decide +kernel⟩, List.mem_of_getElem? (i := 235) (by decide +kernel), List.mem_of_getElem? (i := 749) (by decide +kernel), List.mem_of_getElem? (i := 750) (by decide +kernel)⟩
theorem lw_p15 : lw_okq (⟨"ShakePictures$Basis", "firstColumn", "()I"⟩, 4) := ⟨⟨by decide +kernel, by decide +kernel⟩, List.mem_of_getElem? (i := 271) (by decide +kernel), List.mem_of_getElem? (i := 797) (by decide +kernel), List.mem_of_getElem? (i := 798) (by decide +kernel)⟩
def lw_privs_1 : List (MethodName × Nat) := [(⟨"ShakePictures", "isBlock", "(I)Z"⟩, 9), (⟨"ShakePictures", "isCell", "(I)Z"⟩, 9), (⟨"ShakePictures$Ground", "pull", "(I)Z"⟩, 9), (⟨"ShakePictures$Ground", "nextOnWay", "(I)I"⟩, 9), (⟨"ShakePictures", "isEar", "(I)Z"⟩, 9), (⟨"ShakePictures", "isShake", "(I)Z"⟩, 9), (⟨"ShakePictures", "isPick", "(I)Z"⟩, 9), (⟨"ShakePictures$Fitter", "improve", "(I)I"⟩, 9), (⟨"ShakePictures$Fitter", "gatherMembers", "(II)V"⟩, 9), (⟨"ShakePictures$Fitter", "tabulate", "(III)V"⟩, 9), (⟨"ShakePictures$Fitter", "measure", "(IIII)V"⟩, 9), (⟨"ShakePictures$Fitter", "isStraight", "(IIII)Z"⟩, 9), (⟨"ShakePictures$Fitter", "fillLine", "(III)V"⟩, 9), (⟨"ShakePictures$Fitter", "addMisfits", "(I)V"⟩, 9), (⟨"ShakePictures$Press", "narrow", "(I)Z"⟩, 7), (⟨"ShakePictures$Basis", "firstColumn", "()I"⟩, 4)]
theorem lw_r1 : ∀ q ∈ lw_privs_1, lw_okq q := List.forall_mem_cons.mpr ⟨lw_p0, List.forall_mem_cons.mpr ⟨lw_p1, List.forall_mem_cons.mpr ⟨lw_p2, List.forall_mem_cons.mpr ⟨lw_p3, List.forall_mem_cons.mpr ⟨lw_p4, List.forall_mem_cons.mpr ⟨lw_p5, List.forall_mem_cons.mpr ⟨lw_p6, List.forall_mem_cons.mpr ⟨lw_p7, List.forall_mem_cons.mpr ⟨lw_p8, List.forall_mem_cons.mpr ⟨lw_p9, List.forall_mem_cons.mpr ⟨lw_p10, List.forall_mem_cons.mpr ⟨lw_p11, List.forall_mem_cons.mpr ⟨lw_p12, List.forall_mem_cons.mpr ⟨lw_p13, List.forall_mem_cons.mpr ⟨lw_p14, List.forall_mem_cons.mpr ⟨lw_p15, fun _ h => absurd h List.not_mem_nil⟩⟩⟩⟩⟩⟩⟩⟩⟩⟩⟩⟩⟩⟩⟩⟩
theorem lw_p16 : lw_okq (⟨"ShakePictures$Resolver", "resolvedWith", "(I)I"⟩, 8) := ⟨⟨by decide +kernel, by decide +kernel⟩, List.mem_of_getElem? (i := 265) (by decide +kernel), List.mem_of_getElem? (i := 824) (by decide +kernel), List.mem_of_getElem? (i := 825) (by decide +kernel)⟩
theorem lw_p17 : lw_okq (⟨"ShakePictures$Finder", "gatherBegun", "(II)V"⟩, 7) := ⟨⟨by decide +kernel, by decide +kernel⟩, List.mem_of_getElem? (i := 323) (by decide +kernel), List.mem_of_getElem? (i := 848) (by decide +kernel), List.mem_of_getElem? (i := 849) (by decide +kernel)⟩
theorem lw_p18 : lw_okq (⟨"ShakePictures$Finder", "addSpan", "(II)V"⟩, 7) := ⟨⟨by decide +kernel, by decide +kernel⟩, List.mem_of_getElem? (i := 323) (by decide +kernel), List.mem_of_getElem? (i := 855) (by decide +kernel), List.mem_of_getElem? (i := 856) (by decide +kernel)⟩
theorem lw_p19 : lw_okq (⟨"ShakePictures$Finder", "countFitting", "(I)I"⟩, 7) := ⟨⟨by decide +kernel, by decide +kernel⟩, List.mem_of_getElem? (i := 323) (by decide +kernel), List.mem_of_getElem? (i := 861) (by decide +kernel), List.mem_of_getElem? (i := 862) (by decide +kernel)⟩
theorem lw_p20 : lw_okq (⟨"ShakePictures$Script", "advance", "()V"⟩, 12) := ⟨⟨by decide +kernel, by decide +kernel⟩, List.mem_of_getElem? (i := 353) (by decide +kernel), List.mem_of_getElem? (i := 940) (by decide +kernel), List.mem_of_getElem? (i := 941) (by decide +kernel)⟩
theorem lw_p21 : lw_okq (⟨"ShakePictures$Script", "sortAt", "(I)I"⟩, 12) := ⟨⟨by decide +kernel, by decide +kernel⟩, List.mem_of_getElem? (i := 353) (by decide +kernel), List.mem_of_getElem? (i := 944) (by decide +kernel), List.mem_of_getElem? (i := 945) (by decide +kernel)⟩
theorem lw_p22 : lw_okq (⟨"ShakePictures$Script", "numberHere", "()I"⟩, 12) := ⟨⟨by decide +kernel, by decide +kernel⟩, List.mem_of_getElem? (i := 353) (by decide +kernel), List.mem_of_getElem? (i := 948) (by decide +kernel), List.mem_of_getElem? (i := 949) (by decide +kernel)⟩
theorem lw_p23 : lw_okq (⟨"ShakePictures$Script", "readStatement", "()Z"⟩, 12) := ⟨⟨by decide +kernel, by decide +kernel⟩, List.mem_of_getElem? (i := 353) (by decide +kernel), List.mem_of_getElem? (i := 952) (by decide +kernel), List.mem_of_getElem? (i := 953) (by decide +kernel)⟩
theorem lw_p24 : lw_okq (⟨"ShakePictures$Script", "verbHere", "()I"⟩, 12) := ⟨⟨by decide +kernel, by decide +kernel⟩, List.mem_of_getElem? (i := 353) (by decide +kernel), List.mem_of_getElem? (i := 956) (by decide +kernel), List.mem_of_getElem? (i := 957) (by decide +kernel)⟩
theorem lw_p25 : lw_okq (⟨"ShakePictures$Script", "isWord", "(Ljava/lang/String;)Z"⟩, 12) := ⟨⟨by decide +kernel, by decide +kernel⟩, List.mem_of_getElem? (i := 353) (by decide +kernel), List.mem_of_getElem? (i := 968) (by decide +kernel), List.mem_of_getElem? (i := 969) (by decide +kernel)⟩
theorem lw_p26 : lw_okq (⟨"ShakePictures$Script", "readFirst", "(II)Z"⟩, 12) := ⟨⟨by decide +kernel, by decide +kernel⟩, List.mem_of_getElem? (i := 353) (by decide +kernel), List.mem_of_getElem? (i := 1020) (by decide +kernel), List.mem_of_getElem? (i := 1021) (by decide +kernel)⟩
theorem lw_p27 : lw_okq (⟨"ShakePictures$Script", "passNumber", "(II)Z"⟩, 12) := ⟨⟨by decide +kernel, by decide +kernel⟩, List.mem_of_getElem? (i := 353) (by decide +kernel), List.mem_of_getElem? (i := 1024) (by decide +kernel), List.mem_of_getElem? (i := 1025) (by decide +kernel)⟩
theorem lw_p28 : lw_okq (⟨"ShakePictures$Script", "readSecond", "(II)Z"⟩, 12) := ⟨⟨by decide +kernel, by decide +kernel⟩, List.mem_of_getElem? (i := 353) (by decide +kernel), List.mem_of_getElem? (i := 1028) (by decide +kernel), List.mem_of_getElem? (i := 1029) (by decide +kernel)⟩
theorem lw_p29 : lw_okq (⟨"ShakePictures$Script", "readCells", "()Z"⟩, 12) := ⟨⟨by decide +kernel, by decide +kernel⟩, List.mem_of_getElem? (i := 353) (by decide +kernel), List.mem_of_getElem? (i := 1032) (by decide +kernel), List.mem_of_getElem? (i := 1033) (by decide +kernel)⟩
theorem lw_p30 : lw_okq (⟨"ShakePictures", "obey", "(III)Z"⟩, 9) := ⟨⟨by decide +kernel, by decide +kernel⟩, List.mem_of_getElem? (i := 22) (by decide +kernel), List.mem_of_getElem? (i := 1043) (by decide +kernel), List.mem_of_getElem? (i := 1044) (by decide +kernel)⟩
theorem lw_p31 : lw_okq (⟨"ShakePicturesModel", "cells", "()I"⟩, 51) := ⟨⟨by decide +kernel, by decide +kernel⟩, List.mem_of_getElem? (i := 1052) (by decide +kernel), List.mem_of_getElem? (i := 1219) (by decide +kernel), List.mem_of_getElem? (i := 1220) (by decide +kernel)⟩
def lw_privs_2 : List (MethodName × Nat) := [(⟨"ShakePictures$Resolver", "resolvedWith", "(I)I"⟩, 8), (⟨"ShakePictures$Finder", "gatherBegun", "(II)V"⟩, 7), (⟨"ShakePictures$Finder", "addSpan", "(II)V"⟩, 7), (⟨"ShakePictures$Finder", "countFitting", "(I)I"⟩, 7), (⟨"ShakePictures$Script", "advance", "()V"⟩, 12), (⟨"ShakePictures$Script", "sortAt", "(I)I"⟩, 12), (⟨"ShakePictures$Script", "numberHere", "()I"⟩, 12), (⟨"ShakePictures$Script", "readStatement", "()Z"⟩, 12), (⟨"ShakePictures$Script", "verbHere", "()I"⟩, 12), (⟨"ShakePictures$Script", "isWord", "(Ljava/lang/String;)Z"⟩, 12), (⟨"ShakePictures$Script", "readFirst", "(II)Z"⟩, 12), (⟨"ShakePictures$Script", "passNumber", "(II)Z"⟩, 12), (⟨"ShakePictures$Script", "readSecond", "(II)Z"⟩, 12), (⟨"ShakePictures$Script", "readCells", "()Z"⟩, 12), (⟨"ShakePictures", "obey", "(III)Z"⟩, 9), (⟨"ShakePicturesModel", "cells", "()I"⟩, 51)]
theorem lw_r2 : ∀ q ∈ lw_privs_2, lw_okq q := List.forall_mem_cons.mpr ⟨lw_p16, List.forall_mem_cons.mpr ⟨lw_p17, List.forall_mem_cons.mpr ⟨lw_p18, List.forall_mem_cons.mpr ⟨lw_p19, List.forall_mem_cons.mpr ⟨lw_p20, List.forall_mem_cons.mpr ⟨lw_p21, List.forall_mem_cons.mpr ⟨lw_p22, List.forall_mem_cons.mpr ⟨lw_p23, List.forall_mem_cons.mpr ⟨lw_p24, List.forall_mem_cons.mpr ⟨lw_p25, List.forall_mem_cons.mpr ⟨lw_p26, List.forall_mem_cons.mpr ⟨lw_p27, List.forall_mem_cons.mpr ⟨lw_p28, List.forall_mem_cons.mpr ⟨lw_p29, List.forall_mem_cons.mpr ⟨lw_p30, List.forall_mem_cons.mpr ⟨lw_p31, fun _ h => absurd h List.not_mem_nil⟩⟩⟩⟩⟩⟩⟩⟩⟩⟩⟩⟩⟩⟩⟩⟩
theorem lw_p32 : lw_okq (⟨"ShakePicturesModel", "sizeOf", "(I)I"⟩, 51) := ⟨⟨by decide +kernel, by decide +kernel⟩, List.mem_of_getElem? (i := 1052) (by decide +kernel), List.mem_of_getElem? (i := 1238) (by decide +kernel), List.mem_of_getElem? (i := 1239) (by decide +kernel)⟩
theorem lw_p33 : lw_okq (⟨"ShakePicturesModel", "isCell", "(I)Z"⟩, 51) := ⟨⟨by decide +kernel, by decide +kernel⟩, List.mem_of_getElem? (i := 1052) (by decide +kernel), List.mem_of_getElem? (i := 1250) (by decide +kernel), List.mem_of_getElem? (i := 1251) (by decide +kernel)⟩
theorem lw_p34 : lw_okq (⟨"ShakePicturesModel", "findTimes", "(II)V"⟩, 51) := ⟨⟨by decide +kernel, by decide +kernel⟩, List.mem_of_getElem? (i := 1052) (by decide +kernel), List.mem_of_getElem? (i := 1261) (by decide +kernel), List.mem_of_getElem? (i := 1262) (by decide +kernel)⟩
theorem lw_p35 : lw_okq (⟨"ShakePicturesModel", "slowAt", "(II)I"⟩, 51) := ⟨⟨by decide +kernel, by decide +kernel⟩, List.mem_of_getElem? (i := 1052) (by decide +kernel), List.mem_of_getElem? (i := 1266) (by decide +kernel), List.mem_of_getElem? (i := 1267) (by decide +kernel)⟩
theorem lw_p36 : lw_okq (⟨"ShakePicturesModel", "nextOf", "(II)I"⟩, 51) := ⟨⟨by decide +kernel, by decide +kernel⟩, List.mem_of_getElem? (i := 1052) (by decide +kernel), List.mem_of_getElem? (i := 1274) (by decide +kernel), List.mem_of_getElem? (i := 1275) (by decide +kernel)⟩
theorem lw_p37 : lw_okq (⟨"ShakePicturesModel", "areBeside", "(II)Z"⟩, 51) := ⟨⟨by decide +kernel, by decide +kernel⟩, List.mem_of_getElem? (i := 1052) (by decide +kernel), List.mem_of_getElem? (i := 1278) (by decide +kernel), List.mem_of_getElem? (i := 1279) (by decide +kernel)⟩
theorem lw_p38 : lw_okq (⟨"ShakePicturesModel", "isEar", "(I)Z"⟩, 51) := ⟨⟨by decide +kernel, by decide +kernel⟩, List.mem_of_getElem? (i := 1052) (by decide +kernel), List.mem_of_getElem? (i := 1290) (by decide +kernel), List.mem_of_getElem? (i := 1291) (by decide +kernel)⟩
theorem lw_p39 : lw_okq (⟨"ShakePicturesModel", "isShake", "(I)Z"⟩, 51) := ⟨⟨by decide +kernel, by decide +kernel⟩, List.mem_of_getElem? (i := 1052) (by decide +kernel), List.mem_of_getElem? (i := 1302) (by decide +kernel), List.mem_of_getElem? (i := 1303) (by decide +kernel)⟩
theorem lw_p40 : lw_okq (⟨"ShakePicturesModel", "addTelling", "(III)V"⟩, 51) := ⟨⟨by decide +kernel, by decide +kernel⟩, List.mem_of_getElem? (i := 1052) (by decide +kernel), List.mem_of_getElem? (i := 1313) (by decide +kernel), List.mem_of_getElem? (i := 1314) (by decide +kernel)⟩
theorem lw_p41 : lw_okq (⟨"ShakePicturesModel", "isPick", "(I)Z"⟩, 51) := ⟨⟨by decide +kernel, by decide +kernel⟩, List.mem_of_getElem? (i := 1052) (by decide +kernel), List.mem_of_getElem? (i := 1321) (by decide +kernel), List.mem_of_getElem? (i := 1322) (by decide +kernel)⟩
theorem lw_p42 : lw_okq (⟨"ShakePicturesModel", "findSpans", "(I)V"⟩, 51) := ⟨⟨by decide +kernel, by decide +kernel⟩, List.mem_of_getElem? (i := 1052) (by decide +kernel), List.mem_of_getElem? (i := 1333) (by decide +kernel), List.mem_of_getElem? (i := 1334) (by decide +kernel)⟩
theorem lw_p43 : lw_okq (⟨"ShakePicturesModel", "findShakeTimes", "()V"⟩, 51) := ⟨⟨by decide +kernel, by decide +kernel⟩, List.mem_of_getElem? (i := 1052) (by decide +kernel), List.mem_of_getElem? (i := 1337) (by decide +kernel), List.mem_of_getElem? (i := 1338) (by decide +kernel)⟩
theorem lw_p44 : lw_okq (⟨"ShakePicturesModel", "foretold", "(I)I"⟩, 51) := ⟨⟨by decide +kernel, by decide +kernel⟩, List.mem_of_getElem? (i := 1052) (by decide +kernel), List.mem_of_getElem? (i := 1341) (by decide +kernel), List.mem_of_getElem? (i := 1342) (by decide +kernel)⟩
theorem lw_p45 : lw_okq (⟨"ShakePicturesModel", "offOf", "(II)I"⟩, 51) := ⟨⟨by decide +kernel, by decide +kernel⟩, List.mem_of_getElem? (i := 1052) (by decide +kernel), List.mem_of_getElem? (i := 1345) (by decide +kernel), List.mem_of_getElem? (i := 1346) (by decide +kernel)⟩
theorem lw_p46 : lw_okq (⟨"ShakePicturesModel", "misfitNow", "()I"⟩, 51) := ⟨⟨by decide +kernel, by decide +kernel⟩, List.mem_of_getElem? (i := 1052) (by decide +kernel), List.mem_of_getElem? (i := 1353) (by decide +kernel), List.mem_of_getElem? (i := 1354) (by decide +kernel)⟩
theorem lw_p47 : lw_okq (⟨"ShakePicturesModel", "fitAll", "(I)V"⟩, 51) := ⟨⟨by decide +kernel, by decide +kernel⟩, List.mem_of_getElem? (i := 1052) (by decide +kernel), List.mem_of_getElem? (i := 1361) (by decide +kernel), List.mem_of_getElem? (i := 1362) (by decide +kernel)⟩
def lw_privs_3 : List (MethodName × Nat) := [(⟨"ShakePicturesModel", "sizeOf", "(I)I"⟩, 51), (⟨"ShakePicturesModel", "isCell", "(I)Z"⟩, 51), (⟨"ShakePicturesModel", "findTimes", "(II)V"⟩, 51), (⟨"ShakePicturesModel", "slowAt", "(II)I"⟩, 51), (⟨"ShakePicturesModel", "nextOf", "(II)I"⟩, 51), (⟨"ShakePicturesModel", "areBeside", "(II)Z"⟩, 51), (⟨"ShakePicturesModel", "isEar", "(I)Z"⟩, 51), (⟨"ShakePicturesModel", "isShake", "(I)Z"⟩, 51), (⟨"ShakePicturesModel", "addTelling", "(III)V"⟩, 51), (⟨"ShakePicturesModel", "isPick", "(I)Z"⟩, 51), (⟨"ShakePicturesModel", "findSpans", "(I)V"⟩, 51), (⟨"ShakePicturesModel", "findShakeTimes", "()V"⟩, 51), (⟨"ShakePicturesModel", "foretold", "(I)I"⟩, 51), (⟨"ShakePicturesModel", "offOf", "(II)I"⟩, 51), (⟨"ShakePicturesModel", "misfitNow", "()I"⟩, 51), (⟨"ShakePicturesModel", "fitAll", "(I)V"⟩, 51)]
theorem lw_r3 : ∀ q ∈ lw_privs_3, lw_okq q := List.forall_mem_cons.mpr ⟨lw_p32, List.forall_mem_cons.mpr ⟨lw_p33, List.forall_mem_cons.mpr ⟨lw_p34, List.forall_mem_cons.mpr ⟨lw_p35, List.forall_mem_cons.mpr ⟨lw_p36, List.forall_mem_cons.mpr ⟨lw_p37, List.forall_mem_cons.mpr ⟨lw_p38, List.forall_mem_cons.mpr ⟨lw_p39, List.forall_mem_cons.mpr ⟨lw_p40, List.forall_mem_cons.mpr ⟨lw_p41, List.forall_mem_cons.mpr ⟨lw_p42, List.forall_mem_cons.mpr ⟨lw_p43, List.forall_mem_cons.mpr ⟨lw_p44, List.forall_mem_cons.mpr ⟨lw_p45, List.forall_mem_cons.mpr ⟨lw_p46, List.forall_mem_cons.mpr ⟨lw_p47, fun _ h => absurd h List.not_mem_nil⟩⟩⟩⟩⟩⟩⟩⟩⟩⟩⟩⟩⟩⟩⟩⟩
theorem lw_p48 : lw_okq (⟨"ShakePicturesModel", "fitBlock", "(I)Z"⟩, 51) := ⟨⟨by decide +kernel, by decide +kernel⟩, List.mem_of_getElem? (i := 1052) (by decide +kernel), List.mem_of_getElem? (i := 1365) (by decide +kernel), List.mem_of_getElem? (i := 1366) (by decide +kernel)⟩
theorem lw_p49 : lw_okq (⟨"ShakePicturesModel", "findRays", "()V"⟩, 51) := ⟨⟨by decide +kernel, by decide +kernel⟩, List.mem_of_getElem? (i := 1052) (by decide +kernel), List.mem_of_getElem? (i := 1373) (by decide +kernel), List.mem_of_getElem? (i := 1374) (by decide +kernel)⟩
theorem lw_p50 : lw_okq (⟨"ShakePicturesModel", "layRays", "(III)V"⟩, 51) := ⟨⟨by decide +kernel, by decide +kernel⟩, List.mem_of_getElem? (i := 1052) (by decide +kernel), List.mem_of_getElem? (i := 1377) (by decide +kernel), List.mem_of_getElem? (i := 1378) (by decide +kernel)⟩
theorem lw_p51 : lw_okq (⟨"ShakePicturesModel", "press", "(I)Z"⟩, 51) := ⟨⟨by decide +kernel, by decide +kernel⟩, List.mem_of_getElem? (i := 1052) (by decide +kernel), List.mem_of_getElem? (i := 1381) (by decide +kernel), List.mem_of_getElem? (i := 1382) (by decide +kernel)⟩
theorem lw_p52 : lw_okq (⟨"ShakePicturesModel", "others", "(IIZ)I"⟩, 51) := ⟨⟨by decide +kernel, by decide +kernel⟩, List.mem_of_getElem? (i := 1052) (by decide +kernel), List.mem_of_getElem? (i := 1385) (by decide +kernel), List.mem_of_getElem? (i := 1386) (by decide +kernel)⟩
theorem lw_p53 : lw_okq (⟨"ShakePicturesModel", "layRows", "()I"⟩, 51) := ⟨⟨by decide +kernel, by decide +kernel⟩, List.mem_of_getElem? (i := 1052) (by decide +kernel), List.mem_of_getElem? (i := 1403) (by decide +kernel), List.mem_of_getElem? (i := 1404) (by decide +kernel)⟩
theorem lw_p54 : lw_okq (⟨"ShakePicturesModel", "rankOf", "(I)I"⟩, 51) := ⟨⟨by decide +kernel, by decide +kernel⟩, List.mem_of_getElem? (i := 1052) (by decide +kernel), List.mem_of_getElem? (i := 1407) (by decide +kernel), List.mem_of_getElem? (i := 1408) (by decide +kernel)⟩
theorem lw_p55 : lw_okq (⟨"ShakePicturesModel", "isResolved", "(I)Z"⟩, 51) := ⟨⟨by decide +kernel, by decide +kernel⟩, List.mem_of_getElem? (i := 1052) (by decide +kernel), List.mem_of_getElem? (i := 1421) (by decide +kernel), List.mem_of_getElem? (i := 1422) (by decide +kernel)⟩
theorem lw_p56 : lw_okq (⟨"ShakePicturesModel", "layAll", "()I"⟩, 51) := ⟨⟨by decide +kernel, by decide +kernel⟩, List.mem_of_getElem? (i := 1052) (by decide +kernel), List.mem_of_getElem? (i := 1425) (by decide +kernel), List.mem_of_getElem? (i := 1426) (by decide +kernel)⟩
theorem lw_p57 : lw_okq (⟨"ShakePicturesModel", "resolvedWith", "(I)I"⟩, 51) := ⟨⟨by decide +kernel, by decide +kernel⟩, List.mem_of_getElem? (i := 1052) (by decide +kernel), List.mem_of_getElem? (i := 1433) (by decide +kernel), List.mem_of_getElem? (i := 1434) (by decide +kernel)⟩
theorem lw_p58 : lw_okq (⟨"ShakePicturesModel", "findHeap", "(II)V"⟩, 51) := ⟨⟨by decide +kernel, by decide +kernel⟩, List.mem_of_getElem? (i := 1052) (by decide +kernel), List.mem_of_getElem? (i := 1441) (by decide +kernel), List.mem_of_getElem? (i := 1442) (by decide +kernel)⟩
theorem lw_p59 : lw_okq (⟨"ShakePicturesModel", "isRead", "()Z"⟩, 51) := ⟨⟨by decide +kernel, by decide +kernel⟩, List.mem_of_getElem? (i := 1052) (by decide +kernel), List.mem_of_getElem? (i := 1470) (by decide +kernel), List.mem_of_getElem? (i := 1471) (by decide +kernel)⟩
theorem lw_p60 : lw_okq (⟨"ShakePicturesModel", "nextToken", "()V"⟩, 51) := ⟨⟨by decide +kernel, by decide +kernel⟩, List.mem_of_getElem? (i := 1052) (by decide +kernel), List.mem_of_getElem? (i := 1474) (by decide +kernel), List.mem_of_getElem? (i := 1475) (by decide +kernel)⟩
theorem lw_p61 : lw_okq (⟨"ShakePicturesModel", "isStatement", "()Z"⟩, 51) := ⟨⟨by decide +kernel, by decide +kernel⟩, List.mem_of_getElem? (i := 1052) (by decide +kernel), List.mem_of_getElem? (i := 1484) (by decide +kernel), List.mem_of_getElem? (i := 1485) (by decide +kernel)⟩
theorem lw_p62 : lw_okq (⟨"ShakePicturesModel", "isTwo", "(IIII)Z"⟩, 51) := ⟨⟨by decide +kernel, by decide +kernel⟩, List.mem_of_getElem? (i := 1052) (by decide +kernel), List.mem_of_getElem? (i := 1489) (by decide +kernel), List.mem_of_getElem? (i := 1490) (by decide +kernel)⟩
theorem lw_p63 : lw_okq (⟨"ShakePicturesModel", "isNumber", "(II)Z"⟩, 51) := ⟨⟨by decide +kernel, by decide +kernel⟩, List.mem_of_getElem? (i := 1052) (by decide +kernel), List.mem_of_getElem? (i := 1493) (by decide +kernel), List.mem_of_getElem? (i := 1494) (by decide +kernel)⟩
def lw_privs_4 : List (MethodName × Nat) := [(⟨"ShakePicturesModel", "fitBlock", "(I)Z"⟩, 51), (⟨"ShakePicturesModel", "findRays", "()V"⟩, 51), (⟨"ShakePicturesModel", "layRays", "(III)V"⟩, 51), (⟨"ShakePicturesModel", "press", "(I)Z"⟩, 51), (⟨"ShakePicturesModel", "others", "(IIZ)I"⟩, 51), (⟨"ShakePicturesModel", "layRows", "()I"⟩, 51), (⟨"ShakePicturesModel", "rankOf", "(I)I"⟩, 51), (⟨"ShakePicturesModel", "isResolved", "(I)Z"⟩, 51), (⟨"ShakePicturesModel", "layAll", "()I"⟩, 51), (⟨"ShakePicturesModel", "resolvedWith", "(I)I"⟩, 51), (⟨"ShakePicturesModel", "findHeap", "(II)V"⟩, 51), (⟨"ShakePicturesModel", "isRead", "()Z"⟩, 51), (⟨"ShakePicturesModel", "nextToken", "()V"⟩, 51), (⟨"ShakePicturesModel", "isStatement", "()Z"⟩, 51), (⟨"ShakePicturesModel", "isTwo", "(IIII)Z"⟩, 51), (⟨"ShakePicturesModel", "isNumber", "(II)Z"⟩, 51)]
theorem lw_r4 : ∀ q ∈ lw_privs_4, lw_okq q := List.forall_mem_cons.mpr ⟨lw_p48, List.forall_mem_cons.mpr ⟨lw_p49, List.forall_mem_cons.mpr ⟨lw_p50, List.forall_mem_cons.mpr ⟨lw_p51, List.forall_mem_cons.mpr ⟨lw_p52, List.forall_mem_cons.mpr ⟨lw_p53, List.forall_mem_cons.mpr ⟨lw_p54, List.forall_mem_cons.mpr ⟨lw_p55, List.forall_mem_cons.mpr ⟨lw_p56, List.forall_mem_cons.mpr ⟨lw_p57, List.forall_mem_cons.mpr ⟨lw_p58, List.forall_mem_cons.mpr ⟨lw_p59, List.forall_mem_cons.mpr ⟨lw_p60, List.forall_mem_cons.mpr ⟨lw_p61, List.forall_mem_cons.mpr ⟨lw_p62, List.forall_mem_cons.mpr ⟨lw_p63, fun _ h => absurd h List.not_mem_nil⟩⟩⟩⟩⟩⟩⟩⟩⟩⟩⟩⟩⟩⟩⟩⟩
theorem lw_p64 : lw_okq (⟨"ShakePicturesModel", "fails", "()Z"⟩, 51) := ⟨⟨by decide +kernel, by decide +kernel⟩, List.mem_of_getElem? (i := 1052) (by decide +kernel), List.mem_of_getElem? (i := 1497) (by decide +kernel), List.mem_of_getElem? (i := 1498) (by decide +kernel)⟩
theorem lw_p65 : lw_okq (⟨"ShakePicturesModel", "isFit", "()Z"⟩, 51) := ⟨⟨by decide +kernel, by decide +kernel⟩, List.mem_of_getElem? (i := 1052) (by decide +kernel), List.mem_of_getElem? (i := 1502) (by decide +kernel), List.mem_of_getElem? (i := 1503) (by decide +kernel)⟩
theorem lw_p66 : lw_okq (⟨"ShakePicturesModel", "isSplit", "()Z"⟩, 51) := ⟨⟨by decide +kernel, by decide +kernel⟩, List.mem_of_getElem? (i := 1052) (by decide +kernel), List.mem_of_getElem? (i := 1509) (by decide +kernel), List.mem_of_getElem? (i := 1510) (by decide +kernel)⟩
theorem lw_p67 : lw_okq (⟨"ShakePicturesModel", "isDone", "(I)Z"⟩, 51) := ⟨⟨by decide +kernel, by decide +kernel⟩, List.mem_of_getElem? (i := 1052) (by decide +kernel), List.mem_of_getElem? (i := 1519) (by decide +kernel), List.mem_of_getElem? (i := 1520) (by decide +kernel)⟩
def lw_privs_5 : List (MethodName × Nat) := [(⟨"ShakePicturesModel", "fails", "()Z"⟩, 51), (⟨"ShakePicturesModel", "isFit", "()Z"⟩, 51), (⟨"ShakePicturesModel", "isSplit", "()Z"⟩, 51), (⟨"ShakePicturesModel", "isDone", "(I)Z"⟩, 51)]
theorem lw_r5 : ∀ q ∈ lw_privs_5, lw_okq q := List.forall_mem_cons.mpr ⟨lw_p64, List.forall_mem_cons.mpr ⟨lw_p65, List.forall_mem_cons.mpr ⟨lw_p66, List.forall_mem_cons.mpr ⟨lw_p67, fun _ h => absurd h List.not_mem_nil⟩⟩⟩⟩
def lw_privs : List (MethodName × Nat) := lw_privs_1 ++ (lw_privs_2 ++ (lw_privs_3 ++ (lw_privs_4 ++ (lw_privs_5))))
def lw_tbl : List Cond := k2_sels lw_privs ++ tables_1
theorem lw_privs_ok : ∀ q ∈ lw_privs, lw_okq q := by
  show ∀ q ∈ lw_privs_1 ++ (lw_privs_2 ++ (lw_privs_3 ++ (lw_privs_4 ++ (lw_privs_5)))), lw_okq q
  exact List.forall_mem_append.mpr ⟨lw_r1, List.forall_mem_append.mpr ⟨lw_r2, List.forall_mem_append.mpr ⟨lw_r3, List.forall_mem_append.mpr ⟨lw_r4, lw_r5⟩⟩⟩⟩
/-! ===== tables: words that every method knows, classes, texts ===== -/
def am_tbl : List Cond := lw_tbl.filter goodWord
theorem am_in {w : Cond} (i : Nat) (h : tables_1[i]? = some w) (hg : goodWord w = true) : w ∈ am_tbl := List.mem_filter.mpr ⟨List.mem_append_right _ (List.mem_of_getElem? h), hg⟩
theorem am_in1 {w : Cond} (i : Nat) (h : tables_1_1[i]? = some w) (hg : goodWord w = true) : w ∈ am_tbl := List.mem_filter.mpr ⟨List.mem_append_right _ (by have hh := List.mem_of_getElem? h; exact List.mem_append_left _ hh), hg⟩
theorem am_in2 {w : Cond} (i : Nat) (h : tables_1_2[i]? = some w) (hg : goodWord w = true) : w ∈ am_tbl := List.mem_filter.mpr ⟨List.mem_append_right _ (by have hh := List.mem_of_getElem? h; exact List.mem_append_right _ (List.mem_append_left _ hh)), hg⟩
theorem am_in3 {w : Cond} (i : Nat) (h : tables_1_3[i]? = some w) (hg : goodWord w = true) : w ∈ am_tbl := List.mem_filter.mpr ⟨List.mem_append_right _ (by have hh := List.mem_of_getElem? h; exact List.mem_append_right _ (List.mem_append_right _ (List.mem_append_left _ hh))), hg⟩
theorem am_in4 {w : Cond} (i : Nat) (h : tables_1_4[i]? = some w) (hg : goodWord w = true) : w ∈ am_tbl := List.mem_filter.mpr ⟨List.mem_append_right _ (by have hh := List.mem_of_getElem? h; exact List.mem_append_right _ (List.mem_append_right _ (List.mem_append_right _ (List.mem_append_left _ hh)))), hg⟩
theorem am_in5 {w : Cond} (i : Nat) (h : tables_1_5[i]? = some w) (hg : goodWord w = true) : w ∈ am_tbl := List.mem_filter.mpr ⟨List.mem_append_right _ (by have hh := List.mem_of_getElem? h; exact List.mem_append_right _ (List.mem_append_right _ (List.mem_append_right _ (List.mem_append_right _ (List.mem_append_left _ hh))))), hg⟩
theorem am_in6 {w : Cond} (i : Nat) (h : tables_1_6[i]? = some w) (hg : goodWord w = true) : w ∈ am_tbl := List.mem_filter.mpr ⟨List.mem_append_right _ (by have hh := List.mem_of_getElem? h; exact List.mem_append_right _ (List.mem_append_right _ (List.mem_append_right _ (List.mem_append_right _ (List.mem_append_right _ (List.mem_append_left _ hh)))))), hg⟩
theorem am_in7 {w : Cond} (i : Nat) (h : tables_1_7[i]? = some w) (hg : goodWord w = true) : w ∈ am_tbl := List.mem_filter.mpr ⟨List.mem_append_right _ (by have hh := List.mem_of_getElem? h; exact List.mem_append_right _ (List.mem_append_right _ (List.mem_append_right _ (List.mem_append_right _ (List.mem_append_right _ (List.mem_append_right _ (hh))))))), hg⟩
theorem am_inS {q : MethodName × Nat} (i : Nat) (h : lw_privs[i]? = some q) : Cond.selects q.1.cls q.1 q.1 ∈ am_tbl := List.mem_filter.mpr ⟨List.mem_append_left _ (List.mem_map.mpr ⟨q, List.mem_of_getElem? h, rfl⟩), rfl⟩
theorem am_good : GoodIn am_tbl am_tbl := fun w h => ⟨h, good_of_word (List.mem_filter.mp h).2⟩
def am_RGr : String := "ShakePictures$Ground"
def am_TGr : u_T := fun k => match k with
  | 0 => ("ShakePictures$Ground", "cells", "I", false)
  | 1 => ("ShakePictures$Ground", "ratio", "I", false)
  | 2 => ("ShakePictures$Ground", "blockOf", "[I", true)
  | 3 => ("ShakePictures$Ground", "slows", "[I", true)
  | 4 => ("ShakePictures$Ground", "beside", "[I", true)
  | 5 => ("ShakePictures$Ground", "cost", "[I", true)
  | 6 => ("ShakePictures$Ground", "least", "[I", true)
  | 7 => ("ShakePictures$Ground", "wayCells", "[I", true)
  | _ => ("ShakePictures$Ground", "wayLength", "I", false)
def am_YGr : Nat → FieldType := fun k => match k with
  | 0 => .int
  | 1 => .int
  | 2 => .array .int
  | 3 => .array .int
  | 4 => .array .int
  | 5 => .array .int
  | 6 => .array .int
  | 7 => .array .int
  | _ => .int
def am_RBo : String := "ShakePictures$Book"
def am_TBo : u_T := fun k => match k with
  | 0 => ("ShakePictures$Book", "ears", "I", false)
  | 1 => ("ShakePictures$Book", "earCell", "[I", true)
  | 2 => ("ShakePictures$Book", "earClock", "[I", true)
  | 3 => ("ShakePictures$Book", "shakes", "I", false)
  | 4 => ("ShakePictures$Book", "shakeCell", "[I", true)
  | 5 => ("ShakePictures$Book", "shakeBegun", "[I", true)
  | 6 => ("ShakePictures$Book", "picks", "I", false)
  | 7 => ("ShakePictures$Book", "pickEar", "[I", true)
  | 8 => ("ShakePictures$Book", "pickShake", "[I", true)
  | 9 => ("ShakePictures$Book", "pickKind", "[I", true)
  | 10 => ("ShakePictures$Book", "tellings", "I", false)
  | 11 => ("ShakePictures$Book", "tellPick", "[I", true)
  | 12 => ("ShakePictures$Book", "tellDay", "[I", true)
  | 13 => ("ShakePictures$Book", "tellLow", "[I", true)
  | 14 => ("ShakePictures$Book", "tellHigh", "[I", true)
  | _ => ("ShakePictures$Book", "day", "I", false)
def am_YBo : Nat → FieldType := fun k => match k with
  | 0 => .int
  | 1 => .array .int
  | 2 => .array .int
  | 3 => .int
  | 4 => .array .int
  | 5 => .array .int
  | 6 => .int
  | 7 => .array .int
  | 8 => .array .int
  | 9 => .array .int
  | 10 => .int
  | 11 => .array .int
  | 12 => .array .int
  | 13 => .array .int
  | 14 => .array .int
  | _ => .int
def am_RFt : String := "ShakePictures$Fitter"
def am_TFt : u_T := fun k => match k with
  | 0 => ("ShakePictures$Fitter", "ground", "LShakePictures$Ground;", true)
  | 1 => ("ShakePictures$Fitter", "book", "LShakePictures$Book;", true)
  | 2 => ("ShakePictures$Fitter", "low", "[I", true)
  | 3 => ("ShakePictures$Fitter", "high", "[I", true)
  | 4 => ("ShakePictures$Fitter", "misfitAt", "[I", true)
  | 5 => ("ShakePictures$Fitter", "members", "[I", true)
  | 6 => ("ShakePictures$Fitter", "memberCount", "I", false)
  | 7 => ("ShakePictures$Fitter", "times", "[[I", true)
  | _ => ("ShakePictures$Fitter", "ends", "[I", true)
def am_YFt : Nat → FieldType := fun k => match k with
  | 0 => .object "ShakePictures$Ground"
  | 1 => .object "ShakePictures$Book"
  | 2 => .array .int
  | 3 => .array .int
  | 4 => .array .int
  | 5 => .array .int
  | 6 => .int
  | 7 => .array (.array .int)
  | _ => .array .int
def am_RRa : String := "ShakePictures$Rays"
def am_TRa : u_T := fun k => match k with
  | 0 => ("ShakePictures$Rays", "ground", "LShakePictures$Ground;", true)
  | 1 => ("ShakePictures$Rays", "book", "LShakePictures$Book;", true)
  | 2 => ("ShakePictures$Rays", "rows", "I", false)
  | 3 => ("ShakePictures$Rays", "pickOf", "[I", true)
  | _ => ("ShakePictures$Rays", "row", "[[I", true)
def am_YRa : Nat → FieldType := fun k => match k with
  | 0 => .object "ShakePictures$Ground"
  | 1 => .object "ShakePictures$Book"
  | 2 => .int
  | 3 => .array .int
  | _ => .array (.array .int)
def am_RPr : String := "ShakePictures$Press"
def am_TPr : u_T := fun k => match k with
  | 0 => ("ShakePictures$Press", "rays", "LShakePictures$Rays;", true)
  | 1 => ("ShakePictures$Press", "book", "LShakePictures$Book;", true)
  | 2 => ("ShakePictures$Press", "sumLow", "[I", true)
  | 3 => ("ShakePictures$Press", "sumHigh", "[I", true)
  | 4 => ("ShakePictures$Press", "slowLow", "[I", true)
  | 5 => ("ShakePictures$Press", "slowHigh", "[I", true)
  | _ => ("ShakePictures$Press", "crossed", "Z", false)
def am_YPr : Nat → FieldType := fun k => match k with
  | 0 => .object "ShakePictures$Rays"
  | 1 => .object "ShakePictures$Book"
  | 2 => .array .int
  | 3 => .array .int
  | 4 => .array .int
  | 5 => .array .int
  | _ => .boolean
def am_RBa : String := "ShakePictures$Basis"
def am_TBa : u_T := fun k => match k with
  | 0 => ("ShakePictures$Basis", "size", "I", false)
  | 1 => ("ShakePictures$Basis", "has", "[Z", true)
  | 2 => ("ShakePictures$Basis", "rowOf", "[[J", true)
  | _ => ("ShakePictures$Basis", "fresh", "[J", true)
def am_YBa : Nat → FieldType := fun k => match k with
  | 0 => .int
  | 1 => .array .boolean
  | 2 => .array (.array .long)
  | _ => .array .long
def am_RRe : String := "ShakePictures$Resolver"
def am_TRe : u_T := fun k => match k with
  | 0 => ("ShakePictures$Resolver", "ground", "LShakePictures$Ground;", true)
  | 1 => ("ShakePictures$Resolver", "book", "LShakePictures$Book;", true)
  | 2 => ("ShakePictures$Resolver", "rays", "LShakePictures$Rays;", true)
  | 3 => ("ShakePictures$Resolver", "picked", "LShakePictures$Basis;", true)
  | 4 => ("ShakePictures$Resolver", "tried", "LShakePictures$Basis;", true)
  | 5 => ("ShakePictures$Resolver", "row", "[I", true)
  | 6 => ("ShakePictures$Resolver", "bestCell", "I", false)
  | _ => ("ShakePictures$Resolver", "bestResolved", "I", false)
def am_YRe : Nat → FieldType := fun k => match k with
  | 0 => .object "ShakePictures$Ground"
  | 1 => .object "ShakePictures$Book"
  | 2 => .object "ShakePictures$Rays"
  | 3 => .object "ShakePictures$Basis"
  | 4 => .object "ShakePictures$Basis"
  | 5 => .array .int
  | 6 => .int
  | _ => .int
def am_RFi : String := "ShakePictures$Finder"
def am_TFi : u_T := fun k => match k with
  | 0 => ("ShakePictures$Finder", "ground", "LShakePictures$Ground;", true)
  | 1 => ("ShakePictures$Finder", "book", "LShakePictures$Book;", true)
  | 2 => ("ShakePictures$Finder", "from", "[I", true)
  | 3 => ("ShakePictures$Finder", "to", "[I", true)
  | 4 => ("ShakePictures$Finder", "spans", "I", false)
  | 5 => ("ShakePictures$Finder", "heapSize", "I", false)
  | _ => ("ShakePictures$Finder", "heapBegun", "I", false)
def am_YFi : Nat → FieldType := fun k => match k with
  | 0 => .object "ShakePictures$Ground"
  | 1 => .object "ShakePictures$Book"
  | 2 => .array .int
  | 3 => .array .int
  | 4 => .int
  | 5 => .int
  | _ => .int
def am_RSc : String := "ShakePictures$Script"
def am_TSc : u_T := fun k => match k with
  | 0 => ("ShakePictures$Script", "ground", "LShakePictures$Ground;", true)
  | 1 => ("ShakePictures$Script", "book", "LShakePictures$Book;", true)
  | 2 => ("ShakePictures$Script", "bytes", "[I", true)
  | 3 => ("ShakePictures$Script", "length", "I", false)
  | 4 => ("ShakePictures$Script", "sort", "I", false)
  | 5 => ("ShakePictures$Script", "start", "I", false)
  | 6 => ("ShakePictures$Script", "over", "I", false)
  | 7 => ("ShakePictures$Script", "number", "I", false)
  | 8 => ("ShakePictures$Script", "statements", "I", false)
  | 9 => ("ShakePictures$Script", "verbs", "[I", true)
  | 10 => ("ShakePictures$Script", "firsts", "[I", true)
  | _ => ("ShakePictures$Script", "seconds", "[I", true)
def am_YSc : Nat → FieldType := fun k => match k with
  | 0 => .object "ShakePictures$Ground"
  | 1 => .object "ShakePictures$Book"
  | 2 => .array .int
  | 3 => .int
  | 4 => .int
  | 5 => .int
  | 6 => .int
  | 7 => .int
  | 8 => .int
  | 9 => .array .int
  | 10 => .array .int
  | _ => .array .int
def am_RMe : String := "ShakePictures$Memory"
def am_TMe : u_T := fun k => match k with
  | 0 => ("ShakePictures$Memory", "ground", "LShakePictures$Ground;", true)
  | 1 => ("ShakePictures$Memory", "book", "LShakePictures$Book;", true)
  | 2 => ("ShakePictures$Memory", "blockOf", "[I", true)
  | 3 => ("ShakePictures$Memory", "slows", "[I", true)
  | 4 => ("ShakePictures$Memory", "shakeCell", "[I", true)
  | _ => ("ShakePictures$Memory", "earClock", "[I", true)
def am_YMe : Nat → FieldType := fun k => match k with
  | 0 => .object "ShakePictures$Ground"
  | 1 => .object "ShakePictures$Book"
  | 2 => .array .int
  | 3 => .array .int
  | 4 => .array .int
  | _ => .array .int
def am_RSp : String := "ShakePictures"
def am_TSp : u_T := fun k => match k with
  | 0 => ("ShakePictures", "ground", "LShakePictures$Ground;", true)
  | 1 => ("ShakePictures", "book", "LShakePictures$Book;", true)
  | 2 => ("ShakePictures", "fitter", "LShakePictures$Fitter;", true)
  | 3 => ("ShakePictures", "rays", "LShakePictures$Rays;", true)
  | 4 => ("ShakePictures", "press", "LShakePictures$Press;", true)
  | 5 => ("ShakePictures", "resolver", "LShakePictures$Resolver;", true)
  | 6 => ("ShakePictures", "finder", "LShakePictures$Finder;", true)
  | 7 => ("ShakePictures", "script", "LShakePictures$Script;", true)
  | _ => ("ShakePictures", "memory", "LShakePictures$Memory;", true)
def am_YSp : Nat → FieldType := fun k => match k with
  | 0 => .object "ShakePictures$Ground"
  | 1 => .object "ShakePictures$Book"
  | 2 => .object "ShakePictures$Fitter"
  | 3 => .object "ShakePictures$Rays"
  | 4 => .object "ShakePictures$Press"
  | 5 => .object "ShakePictures$Resolver"
  | 6 => .object "ShakePictures$Finder"
  | 7 => .object "ShakePictures$Script"
  | _ => .object "ShakePictures$Memory"
def am_RMo : String := "ShakePicturesModel"
def am_TMo : u_T := fun k => match k with
  | 0 => ("ShakePicturesModel", "wide", "I", false)
  | 1 => ("ShakePicturesModel", "high", "I", false)
  | 2 => ("ShakePicturesModel", "blockOf", "[I", true)
  | 3 => ("ShakePicturesModel", "slow", "[I", true)
  | 4 => ("ShakePicturesModel", "ratio", "I", false)
  | 5 => ("ShakePicturesModel", "ears", "I", false)
  | 6 => ("ShakePicturesModel", "earCell", "[I", true)
  | 7 => ("ShakePicturesModel", "clocks", "[I", true)
  | 8 => ("ShakePicturesModel", "shakes", "I", false)
  | 9 => ("ShakePicturesModel", "shakeCell", "[I", true)
  | 10 => ("ShakePicturesModel", "begun", "[I", true)
  | 11 => ("ShakePicturesModel", "picks", "I", false)
  | 12 => ("ShakePicturesModel", "pickEar", "[I", true)
  | 13 => ("ShakePicturesModel", "pickShake", "[I", true)
  | 14 => ("ShakePicturesModel", "pickKind", "[I", true)
  | 15 => ("ShakePicturesModel", "tellings", "I", false)
  | 16 => ("ShakePicturesModel", "toldOf", "[I", true)
  | 17 => ("ShakePicturesModel", "toldIn", "[I", true)
  | 18 => ("ShakePicturesModel", "toldLow", "[I", true)
  | 19 => ("ShakePicturesModel", "toldHigh", "[I", true)
  | 20 => ("ShakePicturesModel", "day", "I", false)
  | 21 => ("ShakePicturesModel", "low", "[I", true)
  | 22 => ("ShakePicturesModel", "top", "[I", true)
  | 23 => ("ShakePicturesModel", "isTold", "[Z", true)
  | 24 => ("ShakePicturesModel", "times", "[I", true)
  | 25 => ("ShakePicturesModel", "shakeTimes", "[I", true)
  | 26 => ("ShakePicturesModel", "rays", "[I", true)
  | 27 => ("ShakePicturesModel", "least", "[I", true)
  | 28 => ("ShakePicturesModel", "greatest", "[I", true)
  | 29 => ("ShakePicturesModel", "rows", "[J", true)
  | 30 => ("ShakePicturesModel", "kept", "[I", true)
  | 31 => ("ShakePicturesModel", "bytes", "I", false)
  | 32 => ("ShakePicturesModel", "text", "[I", true)
  | 33 => ("ShakePicturesModel", "position", "I", false)
  | 34 => ("ShakePicturesModel", "tokenAt", "I", false)
  | 35 => ("ShakePicturesModel", "token", "J", false)
  | 36 => ("ShakePicturesModel", "digits", "I", false)
  | 37 => ("ShakePicturesModel", "number", "I", false)
  | 38 => ("ShakePicturesModel", "faultAt", "I", false)
  | 39 => ("ShakePicturesModel", "statements", "I", false)
  | 40 => ("ShakePicturesModel", "sorts", "[I", true)
  | 41 => ("ShakePicturesModel", "ones", "[I", true)
  | 42 => ("ShakePicturesModel", "twos", "[I", true)
  | 43 => ("ShakePicturesModel", "wasBlock", "[I", true)
  | 44 => ("ShakePicturesModel", "wasSlow", "[I", true)
  | 45 => ("ShakePicturesModel", "wasClock", "[I", true)
  | 46 => ("ShakePicturesModel", "wasCell", "[I", true)
  | 47 => ("ShakePicturesModel", "more", "[I", true)
  | 48 => ("ShakePicturesModel", "moreRows", "I", false)
  | 49 => ("ShakePicturesModel", "heapMany", "I", false)
  | _ => ("ShakePicturesModel", "heapBegun", "I", false)
def am_YMo : Nat → FieldType := fun k => match k with
  | 0 => .int
  | 1 => .int
  | 2 => .array .int
  | 3 => .array .int
  | 4 => .int
  | 5 => .int
  | 6 => .array .int
  | 7 => .array .int
  | 8 => .int
  | 9 => .array .int
  | 10 => .array .int
  | 11 => .int
  | 12 => .array .int
  | 13 => .array .int
  | 14 => .array .int
  | 15 => .int
  | 16 => .array .int
  | 17 => .array .int
  | 18 => .array .int
  | 19 => .array .int
  | 20 => .int
  | 21 => .array .int
  | 22 => .array .int
  | 23 => .array .boolean
  | 24 => .array .int
  | 25 => .array .int
  | 26 => .array .int
  | 27 => .array .int
  | 28 => .array .int
  | 29 => .array .long
  | 30 => .array .int
  | 31 => .int
  | 32 => .array .int
  | 33 => .int
  | 34 => .int
  | 35 => .long
  | 36 => .int
  | 37 => .int
  | 38 => .int
  | 39 => .int
  | 40 => .array .int
  | 41 => .array .int
  | 42 => .array .int
  | 43 => .array .int
  | 44 => .array .int
  | 45 => .array .int
  | 46 => .array .int
  | 47 => .array .int
  | 48 => .int
  | 49 => .int
  | _ => .int
abbrev am_cl : List vw_C := [(am_RGr, am_TGr, 9), (am_RBo, am_TBo, 16), (am_RFt, am_TFt, 9), (am_RRa, am_TRa, 5), (am_RPr, am_TPr, 7), (am_RBa, am_TBa, 4), (am_RRe, am_TRe, 8), (am_RFi, am_TFi, 7), (am_RSc, am_TSc, 12), (am_RMe, am_TMe, 6), (am_RSp, am_TSp, 9), (am_RMo, am_TMo, 51)]
def am_Y (ci : Nat) : Nat → FieldType := match ci with
  | 0 => am_YGr
  | 1 => am_YBo
  | 2 => am_YFt
  | 3 => am_YRa
  | 4 => am_YPr
  | 5 => am_YBa
  | 6 => am_YRe
  | 7 => am_YFi
  | 8 => am_YSc
  | 9 => am_YMe
  | 10 => am_YSp
  | _ => am_YMo
def am_TG : List (List Nat) := [[0, 0, 2, 2, 2, 2, 2, 2, 0], [0, 2, 2, 0, 2, 2, 0, 2, 2, 2, 0, 2, 2, 2, 2, 0], [2, 2, 2, 2, 2, 2, 0, 2, 2], [2, 2, 0, 2, 2], [2, 2, 2, 2, 2, 2, 0], [0, 2, 2, 2], [2, 2, 2, 2, 2, 2, 0, 0], [2, 2, 2, 2, 0, 0, 0], [2, 2, 2, 0, 0, 0, 0, 0, 0, 2, 2, 2], [2, 2, 2, 2, 2, 2], [2, 2, 2, 2, 2, 2, 2, 2, 2], [0, 0, 2, 2, 0, 0, 2, 2, 0, 2, 2, 0, 2, 2, 2, 0, 2, 2, 2, 2, 0, 2, 2, 2, 2, 2, 2, 2, 2, 2, 2, 0, 2, 0, 0, 1, 0, 0, 0, 0, 2, 2, 2, 2, 2, 2, 2, 2, 0, 0, 0]]
theorem am_wGr : ∀ w ∈ u_ws am_RGr am_TGr 9, w ∈ am_tbl := by
  intro w hw
  obtain ⟨k, hk, rfl⟩ := List.mem_map.mp hw
  have hk := List.mem_range.mp hk
  match k, hk with
  | 0, _ => exact am_in1 59 (by decide +kernel) (by decide +kernel)
  | 1, _ => exact am_in1 61 (by decide +kernel) (by decide +kernel)
  | 2, _ => exact am_in1 63 (by decide +kernel) (by decide +kernel)
  | 3, _ => exact am_in1 65 (by decide +kernel) (by decide +kernel)
  | 4, _ => exact am_in1 67 (by decide +kernel) (by decide +kernel)
  | 5, _ => exact am_in1 69 (by decide +kernel) (by decide +kernel)
  | 6, _ => exact am_in1 71 (by decide +kernel) (by decide +kernel)
  | 7, _ => exact am_in1 73 (by decide +kernel) (by decide +kernel)
  | 8, _ => exact am_in1 75 (by decide +kernel) (by decide +kernel)
  | k + 9, h => exact absurd h (by omega)
theorem am_yGr : ∀ k, k < 9 → parseFieldDescriptor (am_TGr k).2.2.1 = some (am_YGr k) := by decide +kernel
theorem am_nGr : ∀ a, a < 9 → ∀ b, b < 9 → a ≠ b → (am_TGr a).2.1 ≠ (am_TGr b).2.1 := by decide +kernel
theorem am_wBo : ∀ w ∈ u_ws am_RBo am_TBo 16, w ∈ am_tbl := by
  intro w hw
  obtain ⟨k, hk, rfl⟩ := List.mem_map.mp hw
  have hk := List.mem_range.mp hk
  match k, hk with
  | 0, _ => exact am_in1 137 (by decide +kernel) (by decide +kernel)
  | 1, _ => exact am_in1 139 (by decide +kernel) (by decide +kernel)
  | 2, _ => exact am_in1 141 (by decide +kernel) (by decide +kernel)
  | 3, _ => exact am_in1 143 (by decide +kernel) (by decide +kernel)
  | 4, _ => exact am_in1 145 (by decide +kernel) (by decide +kernel)
  | 5, _ => exact am_in1 147 (by decide +kernel) (by decide +kernel)
  | 6, _ => exact am_in1 149 (by decide +kernel) (by decide +kernel)
  | 7, _ => exact am_in1 151 (by decide +kernel) (by decide +kernel)
  | 8, _ => exact am_in1 153 (by decide +kernel) (by decide +kernel)
  | 9, _ => exact am_in1 155 (by decide +kernel) (by decide +kernel)
  | 10, _ => exact am_in1 157 (by decide +kernel) (by decide +kernel)
  | 11, _ => exact am_in1 159 (by decide +kernel) (by decide +kernel)
  | 12, _ => exact am_in1 161 (by decide +kernel) (by decide +kernel)
  | 13, _ => exact am_in1 163 (by decide +kernel) (by decide +kernel)
  | 14, _ => exact am_in1 165 (by decide +kernel) (by decide +kernel)
  | 15, _ => exact am_in1 167 (by decide +kernel) (by decide +kernel)
  | k + 16, h => exact absurd h (by omega)
theorem am_yBo : ∀ k, k < 16 → parseFieldDescriptor (am_TBo k).2.2.1 = some (am_YBo k) := by decide +kernel
theorem am_nBo : ∀ a, a < 16 → ∀ b, b < 16 → a ≠ b → (am_TBo a).2.1 ≠ (am_TBo b).2.1 := by decide +kernel
theorem am_wFt : ∀ w ∈ u_ws am_RFt am_TFt 9, w ∈ am_tbl := by
  intro w hw
  obtain ⟨k, hk, rfl⟩ := List.mem_map.mp hw
  have hk := List.mem_range.mp hk
  match k, hk with
  | 0, _ => exact am_in1 215 (by decide +kernel) (by decide +kernel)
  | 1, _ => exact am_in1 217 (by decide +kernel) (by decide +kernel)
  | 2, _ => exact am_in1 219 (by decide +kernel) (by decide +kernel)
  | 3, _ => exact am_in1 221 (by decide +kernel) (by decide +kernel)
  | 4, _ => exact am_in1 223 (by decide +kernel) (by decide +kernel)
  | 5, _ => exact am_in1 225 (by decide +kernel) (by decide +kernel)
  | 6, _ => exact am_in1 227 (by decide +kernel) (by decide +kernel)
  | 7, _ => exact am_in1 229 (by decide +kernel) (by decide +kernel)
  | 8, _ => exact am_in1 231 (by decide +kernel) (by decide +kernel)
  | k + 9, h => exact absurd h (by omega)
theorem am_yFt : ∀ k, k < 9 → parseFieldDescriptor (am_TFt k).2.2.1 = some (am_YFt k) := by decide +kernel
theorem am_nFt : ∀ a, a < 9 → ∀ b, b < 9 → a ≠ b → (am_TFt a).2.1 ≠ (am_TFt b).2.1 := by decide +kernel
theorem am_wRa : ∀ w ∈ u_ws am_RRa am_TRa 5, w ∈ am_tbl := by
  intro w hw
  obtain ⟨k, hk, rfl⟩ := List.mem_map.mp hw
  have hk := List.mem_range.mp hk
  match k, hk with
  | 0, _ => exact am_in1 188 (by decide +kernel) (by decide +kernel)
  | 1, _ => exact am_in1 190 (by decide +kernel) (by decide +kernel)
  | 2, _ => exact am_in1 192 (by decide +kernel) (by decide +kernel)
  | 3, _ => exact am_in1 194 (by decide +kernel) (by decide +kernel)
  | 4, _ => exact am_in1 196 (by decide +kernel) (by decide +kernel)
  | k + 5, h => exact absurd h (by omega)
theorem am_yRa : ∀ k, k < 5 → parseFieldDescriptor (am_TRa k).2.2.1 = some (am_YRa k) := by decide +kernel
theorem am_nRa : ∀ a, a < 5 → ∀ b, b < 5 → a ≠ b → (am_TRa a).2.1 ≠ (am_TRa b).2.1 := by decide +kernel
theorem am_wPr : ∀ w ∈ u_ws am_RPr am_TPr 7, w ∈ am_tbl := by
  intro w hw
  obtain ⟨k, hk, rfl⟩ := List.mem_map.mp hw
  have hk := List.mem_range.mp hk
  match k, hk with
  | 0, _ => exact am_in2 9 (by decide +kernel) (by decide +kernel)
  | 1, _ => exact am_in2 11 (by decide +kernel) (by decide +kernel)
  | 2, _ => exact am_in2 13 (by decide +kernel) (by decide +kernel)
  | 3, _ => exact am_in2 15 (by decide +kernel) (by decide +kernel)
  | 4, _ => exact am_in2 17 (by decide +kernel) (by decide +kernel)
  | 5, _ => exact am_in2 19 (by decide +kernel) (by decide +kernel)
  | 6, _ => exact am_in2 21 (by decide +kernel) (by decide +kernel)
  | k + 7, h => exact absurd h (by omega)
theorem am_yPr : ∀ k, k < 7 → parseFieldDescriptor (am_TPr k).2.2.1 = some (am_YPr k) := by decide +kernel
theorem am_nPr : ∀ a, a < 7 → ∀ b, b < 7 → a ≠ b → (am_TPr a).2.1 ≠ (am_TPr b).2.1 := by decide +kernel
theorem am_wBa : ∀ w ∈ u_ws am_RBa am_TBa 4, w ∈ am_tbl := by
  intro w hw
  obtain ⟨k, hk, rfl⟩ := List.mem_map.mp hw
  have hk := List.mem_range.mp hk
  match k, hk with
  | 0, _ => exact am_in2 43 (by decide +kernel) (by decide +kernel)
  | 1, _ => exact am_in2 45 (by decide +kernel) (by decide +kernel)
  | 2, _ => exact am_in2 47 (by decide +kernel) (by decide +kernel)
  | 3, _ => exact am_in2 49 (by decide +kernel) (by decide +kernel)
  | k + 4, h => exact absurd h (by omega)
theorem am_yBa : ∀ k, k < 4 → parseFieldDescriptor (am_TBa k).2.2.1 = some (am_YBa k) := by decide +kernel
theorem am_nBa : ∀ a, a < 4 → ∀ b, b < 4 → a ≠ b → (am_TBa a).2.1 ≠ (am_TBa b).2.1 := by decide +kernel
theorem am_wRe : ∀ w ∈ u_ws am_RRe am_TRe 8, w ∈ am_tbl := by
  intro w hw
  obtain ⟨k, hk, rfl⟩ := List.mem_map.mp hw
  have hk := List.mem_range.mp hk
  match k, hk with
  | 0, _ => exact am_in2 65 (by decide +kernel) (by decide +kernel)
  | 1, _ => exact am_in2 67 (by decide +kernel) (by decide +kernel)
  | 2, _ => exact am_in2 69 (by decide +kernel) (by decide +kernel)
  | 3, _ => exact am_in2 71 (by decide +kernel) (by decide +kernel)
  | 4, _ => exact am_in2 73 (by decide +kernel) (by decide +kernel)
  | 5, _ => exact am_in2 75 (by decide +kernel) (by decide +kernel)
  | 6, _ => exact am_in2 77 (by decide +kernel) (by decide +kernel)
  | 7, _ => exact am_in2 79 (by decide +kernel) (by decide +kernel)
  | k + 8, h => exact absurd h (by omega)
theorem am_yRe : ∀ k, k < 8 → parseFieldDescriptor (am_TRe k).2.2.1 = some (am_YRe k) := by decide +kernel
theorem am_nRe : ∀ a, a < 8 → ∀ b, b < 8 → a ≠ b → (am_TRe a).2.1 ≠ (am_TRe b).2.1 := by decide +kernel
theorem am_wFi : ∀ w ∈ u_ws am_RFi am_TFi 7, w ∈ am_tbl := by
  intro w hw
  obtain ⟨k, hk, rfl⟩ := List.mem_map.mp hw
  have hk := List.mem_range.mp hk
  match k, hk with
  | 0, _ => exact am_in2 97 (by decide +kernel) (by decide +kernel)
  | 1, _ => exact am_in2 99 (by decide +kernel) (by decide +kernel)
  | 2, _ => exact am_in2 101 (by decide +kernel) (by decide +kernel)
  | 3, _ => exact am_in2 103 (by decide +kernel) (by decide +kernel)
  | 4, _ => exact am_in2 105 (by decide +kernel) (by decide +kernel)
  | 5, _ => exact am_in2 107 (by decide +kernel) (by decide +kernel)
  | 6, _ => exact am_in2 109 (by decide +kernel) (by decide +kernel)
  | k + 7, h => exact absurd h (by omega)
theorem am_yFi : ∀ k, k < 7 → parseFieldDescriptor (am_TFi k).2.2.1 = some (am_YFi k) := by decide +kernel
theorem am_nFi : ∀ a, a < 7 → ∀ b, b < 7 → a ≠ b → (am_TFi a).2.1 ≠ (am_TFi b).2.1 := by decide +kernel
theorem am_wSc : ∀ w ∈ u_ws am_RSc am_TSc 12, w ∈ am_tbl := by
  intro w hw
  obtain ⟨k, hk, rfl⟩ := List.mem_map.mp hw
  have hk := List.mem_range.mp hk
  match k, hk with
  | 0, _ => exact am_in2 135 (by decide +kernel) (by decide +kernel)
  | 1, _ => exact am_in2 137 (by decide +kernel) (by decide +kernel)
  | 2, _ => exact am_in2 139 (by decide +kernel) (by decide +kernel)
  | 3, _ => exact am_in2 141 (by decide +kernel) (by decide +kernel)
  | 4, _ => exact am_in2 143 (by decide +kernel) (by decide +kernel)
  | 5, _ => exact am_in2 145 (by decide +kernel) (by decide +kernel)
  | 6, _ => exact am_in2 147 (by decide +kernel) (by decide +kernel)
  | 7, _ => exact am_in2 149 (by decide +kernel) (by decide +kernel)
  | 8, _ => exact am_in2 151 (by decide +kernel) (by decide +kernel)
  | 9, _ => exact am_in2 153 (by decide +kernel) (by decide +kernel)
  | 10, _ => exact am_in2 155 (by decide +kernel) (by decide +kernel)
  | 11, _ => exact am_in2 157 (by decide +kernel) (by decide +kernel)
  | k + 12, h => exact absurd h (by omega)
theorem am_ySc : ∀ k, k < 12 → parseFieldDescriptor (am_TSc k).2.2.1 = some (am_YSc k) := by decide +kernel
theorem am_nSc : ∀ a, a < 12 → ∀ b, b < 12 → a ≠ b → (am_TSc a).2.1 ≠ (am_TSc b).2.1 := by decide +kernel
theorem am_wMe : ∀ w ∈ u_ws am_RMe am_TMe 6, w ∈ am_tbl := by
  intro w hw
  obtain ⟨k, hk, rfl⟩ := List.mem_map.mp hw
  have hk := List.mem_range.mp hk
  match k, hk with
  | 0, _ => exact am_in2 172 (by decide +kernel) (by decide +kernel)
  | 1, _ => exact am_in2 174 (by decide +kernel) (by decide +kernel)
  | 2, _ => exact am_in2 176 (by decide +kernel) (by decide +kernel)
  | 3, _ => exact am_in2 178 (by decide +kernel) (by decide +kernel)
  | 4, _ => exact am_in2 180 (by decide +kernel) (by decide +kernel)
  | 5, _ => exact am_in2 182 (by decide +kernel) (by decide +kernel)
  | k + 6, h => exact absurd h (by omega)
theorem am_yMe : ∀ k, k < 6 → parseFieldDescriptor (am_TMe k).2.2.1 = some (am_YMe k) := by decide +kernel
theorem am_nMe : ∀ a, a < 6 → ∀ b, b < 6 → a ≠ b → (am_TMe a).2.1 ≠ (am_TMe b).2.1 := by decide +kernel
theorem am_wSp : ∀ w ∈ u_ws am_RSp am_TSp 9, w ∈ am_tbl := by
  intro w hw
  obtain ⟨k, hk, rfl⟩ := List.mem_map.mp hw
  have hk := List.mem_range.mp hk
  match k, hk with
  | 0, _ => exact am_in2 194 (by decide +kernel) (by decide +kernel)
  | 1, _ => exact am_in2 196 (by decide +kernel) (by decide +kernel)
  | 2, _ => exact am_in2 198 (by decide +kernel) (by decide +kernel)
  | 3, _ => exact am_in2 200 (by decide +kernel) (by decide +kernel)
  | 4, _ => exact am_in2 202 (by decide +kernel) (by decide +kernel)
  | 5, _ => exact am_in2 204 (by decide +kernel) (by decide +kernel)
  | 6, _ => exact am_in2 206 (by decide +kernel) (by decide +kernel)
  | 7, _ => exact am_in2 208 (by decide +kernel) (by decide +kernel)
  | 8, _ => exact am_in2 210 (by decide +kernel) (by decide +kernel)
  | k + 9, h => exact absurd h (by omega)
theorem am_ySp : ∀ k, k < 9 → parseFieldDescriptor (am_TSp k).2.2.1 = some (am_YSp k) := by decide +kernel
theorem am_nSp : ∀ a, a < 9 → ∀ b, b < 9 → a ≠ b → (am_TSp a).2.1 ≠ (am_TSp b).2.1 := by decide +kernel
theorem am_wMo : ∀ w ∈ u_ws am_RMo am_TMo 51, w ∈ am_tbl := by
  intro w hw
  obtain ⟨k, hk, rfl⟩ := List.mem_map.mp hw
  have hk := List.mem_range.mp hk
  match k, hk with
  | 0, _ => exact am_in5 148 (by decide +kernel) (by decide +kernel)
  | 1, _ => exact am_in5 150 (by decide +kernel) (by decide +kernel)
  | 2, _ => exact am_in5 152 (by decide +kernel) (by decide +kernel)
  | 3, _ => exact am_in5 154 (by decide +kernel) (by decide +kernel)
  | 4, _ => exact am_in5 156 (by decide +kernel) (by decide +kernel)
  | 5, _ => exact am_in5 158 (by decide +kernel) (by decide +kernel)
  | 6, _ => exact am_in5 160 (by decide +kernel) (by decide +kernel)
  | 7, _ => exact am_in5 162 (by decide +kernel) (by decide +kernel)
  | 8, _ => exact am_in5 164 (by decide +kernel) (by decide +kernel)
  | 9, _ => exact am_in5 166 (by decide +kernel) (by decide +kernel)
  | 10, _ => exact am_in5 168 (by decide +kernel) (by decide +kernel)
  | 11, _ => exact am_in5 170 (by decide +kernel) (by decide +kernel)
  | 12, _ => exact am_in5 172 (by decide +kernel) (by decide +kernel)
  | 13, _ => exact am_in5 174 (by decide +kernel) (by decide +kernel)
  | 14, _ => exact am_in5 176 (by decide +kernel) (by decide +kernel)
  | 15, _ => exact am_in5 178 (by decide +kernel) (by decide +kernel)
  | 16, _ => exact am_in5 180 (by decide +kernel) (by decide +kernel)
  | 17, _ => exact am_in5 182 (by decide +kernel) (by decide +kernel)
  | 18, _ => exact am_in5 184 (by decide +kernel) (by decide +kernel)
  | 19, _ => exact am_in5 186 (by decide +kernel) (by decide +kernel)
  | 20, _ => exact am_in5 188 (by decide +kernel) (by decide +kernel)
  | 21, _ => exact am_in5 190 (by decide +kernel) (by decide +kernel)
  | 22, _ => exact am_in5 192 (by decide +kernel) (by decide +kernel)
  | 23, _ => exact am_in5 194 (by decide +kernel) (by decide +kernel)
  | 24, _ => exact am_in5 196 (by decide +kernel) (by decide +kernel)
  | 25, _ => exact am_in5 198 (by decide +kernel) (by decide +kernel)
  | 26, _ => exact am_in5 200 (by decide +kernel) (by decide +kernel)
  | 27, _ => exact am_in5 202 (by decide +kernel) (by decide +kernel)
  | 28, _ => exact am_in5 204 (by decide +kernel) (by decide +kernel)
  | 29, _ => exact am_in5 206 (by decide +kernel) (by decide +kernel)
  | 30, _ => exact am_in5 208 (by decide +kernel) (by decide +kernel)
  | 31, _ => exact am_in5 210 (by decide +kernel) (by decide +kernel)
  | 32, _ => exact am_in5 212 (by decide +kernel) (by decide +kernel)
  | 33, _ => exact am_in5 214 (by decide +kernel) (by decide +kernel)
  | 34, _ => exact am_in5 216 (by decide +kernel) (by decide +kernel)
  | 35, _ => exact am_in5 218 (by decide +kernel) (by decide +kernel)
  | 36, _ => exact am_in5 220 (by decide +kernel) (by decide +kernel)
  | 37, _ => exact am_in5 222 (by decide +kernel) (by decide +kernel)
  | 38, _ => exact am_in5 224 (by decide +kernel) (by decide +kernel)
  | 39, _ => exact am_in5 226 (by decide +kernel) (by decide +kernel)
  | 40, _ => exact am_in5 228 (by decide +kernel) (by decide +kernel)
  | 41, _ => exact am_in5 230 (by decide +kernel) (by decide +kernel)
  | 42, _ => exact am_in5 232 (by decide +kernel) (by decide +kernel)
  | 43, _ => exact am_in5 234 (by decide +kernel) (by decide +kernel)
  | 44, _ => exact am_in5 236 (by decide +kernel) (by decide +kernel)
  | 45, _ => exact am_in5 238 (by decide +kernel) (by decide +kernel)
  | 46, _ => exact am_in6 0 (by decide +kernel) (by decide +kernel)
  | 47, _ => exact am_in6 2 (by decide +kernel) (by decide +kernel)
  | 48, _ => exact am_in6 4 (by decide +kernel) (by decide +kernel)
  | 49, _ => exact am_in6 6 (by decide +kernel) (by decide +kernel)
  | 50, _ => exact am_in6 8 (by decide +kernel) (by decide +kernel)
  | k + 51, h => exact absurd h (by omega)
theorem am_yMo : ∀ k, k < 51 → parseFieldDescriptor (am_TMo k).2.2.1 = some (am_YMo k) := by decide +kernel
theorem am_nMo : ∀ a, a < 51 → ∀ b, b < 51 → a ≠ b → (am_TMo a).2.1 ≠ (am_TMo b).2.1 := by decide +kernel
/-- every class's words, types, names -/
theorem am_cls {ci N : Nat} {C : String} {T : u_T} (h : am_cl[ci]? = some (C, T, N)) : (∀ w ∈ u_ws C T N, w ∈ am_tbl) ∧ (∀ k, k < N → parseFieldDescriptor (T k).2.2.1 = some (am_Y ci k)) ∧ (∀ a, a < N → ∀ b, b < N → a ≠ b → (T a).2.1 ≠ (T b).2.1) ∧ (am_TG.getD ci []).length = N ∧ ci < 12 := by
  match ci, h with
  | 0, h => cases h; exact ⟨am_wGr, am_yGr, am_nGr, by decide +kernel, by decide⟩
  | 1, h => cases h; exact ⟨am_wBo, am_yBo, am_nBo, by decide +kernel, by decide⟩
  | 2, h => cases h; exact ⟨am_wFt, am_yFt, am_nFt, by decide +kernel, by decide⟩
  | 3, h => cases h; exact ⟨am_wRa, am_yRa, am_nRa, by decide +kernel, by decide⟩
  | 4, h => cases h; exact ⟨am_wPr, am_yPr, am_nPr, by decide +kernel, by decide⟩
  | 5, h => cases h; exact ⟨am_wBa, am_yBa, am_nBa, by decide +kernel, by decide⟩
  | 6, h => cases h; exact ⟨am_wRe, am_yRe, am_nRe, by decide +kernel, by decide⟩
  | 7, h => cases h; exact ⟨am_wFi, am_yFi, am_nFi, by decide +kernel, by decide⟩
  | 8, h => cases h; exact ⟨am_wSc, am_ySc, am_nSc, by decide +kernel, by decide⟩
  | 9, h => cases h; exact ⟨am_wMe, am_yMe, am_nMe, by decide +kernel, by decide⟩
  | 10, h => cases h; exact ⟨am_wSp, am_ySp, am_nSp, by decide +kernel, by decide⟩
  | 11, h => cases h; exact ⟨am_wMo, am_yMo, am_nMo, by decide +kernel, by decide⟩
  | ci + 12, h => simp at h
def am_len : List Nat := [4, 3, 4, 5, 5, 2, 3]
def am_byt : List (List Int32) := [[115, 108, 111, 119], [102, 105, 116], [109, 111, 118, 101], [99, 108, 111, 99, 107], [115, 112, 108, 105, 116], [98, 121], [97, 110, 100]]
/-- entry, text, number of the texts -/
def am_txt : List (Nat × String × Nat) := [(92, "slow", 0), (94, "fit", 1), (96, "move", 2), (98, "clock", 3), (100, "split", 4), (108, "by", 5), (110, "and", 6)]
def am_nst : List Cond := [.methodLinkNest "ShakePictures" 9 ⟨"ShakePictures$Ground", "<init>", "()V"⟩ "ShakePictures", .methodLinkNest "ShakePictures" 16 ⟨"ShakePictures$Book", "<init>", "()V"⟩ "ShakePictures", .methodLinkNest "ShakePictures$Resolver" 11 ⟨"ShakePictures$Basis", "<init>", "()V"⟩ "ShakePictures", .methodLinkNest "ShakePictures$Fitter" 122 ⟨"ShakePictures", "missedBy", "(III)I"⟩ "ShakePictures"]
