theorem w_0 : (Jvm.Cond.initialized "RoadOfDoorsLaw") ∈ tW := tW_t (i := 0) (by decide +kernel) rfl
theorem w_18 : (Jvm.Cond.classLink "RoadOfDoorsLaw" (7 : Nat) "RoadOfDoors") ∈ tW := tW_t (i := 18) (by decide +kernel) rfl
theorem w_19 : (Jvm.Cond.instantiable "RoadOfDoors" (9 : Nat)) ∈ tW := tW_t (i := 19) (by decide +kernel) rfl
theorem w_20 : (Jvm.Cond.methodLink "RoadOfDoorsLaw" (15 : Nat) ({ cls := "RoadOfDoors", name := "<init>", desc := "(I)V" } : Jvm.MethodName)) ∈ tW := tW_t (i := 20) (by decide +kernel) rfl
theorem w_21 : (Jvm.Cond.instanceMethod ({ cls := "RoadOfDoors", name := "<init>", desc := "(I)V" } : Jvm.MethodName)) ∈ tW := tW_t (i := 21) (by decide +kernel) rfl
theorem w_370 : (Jvm.Cond.methodLink "RoadOfDoorsLaw" (21 : Nat) ({ cls := "RoadOfDoors", name := "rain", desc := "(II)Z" } : Jvm.MethodName)) ∈ tW := tW_t (i := 370) (by decide +kernel) rfl
theorem w_371 : (Jvm.Cond.instanceMethod ({ cls := "RoadOfDoors", name := "rain", desc := "(II)Z" } : Jvm.MethodName)) ∈ tW := tW_t (i := 371) (by decide +kernel) rfl
theorem w_372 : (Jvm.Cond.selects "RoadOfDoors" ({ cls := "RoadOfDoors", name := "rain", desc := "(II)Z" } : Jvm.MethodName) ({ cls := "RoadOfDoors", name := "rain", desc := "(II)Z" } : Jvm.MethodName)) ∈ tW := tW_t (i := 372) (by decide +kernel) rfl
theorem w_392 : (Jvm.Cond.methodLink "RoadOfDoorsLaw" (26 : Nat) ({ cls := "RoadOfDoors", name := "mood", desc := "(II)Z" } : Jvm.MethodName)) ∈ tW := tW_t (i := 392) (by decide +kernel) rfl
theorem w_393 : (Jvm.Cond.instanceMethod ({ cls := "RoadOfDoors", name := "mood", desc := "(II)Z" } : Jvm.MethodName)) ∈ tW := tW_t (i := 393) (by decide +kernel) rfl
theorem w_394 : (Jvm.Cond.selects "RoadOfDoors" ({ cls := "RoadOfDoors", name := "mood", desc := "(II)Z" } : Jvm.MethodName) ({ cls := "RoadOfDoors", name := "mood", desc := "(II)Z" } : Jvm.MethodName)) ∈ tW := tW_t (i := 394) (by decide +kernel) rfl
theorem w_400 : (Jvm.Cond.methodLink "RoadOfDoorsLaw" (30 : Nat) ({ cls := "RoadOfDoors", name := "moods", desc := "(I)I" } : Jvm.MethodName)) ∈ tW := tW_t (i := 400) (by decide +kernel) rfl
theorem w_401 : (Jvm.Cond.instanceMethod ({ cls := "RoadOfDoors", name := "moods", desc := "(I)I" } : Jvm.MethodName)) ∈ tW := tW_t (i := 401) (by decide +kernel) rfl
theorem w_402 : (Jvm.Cond.selects "RoadOfDoors" ({ cls := "RoadOfDoors", name := "moods", desc := "(I)I" } : Jvm.MethodName) ({ cls := "RoadOfDoors", name := "moods", desc := "(I)I" } : Jvm.MethodName)) ∈ tW := tW_t (i := 402) (by decide +kernel) rfl
theorem w_404 : (Jvm.Cond.methodLink "RoadOfDoorsLaw" (35 : Nat) ({ cls := "RoadOfDoors", name := "hinge", desc := "(IZ)Z" } : Jvm.MethodName)) ∈ tW := tW_t (i := 404) (by decide +kernel) rfl
theorem w_405 : (Jvm.Cond.instanceMethod ({ cls := "RoadOfDoors", name := "hinge", desc := "(IZ)Z" } : Jvm.MethodName)) ∈ tW := tW_t (i := 405) (by decide +kernel) rfl
theorem w_406 : (Jvm.Cond.selects "RoadOfDoors" ({ cls := "RoadOfDoors", name := "hinge", desc := "(IZ)Z" } : Jvm.MethodName) ({ cls := "RoadOfDoors", name := "hinge", desc := "(IZ)Z" } : Jvm.MethodName)) ∈ tW := tW_t (i := 406) (by decide +kernel) rfl
theorem w_408 : (Jvm.Cond.methodLink "RoadOfDoorsLaw" (40 : Nat) ({ cls := "RoadOfDoors", name := "feed", desc := "(IIIII)I" } : Jvm.MethodName)) ∈ tW := tW_t (i := 408) (by decide +kernel) rfl
theorem w_409 : (Jvm.Cond.instanceMethod ({ cls := "RoadOfDoors", name := "feed", desc := "(IIIII)I" } : Jvm.MethodName)) ∈ tW := tW_t (i := 409) (by decide +kernel) rfl
theorem w_410 : (Jvm.Cond.selects "RoadOfDoors" ({ cls := "RoadOfDoors", name := "feed", desc := "(IIIII)I" } : Jvm.MethodName) ({ cls := "RoadOfDoors", name := "feed", desc := "(IIIII)I" } : Jvm.MethodName)) ∈ tW := tW_t (i := 410) (by decide +kernel) rfl
theorem w_416 : (Jvm.Cond.methodLink "RoadOfDoorsLaw" (45 : Nat) ({ cls := "RoadOfDoors", name := "end", desc := "(I)I" } : Jvm.MethodName)) ∈ tW := tW_t (i := 416) (by decide +kernel) rfl
theorem w_417 : (Jvm.Cond.instanceMethod ({ cls := "RoadOfDoors", name := "end", desc := "(I)I" } : Jvm.MethodName)) ∈ tW := tW_t (i := 417) (by decide +kernel) rfl
theorem w_418 : (Jvm.Cond.selects "RoadOfDoors" ({ cls := "RoadOfDoors", name := "end", desc := "(I)I" } : Jvm.MethodName) ({ cls := "RoadOfDoors", name := "end", desc := "(I)I" } : Jvm.MethodName)) ∈ tW := tW_t (i := 418) (by decide +kernel) rfl
theorem w_420 : (Jvm.Cond.methodLink "RoadOfDoorsLaw" (49 : Nat) ({ cls := "RoadOfDoors", name := "text", desc := "()I" } : Jvm.MethodName)) ∈ tW := tW_t (i := 420) (by decide +kernel) rfl
theorem w_421 : (Jvm.Cond.instanceMethod ({ cls := "RoadOfDoors", name := "text", desc := "()I" } : Jvm.MethodName)) ∈ tW := tW_t (i := 421) (by decide +kernel) rfl
theorem w_422 : (Jvm.Cond.selects "RoadOfDoors" ({ cls := "RoadOfDoors", name := "text", desc := "()I" } : Jvm.MethodName) ({ cls := "RoadOfDoors", name := "text", desc := "()I" } : Jvm.MethodName)) ∈ tW := tW_t (i := 422) (by decide +kernel) rfl
theorem w_630 : (Jvm.Cond.methodLink "RoadOfDoorsLaw" (54 : Nat) ({ cls := "RoadOfDoors", name := "fault", desc := "(I)I" } : Jvm.MethodName)) ∈ tW := tW_t (i := 630) (by decide +kernel) rfl
theorem w_631 : (Jvm.Cond.instanceMethod ({ cls := "RoadOfDoors", name := "fault", desc := "(I)I" } : Jvm.MethodName)) ∈ tW := tW_t (i := 631) (by decide +kernel) rfl
theorem w_632 : (Jvm.Cond.selects "RoadOfDoors" ({ cls := "RoadOfDoors", name := "fault", desc := "(I)I" } : Jvm.MethodName) ({ cls := "RoadOfDoors", name := "fault", desc := "(I)I" } : Jvm.MethodName)) ∈ tW := tW_t (i := 632) (by decide +kernel) rfl
theorem w_634 : (Jvm.Cond.methodLink "RoadOfDoorsLaw" (58 : Nat) ({ cls := "RoadOfDoors", name := "keep", desc := "(II)Z" } : Jvm.MethodName)) ∈ tW := tW_t (i := 634) (by decide +kernel) rfl
theorem w_635 : (Jvm.Cond.instanceMethod ({ cls := "RoadOfDoors", name := "keep", desc := "(II)Z" } : Jvm.MethodName)) ∈ tW := tW_t (i := 635) (by decide +kernel) rfl
theorem w_636 : (Jvm.Cond.selects "RoadOfDoors" ({ cls := "RoadOfDoors", name := "keep", desc := "(II)Z" } : Jvm.MethodName) ({ cls := "RoadOfDoors", name := "keep", desc := "(II)Z" } : Jvm.MethodName)) ∈ tW := tW_t (i := 636) (by decide +kernel) rfl
theorem w_638 : (Jvm.Cond.methodLink "RoadOfDoorsLaw" (62 : Nat) ({ cls := "RoadOfDoors", name := "opens", desc := "(IIIIII)Z" } : Jvm.MethodName)) ∈ tW := tW_t (i := 638) (by decide +kernel) rfl
theorem w_639 : (Jvm.Cond.instanceMethod ({ cls := "RoadOfDoors", name := "opens", desc := "(IIIIII)Z" } : Jvm.MethodName)) ∈ tW := tW_t (i := 639) (by decide +kernel) rfl
theorem w_640 : (Jvm.Cond.selects "RoadOfDoors" ({ cls := "RoadOfDoors", name := "opens", desc := "(IIIIII)Z" } : Jvm.MethodName) ({ cls := "RoadOfDoors", name := "opens", desc := "(IIIIII)Z" } : Jvm.MethodName)) ∈ tW := tW_t (i := 640) (by decide +kernel) rfl
theorem w_669 : (Jvm.Cond.methodLink "RoadOfDoorsLaw" (67 : Nat) ({ cls := "RoadOfDoors", name := "sets", desc := "(IIII)Z" } : Jvm.MethodName)) ∈ tW := tW_t (i := 669) (by decide +kernel) rfl
theorem w_670 : (Jvm.Cond.instanceMethod ({ cls := "RoadOfDoors", name := "sets", desc := "(IIII)Z" } : Jvm.MethodName)) ∈ tW := tW_t (i := 670) (by decide +kernel) rfl
theorem w_671 : (Jvm.Cond.selects "RoadOfDoors" ({ cls := "RoadOfDoors", name := "sets", desc := "(IIII)Z" } : Jvm.MethodName) ({ cls := "RoadOfDoors", name := "sets", desc := "(IIII)Z" } : Jvm.MethodName)) ∈ tW := tW_t (i := 671) (by decide +kernel) rfl
theorem w_681 : (Jvm.Cond.methodLink "RoadOfDoorsLaw" (72 : Nat) ({ cls := "RoadOfDoors", name := "knock", desc := "(II)I" } : Jvm.MethodName)) ∈ tW := tW_t (i := 681) (by decide +kernel) rfl
theorem w_682 : (Jvm.Cond.instanceMethod ({ cls := "RoadOfDoors", name := "knock", desc := "(II)I" } : Jvm.MethodName)) ∈ tW := tW_t (i := 682) (by decide +kernel) rfl
theorem w_683 : (Jvm.Cond.selects "RoadOfDoors" ({ cls := "RoadOfDoors", name := "knock", desc := "(II)I" } : Jvm.MethodName) ({ cls := "RoadOfDoors", name := "knock", desc := "(II)I" } : Jvm.MethodName)) ∈ tW := tW_t (i := 683) (by decide +kernel) rfl
theorem w_712 : (Jvm.Cond.methodLink "RoadOfDoorsLaw" (77 : Nat) ({ cls := "RoadOfDoors", name := "later", desc := "(I)I" } : Jvm.MethodName)) ∈ tW := tW_t (i := 712) (by decide +kernel) rfl
theorem w_713 : (Jvm.Cond.instanceMethod ({ cls := "RoadOfDoors", name := "later", desc := "(I)I" } : Jvm.MethodName)) ∈ tW := tW_t (i := 713) (by decide +kernel) rfl
theorem w_714 : (Jvm.Cond.selects "RoadOfDoors" ({ cls := "RoadOfDoors", name := "later", desc := "(I)I" } : Jvm.MethodName) ({ cls := "RoadOfDoors", name := "later", desc := "(I)I" } : Jvm.MethodName)) ∈ tW := tW_t (i := 714) (by decide +kernel) rfl
theorem w_724 : (Jvm.Cond.methodLink "RoadOfDoorsLaw" (81 : Nat) ({ cls := "RoadOfDoors", name := "played", desc := "(I)I" } : Jvm.MethodName)) ∈ tW := tW_t (i := 724) (by decide +kernel) rfl
theorem w_725 : (Jvm.Cond.instanceMethod ({ cls := "RoadOfDoors", name := "played", desc := "(I)I" } : Jvm.MethodName)) ∈ tW := tW_t (i := 725) (by decide +kernel) rfl
theorem w_726 : (Jvm.Cond.selects "RoadOfDoors" ({ cls := "RoadOfDoors", name := "played", desc := "(I)I" } : Jvm.MethodName) ({ cls := "RoadOfDoors", name := "played", desc := "(I)I" } : Jvm.MethodName)) ∈ tW := tW_t (i := 726) (by decide +kernel) rfl
theorem w_732 : (Jvm.Cond.methodLink "RoadOfDoorsLaw" (85 : Nat) ({ cls := "RoadOfDoors", name := "undo", desc := "()I" } : Jvm.MethodName)) ∈ tW := tW_t (i := 732) (by decide +kernel) rfl
theorem w_733 : (Jvm.Cond.instanceMethod ({ cls := "RoadOfDoors", name := "undo", desc := "()I" } : Jvm.MethodName)) ∈ tW := tW_t (i := 733) (by decide +kernel) rfl
theorem w_734 : (Jvm.Cond.selects "RoadOfDoors" ({ cls := "RoadOfDoors", name := "undo", desc := "()I" } : Jvm.MethodName) ({ cls := "RoadOfDoors", name := "undo", desc := "()I" } : Jvm.MethodName)) ∈ tW := tW_t (i := 734) (by decide +kernel) rfl
theorem w_741 : (Jvm.Cond.methodLink "RoadOfDoorsLaw" (89 : Nat) ({ cls := "RoadOfDoors", name := "traveller", desc := "(I)I" } : Jvm.MethodName)) ∈ tW := tW_t (i := 741) (by decide +kernel) rfl
theorem w_742 : (Jvm.Cond.instanceMethod ({ cls := "RoadOfDoors", name := "traveller", desc := "(I)I" } : Jvm.MethodName)) ∈ tW := tW_t (i := 742) (by decide +kernel) rfl
theorem w_743 : (Jvm.Cond.selects "RoadOfDoors" ({ cls := "RoadOfDoors", name := "traveller", desc := "(I)I" } : Jvm.MethodName) ({ cls := "RoadOfDoors", name := "traveller", desc := "(I)I" } : Jvm.MethodName)) ∈ tW := tW_t (i := 743) (by decide +kernel) rfl
theorem w_745 : (Jvm.Cond.methodLink "RoadOfDoorsLaw" (93 : Nat) ({ cls := "RoadOfDoors", name := "way", desc := "(IIIIIZI)I" } : Jvm.MethodName)) ∈ tW := tW_t (i := 745) (by decide +kernel) rfl
theorem w_746 : (Jvm.Cond.instanceMethod ({ cls := "RoadOfDoors", name := "way", desc := "(IIIIIZI)I" } : Jvm.MethodName)) ∈ tW := tW_t (i := 746) (by decide +kernel) rfl
theorem w_747 : (Jvm.Cond.selects "RoadOfDoors" ({ cls := "RoadOfDoors", name := "way", desc := "(IIIIIZI)I" } : Jvm.MethodName) ({ cls := "RoadOfDoors", name := "way", desc := "(IIIIIZI)I" } : Jvm.MethodName)) ∈ tW := tW_t (i := 747) (by decide +kernel) rfl
theorem w_811 : (Jvm.Cond.methodLink "RoadOfDoorsLaw" (98 : Nat) ({ cls := "RoadOfDoors", name := "guest", desc := "(IIII)I" } : Jvm.MethodName)) ∈ tW := tW_t (i := 811) (by decide +kernel) rfl
theorem w_812 : (Jvm.Cond.instanceMethod ({ cls := "RoadOfDoors", name := "guest", desc := "(IIII)I" } : Jvm.MethodName)) ∈ tW := tW_t (i := 812) (by decide +kernel) rfl
theorem w_813 : (Jvm.Cond.selects "RoadOfDoors" ({ cls := "RoadOfDoors", name := "guest", desc := "(IIII)I" } : Jvm.MethodName) ({ cls := "RoadOfDoors", name := "guest", desc := "(IIII)I" } : Jvm.MethodName)) ∈ tW := tW_t (i := 813) (by decide +kernel) rfl
theorem w_820 : (Jvm.Cond.methodLink "RoadOfDoorsLaw" (103 : Nat) ({ cls := "RoadOfDoors", name := "clear", desc := "()I" } : Jvm.MethodName)) ∈ tW := tW_t (i := 820) (by decide +kernel) rfl
theorem w_821 : (Jvm.Cond.instanceMethod ({ cls := "RoadOfDoors", name := "clear", desc := "()I" } : Jvm.MethodName)) ∈ tW := tW_t (i := 821) (by decide +kernel) rfl
theorem w_822 : (Jvm.Cond.selects "RoadOfDoors" ({ cls := "RoadOfDoors", name := "clear", desc := "()I" } : Jvm.MethodName) ({ cls := "RoadOfDoors", name := "clear", desc := "()I" } : Jvm.MethodName)) ∈ tW := tW_t (i := 822) (by decide +kernel) rfl
theorem w_824 : (Jvm.Cond.methodLink "RoadOfDoorsLaw" (107 : Nat) ({ cls := "RoadOfDoors", name := "earns", desc := "(I)I" } : Jvm.MethodName)) ∈ tW := tW_t (i := 824) (by decide +kernel) rfl
theorem w_825 : (Jvm.Cond.instanceMethod ({ cls := "RoadOfDoors", name := "earns", desc := "(I)I" } : Jvm.MethodName)) ∈ tW := tW_t (i := 825) (by decide +kernel) rfl
theorem w_826 : (Jvm.Cond.selects "RoadOfDoors" ({ cls := "RoadOfDoors", name := "earns", desc := "(I)I" } : Jvm.MethodName) ({ cls := "RoadOfDoors", name := "earns", desc := "(I)I" } : Jvm.MethodName)) ∈ tW := tW_t (i := 826) (by decide +kernel) rfl
theorem w_845 : (Jvm.Cond.methodLink "RoadOfDoorsLaw" (111 : Nat) ({ cls := "RoadOfDoors", name := "even", desc := "()I" } : Jvm.MethodName)) ∈ tW := tW_t (i := 845) (by decide +kernel) rfl
theorem w_846 : (Jvm.Cond.instanceMethod ({ cls := "RoadOfDoors", name := "even", desc := "()I" } : Jvm.MethodName)) ∈ tW := tW_t (i := 846) (by decide +kernel) rfl
theorem w_847 : (Jvm.Cond.selects "RoadOfDoors" ({ cls := "RoadOfDoors", name := "even", desc := "()I" } : Jvm.MethodName) ({ cls := "RoadOfDoors", name := "even", desc := "()I" } : Jvm.MethodName)) ∈ tW := tW_t (i := 847) (by decide +kernel) rfl
theorem w_857 : (Jvm.Cond.methodLink "RoadOfDoorsLaw" (115 : Nat) ({ cls := "RoadOfDoors", name := "rounds", desc := "(I)I" } : Jvm.MethodName)) ∈ tW := tW_t (i := 857) (by decide +kernel) rfl
theorem w_858 : (Jvm.Cond.instanceMethod ({ cls := "RoadOfDoors", name := "rounds", desc := "(I)I" } : Jvm.MethodName)) ∈ tW := tW_t (i := 858) (by decide +kernel) rfl
theorem w_859 : (Jvm.Cond.selects "RoadOfDoors" ({ cls := "RoadOfDoors", name := "rounds", desc := "(I)I" } : Jvm.MethodName) ({ cls := "RoadOfDoors", name := "rounds", desc := "(I)I" } : Jvm.MethodName)) ∈ tW := tW_t (i := 859) (by decide +kernel) rfl
theorem w_873 : (Jvm.Cond.methodLink "RoadOfDoorsLaw" (119 : Nat) ({ cls := "RoadOfDoors", name := "seen", desc := "(IIIIIZ)I" } : Jvm.MethodName)) ∈ tW := tW_t (i := 873) (by decide +kernel) rfl
theorem w_874 : (Jvm.Cond.instanceMethod ({ cls := "RoadOfDoors", name := "seen", desc := "(IIIIIZ)I" } : Jvm.MethodName)) ∈ tW := tW_t (i := 874) (by decide +kernel) rfl
theorem w_875 : (Jvm.Cond.selects "RoadOfDoors" ({ cls := "RoadOfDoors", name := "seen", desc := "(IIIIIZ)I" } : Jvm.MethodName) ({ cls := "RoadOfDoors", name := "seen", desc := "(IIIIIZ)I" } : Jvm.MethodName)) ∈ tW := tW_t (i := 875) (by decide +kernel) rfl
theorem w_877 : (Jvm.Cond.methodLink "RoadOfDoorsLaw" (124 : Nat) ({ cls := "RoadOfDoors", name := "kept", desc := "(II)I" } : Jvm.MethodName)) ∈ tW := tW_t (i := 877) (by decide +kernel) rfl
theorem w_878 : (Jvm.Cond.instanceMethod ({ cls := "RoadOfDoors", name := "kept", desc := "(II)I" } : Jvm.MethodName)) ∈ tW := tW_t (i := 878) (by decide +kernel) rfl
theorem w_879 : (Jvm.Cond.selects "RoadOfDoors" ({ cls := "RoadOfDoors", name := "kept", desc := "(II)I" } : Jvm.MethodName) ({ cls := "RoadOfDoors", name := "kept", desc := "(II)I" } : Jvm.MethodName)) ∈ tW := tW_t (i := 879) (by decide +kernel) rfl
theorem w_885 : (Jvm.Cond.methodLink "RoadOfDoorsLaw" (128 : Nat) ({ cls := "RoadOfDoors", name := "image", desc := "()I" } : Jvm.MethodName)) ∈ tW := tW_t (i := 885) (by decide +kernel) rfl
theorem w_886 : (Jvm.Cond.instanceMethod ({ cls := "RoadOfDoors", name := "image", desc := "()I" } : Jvm.MethodName)) ∈ tW := tW_t (i := 886) (by decide +kernel) rfl
theorem w_887 : (Jvm.Cond.selects "RoadOfDoors" ({ cls := "RoadOfDoors", name := "image", desc := "()I" } : Jvm.MethodName) ({ cls := "RoadOfDoors", name := "image", desc := "()I" } : Jvm.MethodName)) ∈ tW := tW_t (i := 887) (by decide +kernel) rfl
theorem w_898 : (Jvm.Cond.methodLink "RoadOfDoorsLaw" (132 : Nat) ({ cls := "RoadOfDoors", name := "back", desc := "()I" } : Jvm.MethodName)) ∈ tW := tW_t (i := 898) (by decide +kernel) rfl
theorem w_899 : (Jvm.Cond.instanceMethod ({ cls := "RoadOfDoors", name := "back", desc := "()I" } : Jvm.MethodName)) ∈ tW := tW_t (i := 899) (by decide +kernel) rfl
theorem w_900 : (Jvm.Cond.selects "RoadOfDoors" ({ cls := "RoadOfDoors", name := "back", desc := "()I" } : Jvm.MethodName) ({ cls := "RoadOfDoors", name := "back", desc := "()I" } : Jvm.MethodName)) ∈ tW := tW_t (i := 900) (by decide +kernel) rfl
theorem w_902 : (Jvm.Cond.methodLink "RoadOfDoorsLaw" (136 : Nat) ({ cls := "RoadOfDoors", name := "about", desc := "(I)I" } : Jvm.MethodName)) ∈ tW := tW_t (i := 902) (by decide +kernel) rfl
theorem w_903 : (Jvm.Cond.instanceMethod ({ cls := "RoadOfDoors", name := "about", desc := "(I)I" } : Jvm.MethodName)) ∈ tW := tW_t (i := 903) (by decide +kernel) rfl
theorem w_904 : (Jvm.Cond.selects "RoadOfDoors" ({ cls := "RoadOfDoors", name := "about", desc := "(I)I" } : Jvm.MethodName) ({ cls := "RoadOfDoors", name := "about", desc := "(I)I" } : Jvm.MethodName)) ∈ tW := tW_t (i := 904) (by decide +kernel) rfl
theorem w_910 : (Jvm.Cond.methodLink "RoadOfDoorsLaw" (9 : Nat) ({ cls := "RoadOfDoorsLaw", name := "cell", desc := "([II)I" } : Jvm.MethodName)) ∈ tW := tW_t (i := 910) (by decide +kernel) rfl
theorem w_911 : (Jvm.Cond.static ({ cls := "RoadOfDoorsLaw", name := "cell", desc := "([II)I" } : Jvm.MethodName)) ∈ tW := tW_t (i := 911) (by decide +kernel) rfl
theorem w_913 : (Jvm.Cond.classLink "RoadOfDoorsLaw" (18 : Nat) "RoadOfDoorsModel") ∈ tW := tW_t (i := 913) (by decide +kernel) rfl
theorem w_914 : (Jvm.Cond.instantiable "RoadOfDoorsModel" (32 : Nat)) ∈ tW := tW_t (i := 914) (by decide +kernel) rfl
theorem w_915 : (Jvm.Cond.methodLink "RoadOfDoorsLaw" (20 : Nat) ({ cls := "RoadOfDoorsModel", name := "<init>", desc := "(I)V" } : Jvm.MethodName)) ∈ tW := tW_t (i := 915) (by decide +kernel) rfl
theorem w_916 : (Jvm.Cond.instanceMethod ({ cls := "RoadOfDoorsModel", name := "<init>", desc := "(I)V" } : Jvm.MethodName)) ∈ tW := tW_t (i := 916) (by decide +kernel) rfl
theorem w_1018 : (Jvm.Cond.methodLink "RoadOfDoorsLaw" (25 : Nat) ({ cls := "RoadOfDoorsModel", name := "rain", desc := "(II)Z" } : Jvm.MethodName)) ∈ tW := tW_t (i := 1018) (by decide +kernel) rfl
theorem w_1019 : (Jvm.Cond.instanceMethod ({ cls := "RoadOfDoorsModel", name := "rain", desc := "(II)Z" } : Jvm.MethodName)) ∈ tW := tW_t (i := 1019) (by decide +kernel) rfl
theorem w_1020 : (Jvm.Cond.selects "RoadOfDoorsModel" ({ cls := "RoadOfDoorsModel", name := "rain", desc := "(II)Z" } : Jvm.MethodName) ({ cls := "RoadOfDoorsModel", name := "rain", desc := "(II)Z" } : Jvm.MethodName)) ∈ tW := tW_t (i := 1020) (by decide +kernel) rfl
theorem w_1028 : (Jvm.Cond.methodLink "RoadOfDoorsLaw" (29 : Nat) ({ cls := "RoadOfDoorsModel", name := "mood", desc := "(II)Z" } : Jvm.MethodName)) ∈ tW := tW_t (i := 1028) (by decide +kernel) rfl
theorem w_1029 : (Jvm.Cond.instanceMethod ({ cls := "RoadOfDoorsModel", name := "mood", desc := "(II)Z" } : Jvm.MethodName)) ∈ tW := tW_t (i := 1029) (by decide +kernel) rfl
theorem w_1030 : (Jvm.Cond.selects "RoadOfDoorsModel" ({ cls := "RoadOfDoorsModel", name := "mood", desc := "(II)Z" } : Jvm.MethodName) ({ cls := "RoadOfDoorsModel", name := "mood", desc := "(II)Z" } : Jvm.MethodName)) ∈ tW := tW_t (i := 1030) (by decide +kernel) rfl
theorem w_1036 : (Jvm.Cond.methodLink "RoadOfDoorsLaw" (34 : Nat) ({ cls := "RoadOfDoorsModel", name := "moods", desc := "(I)I" } : Jvm.MethodName)) ∈ tW := tW_t (i := 1036) (by decide +kernel) rfl
theorem w_1037 : (Jvm.Cond.instanceMethod ({ cls := "RoadOfDoorsModel", name := "moods", desc := "(I)I" } : Jvm.MethodName)) ∈ tW := tW_t (i := 1037) (by decide +kernel) rfl
theorem w_1038 : (Jvm.Cond.selects "RoadOfDoorsModel" ({ cls := "RoadOfDoorsModel", name := "moods", desc := "(I)I" } : Jvm.MethodName) ({ cls := "RoadOfDoorsModel", name := "moods", desc := "(I)I" } : Jvm.MethodName)) ∈ tW := tW_t (i := 1038) (by decide +kernel) rfl
theorem w_1040 : (Jvm.Cond.methodLink "RoadOfDoorsLaw" (39 : Nat) ({ cls := "RoadOfDoorsModel", name := "hinge", desc := "(IZ)Z" } : Jvm.MethodName)) ∈ tW := tW_t (i := 1040) (by decide +kernel) rfl
theorem w_1041 : (Jvm.Cond.instanceMethod ({ cls := "RoadOfDoorsModel", name := "hinge", desc := "(IZ)Z" } : Jvm.MethodName)) ∈ tW := tW_t (i := 1041) (by decide +kernel) rfl
theorem w_1042 : (Jvm.Cond.selects "RoadOfDoorsModel" ({ cls := "RoadOfDoorsModel", name := "hinge", desc := "(IZ)Z" } : Jvm.MethodName) ({ cls := "RoadOfDoorsModel", name := "hinge", desc := "(IZ)Z" } : Jvm.MethodName)) ∈ tW := tW_t (i := 1042) (by decide +kernel) rfl
theorem w_1044 : (Jvm.Cond.methodLink "RoadOfDoorsLaw" (44 : Nat) ({ cls := "RoadOfDoorsModel", name := "feed", desc := "(IIIII)I" } : Jvm.MethodName)) ∈ tW := tW_t (i := 1044) (by decide +kernel) rfl
theorem w_1045 : (Jvm.Cond.instanceMethod ({ cls := "RoadOfDoorsModel", name := "feed", desc := "(IIIII)I" } : Jvm.MethodName)) ∈ tW := tW_t (i := 1045) (by decide +kernel) rfl
theorem w_1046 : (Jvm.Cond.selects "RoadOfDoorsModel" ({ cls := "RoadOfDoorsModel", name := "feed", desc := "(IIIII)I" } : Jvm.MethodName) ({ cls := "RoadOfDoorsModel", name := "feed", desc := "(IIIII)I" } : Jvm.MethodName)) ∈ tW := tW_t (i := 1046) (by decide +kernel) rfl
theorem w_1052 : (Jvm.Cond.methodLink "RoadOfDoorsLaw" (48 : Nat) ({ cls := "RoadOfDoorsModel", name := "end", desc := "(I)I" } : Jvm.MethodName)) ∈ tW := tW_t (i := 1052) (by decide +kernel) rfl
theorem w_1053 : (Jvm.Cond.instanceMethod ({ cls := "RoadOfDoorsModel", name := "end", desc := "(I)I" } : Jvm.MethodName)) ∈ tW := tW_t (i := 1053) (by decide +kernel) rfl
theorem w_1054 : (Jvm.Cond.selects "RoadOfDoorsModel" ({ cls := "RoadOfDoorsModel", name := "end", desc := "(I)I" } : Jvm.MethodName) ({ cls := "RoadOfDoorsModel", name := "end", desc := "(I)I" } : Jvm.MethodName)) ∈ tW := tW_t (i := 1054) (by decide +kernel) rfl
theorem w_1056 : (Jvm.Cond.methodLink "RoadOfDoorsLaw" (53 : Nat) ({ cls := "RoadOfDoorsModel", name := "text", desc := "()I" } : Jvm.MethodName)) ∈ tW := tW_t (i := 1056) (by decide +kernel) rfl
theorem w_1057 : (Jvm.Cond.instanceMethod ({ cls := "RoadOfDoorsModel", name := "text", desc := "()I" } : Jvm.MethodName)) ∈ tW := tW_t (i := 1057) (by decide +kernel) rfl
theorem w_1058 : (Jvm.Cond.selects "RoadOfDoorsModel" ({ cls := "RoadOfDoorsModel", name := "text", desc := "()I" } : Jvm.MethodName) ({ cls := "RoadOfDoorsModel", name := "text", desc := "()I" } : Jvm.MethodName)) ∈ tW := tW_t (i := 1058) (by decide +kernel) rfl
theorem w_1164 : (Jvm.Cond.methodLink "RoadOfDoorsLaw" (57 : Nat) ({ cls := "RoadOfDoorsModel", name := "fault", desc := "(I)I" } : Jvm.MethodName)) ∈ tW := tW_t (i := 1164) (by decide +kernel) rfl
theorem w_1165 : (Jvm.Cond.instanceMethod ({ cls := "RoadOfDoorsModel", name := "fault", desc := "(I)I" } : Jvm.MethodName)) ∈ tW := tW_t (i := 1165) (by decide +kernel) rfl
theorem w_1166 : (Jvm.Cond.selects "RoadOfDoorsModel" ({ cls := "RoadOfDoorsModel", name := "fault", desc := "(I)I" } : Jvm.MethodName) ({ cls := "RoadOfDoorsModel", name := "fault", desc := "(I)I" } : Jvm.MethodName)) ∈ tW := tW_t (i := 1166) (by decide +kernel) rfl
theorem w_1168 : (Jvm.Cond.methodLink "RoadOfDoorsLaw" (61 : Nat) ({ cls := "RoadOfDoorsModel", name := "keep", desc := "(II)Z" } : Jvm.MethodName)) ∈ tW := tW_t (i := 1168) (by decide +kernel) rfl
theorem w_1169 : (Jvm.Cond.instanceMethod ({ cls := "RoadOfDoorsModel", name := "keep", desc := "(II)Z" } : Jvm.MethodName)) ∈ tW := tW_t (i := 1169) (by decide +kernel) rfl
theorem w_1170 : (Jvm.Cond.selects "RoadOfDoorsModel" ({ cls := "RoadOfDoorsModel", name := "keep", desc := "(II)Z" } : Jvm.MethodName) ({ cls := "RoadOfDoorsModel", name := "keep", desc := "(II)Z" } : Jvm.MethodName)) ∈ tW := tW_t (i := 1170) (by decide +kernel) rfl
theorem w_1176 : (Jvm.Cond.methodLink "RoadOfDoorsLaw" (66 : Nat) ({ cls := "RoadOfDoorsModel", name := "opens", desc := "(IIIIII)Z" } : Jvm.MethodName)) ∈ tW := tW_t (i := 1176) (by decide +kernel) rfl
theorem w_1202 : (Jvm.Cond.methodLink "RoadOfDoorsLaw" (71 : Nat) ({ cls := "RoadOfDoorsModel", name := "sets", desc := "(IIII)Z" } : Jvm.MethodName)) ∈ tW := tW_t (i := 1202) (by decide +kernel) rfl
theorem w_1203 : (Jvm.Cond.instanceMethod ({ cls := "RoadOfDoorsModel", name := "sets", desc := "(IIII)Z" } : Jvm.MethodName)) ∈ tW := tW_t (i := 1203) (by decide +kernel) rfl
theorem w_1204 : (Jvm.Cond.selects "RoadOfDoorsModel" ({ cls := "RoadOfDoorsModel", name := "sets", desc := "(IIII)Z" } : Jvm.MethodName) ({ cls := "RoadOfDoorsModel", name := "sets", desc := "(IIII)Z" } : Jvm.MethodName)) ∈ tW := tW_t (i := 1204) (by decide +kernel) rfl
theorem w_1210 : (Jvm.Cond.methodLink "RoadOfDoorsLaw" (88 : Nat) ({ cls := "RoadOfDoorsModel", name := "undo", desc := "()I" } : Jvm.MethodName)) ∈ tW := tW_t (i := 1210) (by decide +kernel) rfl
theorem w_1211 : (Jvm.Cond.instanceMethod ({ cls := "RoadOfDoorsModel", name := "undo", desc := "()I" } : Jvm.MethodName)) ∈ tW := tW_t (i := 1211) (by decide +kernel) rfl
theorem w_1212 : (Jvm.Cond.selects "RoadOfDoorsModel" ({ cls := "RoadOfDoorsModel", name := "undo", desc := "()I" } : Jvm.MethodName) ({ cls := "RoadOfDoorsModel", name := "undo", desc := "()I" } : Jvm.MethodName)) ∈ tW := tW_t (i := 1212) (by decide +kernel) rfl
theorem w_1214 : (Jvm.Cond.methodLink "RoadOfDoorsLaw" (76 : Nat) ({ cls := "RoadOfDoorsModel", name := "knock", desc := "(II)I" } : Jvm.MethodName)) ∈ tW := tW_t (i := 1214) (by decide +kernel) rfl
theorem w_1230 : (Jvm.Cond.methodLink "RoadOfDoorsLaw" (80 : Nat) ({ cls := "RoadOfDoorsModel", name := "later", desc := "(I)I" } : Jvm.MethodName)) ∈ tW := tW_t (i := 1230) (by decide +kernel) rfl
theorem w_1234 : (Jvm.Cond.methodLink "RoadOfDoorsLaw" (84 : Nat) ({ cls := "RoadOfDoorsModel", name := "played", desc := "(I)I" } : Jvm.MethodName)) ∈ tW := tW_t (i := 1234) (by decide +kernel) rfl
theorem w_1235 : (Jvm.Cond.instanceMethod ({ cls := "RoadOfDoorsModel", name := "played", desc := "(I)I" } : Jvm.MethodName)) ∈ tW := tW_t (i := 1235) (by decide +kernel) rfl
theorem w_1236 : (Jvm.Cond.selects "RoadOfDoorsModel" ({ cls := "RoadOfDoorsModel", name := "played", desc := "(I)I" } : Jvm.MethodName) ({ cls := "RoadOfDoorsModel", name := "played", desc := "(I)I" } : Jvm.MethodName)) ∈ tW := tW_t (i := 1236) (by decide +kernel) rfl
theorem w_1244 : (Jvm.Cond.methodLink "RoadOfDoorsLaw" (92 : Nat) ({ cls := "RoadOfDoorsModel", name := "traveller", desc := "(I)I" } : Jvm.MethodName)) ∈ tW := tW_t (i := 1244) (by decide +kernel) rfl
theorem w_1245 : (Jvm.Cond.instanceMethod ({ cls := "RoadOfDoorsModel", name := "traveller", desc := "(I)I" } : Jvm.MethodName)) ∈ tW := tW_t (i := 1245) (by decide +kernel) rfl
theorem w_1246 : (Jvm.Cond.selects "RoadOfDoorsModel" ({ cls := "RoadOfDoorsModel", name := "traveller", desc := "(I)I" } : Jvm.MethodName) ({ cls := "RoadOfDoorsModel", name := "traveller", desc := "(I)I" } : Jvm.MethodName)) ∈ tW := tW_t (i := 1246) (by decide +kernel) rfl
theorem w_1248 : (Jvm.Cond.methodLink "RoadOfDoorsLaw" (97 : Nat) ({ cls := "RoadOfDoorsModel", name := "way", desc := "(IIIIIZI)I" } : Jvm.MethodName)) ∈ tW := tW_t (i := 1248) (by decide +kernel) rfl
theorem w_1249 : (Jvm.Cond.instanceMethod ({ cls := "RoadOfDoorsModel", name := "way", desc := "(IIIIIZI)I" } : Jvm.MethodName)) ∈ tW := tW_t (i := 1249) (by decide +kernel) rfl
theorem w_1250 : (Jvm.Cond.selects "RoadOfDoorsModel" ({ cls := "RoadOfDoorsModel", name := "way", desc := "(IIIIIZI)I" } : Jvm.MethodName) ({ cls := "RoadOfDoorsModel", name := "way", desc := "(IIIIIZI)I" } : Jvm.MethodName)) ∈ tW := tW_t (i := 1250) (by decide +kernel) rfl
theorem w_1285 : (Jvm.Cond.methodLink "RoadOfDoorsLaw" (102 : Nat) ({ cls := "RoadOfDoorsModel", name := "guest", desc := "(IIII)I" } : Jvm.MethodName)) ∈ tW := tW_t (i := 1285) (by decide +kernel) rfl
theorem w_1286 : (Jvm.Cond.instanceMethod ({ cls := "RoadOfDoorsModel", name := "guest", desc := "(IIII)I" } : Jvm.MethodName)) ∈ tW := tW_t (i := 1286) (by decide +kernel) rfl
theorem w_1287 : (Jvm.Cond.selects "RoadOfDoorsModel" ({ cls := "RoadOfDoorsModel", name := "guest", desc := "(IIII)I" } : Jvm.MethodName) ({ cls := "RoadOfDoorsModel", name := "guest", desc := "(IIII)I" } : Jvm.MethodName)) ∈ tW := tW_t (i := 1287) (by decide +kernel) rfl
theorem w_1289 : (Jvm.Cond.methodLink "RoadOfDoorsLaw" (106 : Nat) ({ cls := "RoadOfDoorsModel", name := "clear", desc := "()I" } : Jvm.MethodName)) ∈ tW := tW_t (i := 1289) (by decide +kernel) rfl
theorem w_1290 : (Jvm.Cond.instanceMethod ({ cls := "RoadOfDoorsModel", name := "clear", desc := "()I" } : Jvm.MethodName)) ∈ tW := tW_t (i := 1290) (by decide +kernel) rfl
theorem w_1291 : (Jvm.Cond.selects "RoadOfDoorsModel" ({ cls := "RoadOfDoorsModel", name := "clear", desc := "()I" } : Jvm.MethodName) ({ cls := "RoadOfDoorsModel", name := "clear", desc := "()I" } : Jvm.MethodName)) ∈ tW := tW_t (i := 1291) (by decide +kernel) rfl
theorem w_1293 : (Jvm.Cond.methodLink "RoadOfDoorsLaw" (110 : Nat) ({ cls := "RoadOfDoorsModel", name := "earns", desc := "(I)I" } : Jvm.MethodName)) ∈ tW := tW_t (i := 1293) (by decide +kernel) rfl
theorem w_1294 : (Jvm.Cond.instanceMethod ({ cls := "RoadOfDoorsModel", name := "earns", desc := "(I)I" } : Jvm.MethodName)) ∈ tW := tW_t (i := 1294) (by decide +kernel) rfl
theorem w_1295 : (Jvm.Cond.selects "RoadOfDoorsModel" ({ cls := "RoadOfDoorsModel", name := "earns", desc := "(I)I" } : Jvm.MethodName) ({ cls := "RoadOfDoorsModel", name := "earns", desc := "(I)I" } : Jvm.MethodName)) ∈ tW := tW_t (i := 1295) (by decide +kernel) rfl
theorem w_1305 : (Jvm.Cond.methodLink "RoadOfDoorsLaw" (114 : Nat) ({ cls := "RoadOfDoorsModel", name := "even", desc := "()I" } : Jvm.MethodName)) ∈ tW := tW_t (i := 1305) (by decide +kernel) rfl
theorem w_1306 : (Jvm.Cond.instanceMethod ({ cls := "RoadOfDoorsModel", name := "even", desc := "()I" } : Jvm.MethodName)) ∈ tW := tW_t (i := 1306) (by decide +kernel) rfl
theorem w_1307 : (Jvm.Cond.selects "RoadOfDoorsModel" ({ cls := "RoadOfDoorsModel", name := "even", desc := "()I" } : Jvm.MethodName) ({ cls := "RoadOfDoorsModel", name := "even", desc := "()I" } : Jvm.MethodName)) ∈ tW := tW_t (i := 1307) (by decide +kernel) rfl
theorem w_1313 : (Jvm.Cond.methodLink "RoadOfDoorsLaw" (118 : Nat) ({ cls := "RoadOfDoorsModel", name := "rounds", desc := "(I)I" } : Jvm.MethodName)) ∈ tW := tW_t (i := 1313) (by decide +kernel) rfl
theorem w_1314 : (Jvm.Cond.instanceMethod ({ cls := "RoadOfDoorsModel", name := "rounds", desc := "(I)I" } : Jvm.MethodName)) ∈ tW := tW_t (i := 1314) (by decide +kernel) rfl
theorem w_1315 : (Jvm.Cond.selects "RoadOfDoorsModel" ({ cls := "RoadOfDoorsModel", name := "rounds", desc := "(I)I" } : Jvm.MethodName) ({ cls := "RoadOfDoorsModel", name := "rounds", desc := "(I)I" } : Jvm.MethodName)) ∈ tW := tW_t (i := 1315) (by decide +kernel) rfl
theorem w_1317 : (Jvm.Cond.methodLink "RoadOfDoorsLaw" (123 : Nat) ({ cls := "RoadOfDoorsModel", name := "seen", desc := "(IIIIIZ)I" } : Jvm.MethodName)) ∈ tW := tW_t (i := 1317) (by decide +kernel) rfl
theorem w_1318 : (Jvm.Cond.instanceMethod ({ cls := "RoadOfDoorsModel", name := "seen", desc := "(IIIIIZ)I" } : Jvm.MethodName)) ∈ tW := tW_t (i := 1318) (by decide +kernel) rfl
theorem w_1319 : (Jvm.Cond.selects "RoadOfDoorsModel" ({ cls := "RoadOfDoorsModel", name := "seen", desc := "(IIIIIZ)I" } : Jvm.MethodName) ({ cls := "RoadOfDoorsModel", name := "seen", desc := "(IIIIIZ)I" } : Jvm.MethodName)) ∈ tW := tW_t (i := 1319) (by decide +kernel) rfl
theorem w_1321 : (Jvm.Cond.methodLink "RoadOfDoorsLaw" (127 : Nat) ({ cls := "RoadOfDoorsModel", name := "kept", desc := "(II)I" } : Jvm.MethodName)) ∈ tW := tW_t (i := 1321) (by decide +kernel) rfl
theorem w_1322 : (Jvm.Cond.instanceMethod ({ cls := "RoadOfDoorsModel", name := "kept", desc := "(II)I" } : Jvm.MethodName)) ∈ tW := tW_t (i := 1322) (by decide +kernel) rfl
theorem w_1323 : (Jvm.Cond.selects "RoadOfDoorsModel" ({ cls := "RoadOfDoorsModel", name := "kept", desc := "(II)I" } : Jvm.MethodName) ({ cls := "RoadOfDoorsModel", name := "kept", desc := "(II)I" } : Jvm.MethodName)) ∈ tW := tW_t (i := 1323) (by decide +kernel) rfl
theorem w_1329 : (Jvm.Cond.methodLink "RoadOfDoorsLaw" (131 : Nat) ({ cls := "RoadOfDoorsModel", name := "image", desc := "()I" } : Jvm.MethodName)) ∈ tW := tW_t (i := 1329) (by decide +kernel) rfl
theorem w_1330 : (Jvm.Cond.instanceMethod ({ cls := "RoadOfDoorsModel", name := "image", desc := "()I" } : Jvm.MethodName)) ∈ tW := tW_t (i := 1330) (by decide +kernel) rfl
theorem w_1331 : (Jvm.Cond.selects "RoadOfDoorsModel" ({ cls := "RoadOfDoorsModel", name := "image", desc := "()I" } : Jvm.MethodName) ({ cls := "RoadOfDoorsModel", name := "image", desc := "()I" } : Jvm.MethodName)) ∈ tW := tW_t (i := 1331) (by decide +kernel) rfl
theorem w_1333 : (Jvm.Cond.methodLink "RoadOfDoorsLaw" (135 : Nat) ({ cls := "RoadOfDoorsModel", name := "back", desc := "()I" } : Jvm.MethodName)) ∈ tW := tW_t (i := 1333) (by decide +kernel) rfl
theorem w_1334 : (Jvm.Cond.instanceMethod ({ cls := "RoadOfDoorsModel", name := "back", desc := "()I" } : Jvm.MethodName)) ∈ tW := tW_t (i := 1334) (by decide +kernel) rfl
theorem w_1335 : (Jvm.Cond.selects "RoadOfDoorsModel" ({ cls := "RoadOfDoorsModel", name := "back", desc := "()I" } : Jvm.MethodName) ({ cls := "RoadOfDoorsModel", name := "back", desc := "()I" } : Jvm.MethodName)) ∈ tW := tW_t (i := 1335) (by decide +kernel) rfl
theorem w_1337 : (Jvm.Cond.methodLink "RoadOfDoorsLaw" (139 : Nat) ({ cls := "RoadOfDoorsModel", name := "about", desc := "(I)I" } : Jvm.MethodName)) ∈ tW := tW_t (i := 1337) (by decide +kernel) rfl
theorem w_1338 : (Jvm.Cond.instanceMethod ({ cls := "RoadOfDoorsModel", name := "about", desc := "(I)I" } : Jvm.MethodName)) ∈ tW := tW_t (i := 1338) (by decide +kernel) rfl
theorem w_1339 : (Jvm.Cond.selects "RoadOfDoorsModel" ({ cls := "RoadOfDoorsModel", name := "about", desc := "(I)I" } : Jvm.MethodName) ({ cls := "RoadOfDoorsModel", name := "about", desc := "(I)I" } : Jvm.MethodName)) ∈ tW := tW_t (i := 1339) (by decide +kernel) rfl
theorem kc_X8_rain : Cond.code yX8_rain cX8_rain 3 (some .boolean) ∈ tW := tW_t (i := 373) (by decide +kernel) rfl
theorem kc_X9_rain : Cond.code yX9_rain cX9_rain 3 (some .boolean) ∈ tW := tW_t (i := 1021) (by decide +kernel) rfl
theorem kc_X8_mood : Cond.code yX8_mood cX8_mood 3 (some .boolean) ∈ tW := tW_t (i := 395) (by decide +kernel) rfl
theorem kc_X9_mood : Cond.code yX9_mood cX9_mood 3 (some .boolean) ∈ tW := tW_t (i := 1031) (by decide +kernel) rfl
theorem kc_X8_moods : Cond.code yX8_moods cX8_moods 4 (some .int) ∈ tW := tW_t (i := 403) (by decide +kernel) rfl
theorem kc_X9_moods : Cond.code yX9_moods cX9_moods 4 (some .int) ∈ tW := tW_t (i := 1039) (by decide +kernel) rfl
theorem kc_X8_hinge : Cond.code yX8_hinge cX8_hinge 3 (some .boolean) ∈ tW := tW_t (i := 407) (by decide +kernel) rfl
theorem kc_X9_hinge : Cond.code yX9_hinge cX9_hinge 3 (some .boolean) ∈ tW := tW_t (i := 1043) (by decide +kernel) rfl
theorem kc_X8_feed : Cond.code yX8_feed cX8_feed 6 (some .int) ∈ tW := tW_t (i := 411) (by decide +kernel) rfl
theorem kc_X9_feed : Cond.code yX9_feed cX9_feed 6 (some .int) ∈ tW := tW_t (i := 1047) (by decide +kernel) rfl
theorem kc_X8_end : Cond.code yX8_end cX8_end 2 (some .int) ∈ tW := tW_t (i := 419) (by decide +kernel) rfl
theorem kc_X9_end : Cond.code yX9_end cX9_end 2 (some .int) ∈ tW := tW_t (i := 1055) (by decide +kernel) rfl
theorem kc_X8_text : Cond.code yX8_text cX8_text 3 (some .int) ∈ tW := tW_t (i := 423) (by decide +kernel) rfl
theorem kc_X9_text : Cond.code yX9_text cX9_text 1 (some .int) ∈ tW := tW_t (i := 1059) (by decide +kernel) rfl
theorem kc_X8_fault : Cond.code yX8_fault cX8_fault 2 (some .int) ∈ tW := tW_t (i := 633) (by decide +kernel) rfl
theorem kc_X9_fault : Cond.code yX9_fault cX9_fault 2 (some .int) ∈ tW := tW_t (i := 1167) (by decide +kernel) rfl
theorem kc_X8_keep : Cond.code yX8_keep cX8_keep 3 (some .boolean) ∈ tW := tW_t (i := 637) (by decide +kernel) rfl
theorem kc_X9_keep : Cond.code yX9_keep cX9_keep 3 (some .boolean) ∈ tW := tW_t (i := 1171) (by decide +kernel) rfl
theorem kc_X8_opens : Cond.code yX8_opens cX8_opens 7 (some .boolean) ∈ tW := tW_t (i := 641) (by decide +kernel) rfl
theorem kc_X8_sets : Cond.code yX8_sets cX8_sets 5 (some .boolean) ∈ tW := tW_t (i := 672) (by decide +kernel) rfl
theorem kc_X9_sets : Cond.code yX9_sets cX9_sets 5 (some .boolean) ∈ tW := tW_t (i := 1205) (by decide +kernel) rfl
theorem kc_X8_knock : Cond.code yX8_knock cX8_knock 3 (some .int) ∈ tW := tW_t (i := 684) (by decide +kernel) rfl
theorem kc_X8_later : Cond.code yX8_later cX8_later 2 (some .int) ∈ tW := tW_t (i := 715) (by decide +kernel) rfl
theorem kc_X8_played : Cond.code yX8_played cX8_played 4 (some .int) ∈ tW := tW_t (i := 727) (by decide +kernel) rfl
theorem kc_X9_played : Cond.code yX9_played cX9_played 3 (some .int) ∈ tW := tW_t (i := 1237) (by decide +kernel) rfl
theorem kc_X8_undo : Cond.code yX8_undo cX8_undo 1 (some .int) ∈ tW := tW_t (i := 735) (by decide +kernel) rfl
theorem kc_X9_undo : Cond.code yX9_undo cX9_undo 2 (some .int) ∈ tW := tW_t (i := 1213) (by decide +kernel) rfl
theorem kc_X8_traveller : Cond.code yX8_traveller cX8_traveller 3 (some .int) ∈ tW := tW_t (i := 744) (by decide +kernel) rfl
theorem kc_X9_traveller : Cond.code yX9_traveller cX9_traveller 2 (some .int) ∈ tW := tW_t (i := 1247) (by decide +kernel) rfl
theorem kc_X8_way : Cond.code yX8_way cX8_way 9 (some .int) ∈ tW := tW_t (i := 748) (by decide +kernel) rfl
theorem kc_X9_way : Cond.code yX9_way cX9_way 9 (some .int) ∈ tW := tW_t (i := 1251) (by decide +kernel) rfl
theorem kc_X8_guest : Cond.code yX8_guest cX8_guest 5 (some .int) ∈ tW := tW_t (i := 814) (by decide +kernel) rfl
theorem kc_X9_guest : Cond.code yX9_guest cX9_guest 6 (some .int) ∈ tW := tW_t (i := 1288) (by decide +kernel) rfl
theorem kc_X8_clear : Cond.code yX8_clear cX8_clear 2 (some .int) ∈ tW := tW_t (i := 823) (by decide +kernel) rfl
theorem kc_X9_clear : Cond.code yX9_clear cX9_clear 2 (some .int) ∈ tW := tW_t (i := 1292) (by decide +kernel) rfl
theorem kc_X8_earns : Cond.code yX8_earns cX8_earns 2 (some .int) ∈ tW := tW_t (i := 827) (by decide +kernel) rfl
theorem kc_X9_earns : Cond.code yX9_earns cX9_earns 2 (some .int) ∈ tW := tW_t (i := 1296) (by decide +kernel) rfl
theorem kc_X8_even : Cond.code yX8_even cX8_even 1 (some .int) ∈ tW := tW_t (i := 848) (by decide +kernel) rfl
theorem kc_X9_even : Cond.code yX9_even cX9_even 2 (some .int) ∈ tW := tW_t (i := 1308) (by decide +kernel) rfl
theorem kc_X8_rounds : Cond.code yX8_rounds cX8_rounds 3 (some .int) ∈ tW := tW_t (i := 860) (by decide +kernel) rfl
theorem kc_X9_rounds : Cond.code yX9_rounds cX9_rounds 6 (some .int) ∈ tW := tW_t (i := 1316) (by decide +kernel) rfl
theorem kc_X8_seen : Cond.code yX8_seen cX8_seen 8 (some .int) ∈ tW := tW_t (i := 876) (by decide +kernel) rfl
theorem kc_X9_seen : Cond.code yX9_seen cX9_seen 8 (some .int) ∈ tW := tW_t (i := 1320) (by decide +kernel) rfl
theorem kc_X8_kept : Cond.code yX8_kept cX8_kept 5 (some .int) ∈ tW := tW_t (i := 880) (by decide +kernel) rfl
theorem kc_X9_kept : Cond.code yX9_kept cX9_kept 5 (some .int) ∈ tW := tW_t (i := 1324) (by decide +kernel) rfl
theorem kc_X8_image : Cond.code yX8_image cX8_image 1 (some .int) ∈ tW := tW_t (i := 888) (by decide +kernel) rfl
theorem kc_X9_image : Cond.code yX9_image cX9_image 1 (some .int) ∈ tW := tW_t (i := 1332) (by decide +kernel) rfl
theorem kc_X8_back : Cond.code yX8_back cX8_back 1 (some .int) ∈ tW := tW_t (i := 901) (by decide +kernel) rfl
theorem kc_X9_back : Cond.code yX9_back cX9_back 1 (some .int) ∈ tW := tW_t (i := 1336) (by decide +kernel) rfl
theorem kc_X8_about : Cond.code yX8_about cX8_about 2 (some .int) ∈ tW := tW_t (i := 905) (by decide +kernel) rfl
theorem kc_X9_about : Cond.code yX9_about cX9_about 2 (some .int) ∈ tW := tW_t (i := 1340) (by decide +kernel) rfl
theorem kc_L_cell : Cond.code yL_cell cL_cell 2 (some .int) ∈ tW := tW_t (i := 912) (by decide +kernel) rfl
theorem kc_X8_init : Cond.code yX8_init cX8_init 8 none ∈ tW := tW_t (i := 22) (by decide +kernel) rfl
theorem kc_X9_init : Cond.code yX9_init cX9_init 3 none ∈ tW := tW_t (i := 917) (by decide +kernel) rfl
theorem jy_L_cell : jyes yL_cell 2 := by unfold jyes; decide +kernel
theorem jy_X8_about : jyes yX8_about 1 := by unfold jyes; decide +kernel
theorem jy_X8_back : jyes yX8_back 0 := by unfold jyes; decide +kernel
theorem jy_X8_clear : jyes yX8_clear 0 := by unfold jyes; decide +kernel
theorem jy_X8_earns : jyes yX8_earns 1 := by unfold jyes; decide +kernel
theorem jy_X8_end : jyes yX8_end 1 := by unfold jyes; decide +kernel
theorem jy_X8_even : jyes yX8_even 0 := by unfold jyes; decide +kernel
theorem jy_X8_fault : jyes yX8_fault 1 := by unfold jyes; decide +kernel
theorem jy_X8_feed : jyes yX8_feed 5 := by unfold jyes; decide +kernel
theorem jy_X8_guest : jyes yX8_guest 4 := by unfold jyes; decide +kernel
theorem jy_X8_hinge : jyes yX8_hinge 2 := by unfold jyes; decide +kernel
theorem jy_X8_image : jyes yX8_image 0 := by unfold jyes; decide +kernel
theorem jy_X8_init : jyes yX8_init 1 := by unfold jyes; decide +kernel
theorem jy_X8_keep : jyes yX8_keep 2 := by unfold jyes; decide +kernel
theorem jy_X8_kept : jyes yX8_kept 2 := by unfold jyes; decide +kernel
theorem jy_X8_knock : jyes yX8_knock 2 := by unfold jyes; decide +kernel
theorem jy_X8_later : jyes yX8_later 1 := by unfold jyes; decide +kernel
theorem jy_X8_mood : jyes yX8_mood 2 := by unfold jyes; decide +kernel
theorem jy_X8_moods : jyes yX8_moods 1 := by unfold jyes; decide +kernel
theorem jy_X8_opens : jyes yX8_opens 6 := by unfold jyes; decide +kernel
theorem jy_X8_played : jyes yX8_played 1 := by unfold jyes; decide +kernel
theorem jy_X8_rain : jyes yX8_rain 2 := by unfold jyes; decide +kernel
theorem jy_X8_rounds : jyes yX8_rounds 1 := by unfold jyes; decide +kernel
theorem jy_X8_seen : jyes yX8_seen 6 := by unfold jyes; decide +kernel
theorem jy_X8_sets : jyes yX8_sets 4 := by unfold jyes; decide +kernel
theorem jy_X8_text : jyes yX8_text 0 := by unfold jyes; decide +kernel
theorem jy_X8_traveller : jyes yX8_traveller 1 := by unfold jyes; decide +kernel
theorem jy_X8_undo : jyes yX8_undo 0 := by unfold jyes; decide +kernel
theorem jy_X8_way : jyes yX8_way 7 := by unfold jyes; decide +kernel
theorem jy_X9_about : jyes yX9_about 1 := by unfold jyes; decide +kernel
theorem jy_X9_back : jyes yX9_back 0 := by unfold jyes; decide +kernel
theorem jy_X9_clear : jyes yX9_clear 0 := by unfold jyes; decide +kernel
theorem jy_X9_earns : jyes yX9_earns 1 := by unfold jyes; decide +kernel
theorem jy_X9_end : jyes yX9_end 1 := by unfold jyes; decide +kernel
theorem jy_X9_even : jyes yX9_even 0 := by unfold jyes; decide +kernel
theorem jy_X9_fault : jyes yX9_fault 1 := by unfold jyes; decide +kernel
theorem jy_X9_feed : jyes yX9_feed 5 := by unfold jyes; decide +kernel
theorem jy_X9_guest : jyes yX9_guest 4 := by unfold jyes; decide +kernel
theorem jy_X9_hinge : jyes yX9_hinge 2 := by unfold jyes; decide +kernel
theorem jy_X9_image : jyes yX9_image 0 := by unfold jyes; decide +kernel
theorem jy_X9_init : jyes yX9_init 1 := by unfold jyes; decide +kernel
theorem jy_X9_keep : jyes yX9_keep 2 := by unfold jyes; decide +kernel
theorem jy_X9_kept : jyes yX9_kept 2 := by unfold jyes; decide +kernel
theorem jy_X9_mood : jyes yX9_mood 2 := by unfold jyes; decide +kernel
theorem jy_X9_moods : jyes yX9_moods 1 := by unfold jyes; decide +kernel
theorem jy_X9_played : jyes yX9_played 1 := by unfold jyes; decide +kernel
theorem jy_X9_rain : jyes yX9_rain 2 := by unfold jyes; decide +kernel
theorem jy_X9_rounds : jyes yX9_rounds 1 := by unfold jyes; decide +kernel
theorem jy_X9_seen : jyes yX9_seen 6 := by unfold jyes; decide +kernel
theorem jy_X9_sets : jyes yX9_sets 4 := by unfold jyes; decide +kernel
theorem jy_X9_text : jyes yX9_text 0 := by unfold jyes; decide +kernel
theorem jy_X9_traveller : jyes yX9_traveller 1 := by unfold jyes; decide +kernel
theorem jy_X9_undo : jyes yX9_undo 0 := by unfold jyes; decide +kernel
theorem jy_X9_way : jyes yX9_way 7 := by unfold jyes; decide +kernel
theorem dL_law_0 : decode cL_law 0 = .ok (.new 7, 3) := by decide +kernel
theorem dL_law_3 : decode cL_law 3 = .ok (.dup, 1) := by decide +kernel
theorem dL_law_4 : decode cL_law 4 = .ok (.aload_n 0, 1) := by decide +kernel
theorem dL_law_5 : decode cL_law 5 = .ok (.iconst 0, 1) := by decide +kernel
theorem dL_law_6 : decode cL_law 6 = .ok (.invokestatic 9, 3) := by decide +kernel
theorem dL_law_9 : decode cL_law 9 = .ok (.invokespecial 15, 3) := by decide +kernel
theorem dL_law_12 : decode cL_law 12 = .ok (.astore_n 1, 1) := by decide +kernel
theorem dL_law_13 : decode cL_law 13 = .ok (.new 18, 3) := by decide +kernel
theorem dL_law_16 : decode cL_law 16 = .ok (.dup, 1) := by decide +kernel
theorem dL_law_17 : decode cL_law 17 = .ok (.aload_n 0, 1) := by decide +kernel
theorem dL_law_18 : decode cL_law 18 = .ok (.iconst 0, 1) := by decide +kernel
theorem dL_law_19 : decode cL_law 19 = .ok (.invokestatic 9, 3) := by decide +kernel
theorem dL_law_22 : decode cL_law 22 = .ok (.invokespecial 20, 3) := by decide +kernel
theorem dL_law_25 : decode cL_law 25 = .ok (.astore_n 2, 1) := by decide +kernel
theorem dL_law_26 : decode cL_law 26 = .ok (.iconst 1, 1) := by decide +kernel
theorem dL_law_27 : decode cL_law 27 = .ok (.istore_n 3, 1) := by decide +kernel
theorem dL_law_28 : decode cL_law 28 = .ok (.iload_n 3, 1) := by decide +kernel
theorem dL_law_29 : decode cL_law 29 = .ok (.aload_n 0, 1) := by decide +kernel
theorem dL_law_30 : decode cL_law 30 = .ok (.arraylength, 1) := by decide +kernel
theorem dL_law_31 : decode cL_law 31 = .ok (.bipush 8, 2) := by decide +kernel
theorem dL_law_33 : decode cL_law 33 = .ok (.isub, 1) := by decide +kernel
theorem dL_law_34 : decode cL_law 34 = .ok (.if_icmp .gt 1073, 3) := by decide +kernel
theorem dL_law_37 : decode cL_law 37 = .ok (.aload_n 0, 1) := by decide +kernel
theorem dL_law_38 : decode cL_law 38 = .ok (.iload_n 3, 1) := by decide +kernel
theorem dL_law_39 : decode cL_law 39 = .ok (.iaload, 1) := by decide +kernel
theorem dL_law_40 : decode cL_law 40 = .ok (.bipush 31, 2) := by decide +kernel
theorem dL_law_42 : decode cL_law 42 = .ok (.iand, 1) := by decide +kernel
theorem dL_law_43 : decode cL_law 43 = .ok (.tableswitch 1058 0 26 #[121, 154, 187, 210, 259, 322, 345, 358, 381, 414, 489, 542, 575, 598, 621, 634, 657, 760, 813, 826, 849, 862, 885, 976, 1009, 1022, 1035], 121) := by decide +kernel
theorem dL_law_164 : decode cL_law 164 = .ok (.aload_n 1, 1) := by decide +kernel
theorem dL_law_165 : decode cL_law 165 = .ok (.aload_n 0, 1) := by decide +kernel
theorem dL_law_166 : decode cL_law 166 = .ok (.iload_n 3, 1) := by decide +kernel
theorem dL_law_167 : decode cL_law 167 = .ok (.iconst 1, 1) := by decide +kernel
theorem dL_law_168 : decode cL_law 168 = .ok (.iadd, 1) := by decide +kernel
theorem dL_law_169 : decode cL_law 169 = .ok (.iaload, 1) := by decide +kernel
theorem dL_law_170 : decode cL_law 170 = .ok (.aload_n 0, 1) := by decide +kernel
theorem dL_law_171 : decode cL_law 171 = .ok (.iload_n 3, 1) := by decide +kernel
theorem dL_law_172 : decode cL_law 172 = .ok (.iconst 2, 1) := by decide +kernel
theorem dL_law_173 : decode cL_law 173 = .ok (.iadd, 1) := by decide +kernel
theorem dL_law_174 : decode cL_law 174 = .ok (.iaload, 1) := by decide +kernel
theorem dL_law_175 : decode cL_law 175 = .ok (.invokevirtual 21, 3) := by decide +kernel
theorem dL_law_178 : decode cL_law 178 = .ok (.aload_n 2, 1) := by decide +kernel
theorem dL_law_179 : decode cL_law 179 = .ok (.aload_n 0, 1) := by decide +kernel
theorem dL_law_180 : decode cL_law 180 = .ok (.iload_n 3, 1) := by decide +kernel
theorem dL_law_181 : decode cL_law 181 = .ok (.iconst 1, 1) := by decide +kernel
theorem dL_law_182 : decode cL_law 182 = .ok (.iadd, 1) := by decide +kernel
theorem dL_law_183 : decode cL_law 183 = .ok (.iaload, 1) := by decide +kernel
theorem dL_law_184 : decode cL_law 184 = .ok (.aload_n 0, 1) := by decide +kernel
theorem dL_law_185 : decode cL_law 185 = .ok (.iload_n 3, 1) := by decide +kernel
theorem dL_law_186 : decode cL_law 186 = .ok (.iconst 2, 1) := by decide +kernel
theorem dL_law_187 : decode cL_law 187 = .ok (.iadd, 1) := by decide +kernel
theorem dL_law_188 : decode cL_law 188 = .ok (.iaload, 1) := by decide +kernel
theorem dL_law_189 : decode cL_law 189 = .ok (.invokevirtual 25, 3) := by decide +kernel
theorem dL_law_192 : decode cL_law 192 = .ok (.if_icmp .eq 909, 3) := by decide +kernel
theorem dL_law_195 : decode cL_law 195 = .ok (.iconst 0, 1) := by decide +kernel
theorem dL_law_196 : decode cL_law 196 = .ok (.ireturn, 1) := by decide +kernel
theorem dL_law_197 : decode cL_law 197 = .ok (.aload_n 1, 1) := by decide +kernel
theorem dL_law_198 : decode cL_law 198 = .ok (.aload_n 0, 1) := by decide +kernel
theorem dL_law_199 : decode cL_law 199 = .ok (.iload_n 3, 1) := by decide +kernel
theorem dL_law_200 : decode cL_law 200 = .ok (.iconst 1, 1) := by decide +kernel
theorem dL_law_201 : decode cL_law 201 = .ok (.iadd, 1) := by decide +kernel
theorem dL_law_202 : decode cL_law 202 = .ok (.iaload, 1) := by decide +kernel
theorem dL_law_203 : decode cL_law 203 = .ok (.aload_n 0, 1) := by decide +kernel
theorem dL_law_204 : decode cL_law 204 = .ok (.iload_n 3, 1) := by decide +kernel
theorem dL_law_205 : decode cL_law 205 = .ok (.iconst 2, 1) := by decide +kernel
theorem dL_law_206 : decode cL_law 206 = .ok (.iadd, 1) := by decide +kernel
theorem dL_law_207 : decode cL_law 207 = .ok (.iaload, 1) := by decide +kernel
theorem dL_law_208 : decode cL_law 208 = .ok (.invokevirtual 26, 3) := by decide +kernel
theorem dL_law_211 : decode cL_law 211 = .ok (.aload_n 2, 1) := by decide +kernel
theorem dL_law_212 : decode cL_law 212 = .ok (.aload_n 0, 1) := by decide +kernel
theorem dL_law_213 : decode cL_law 213 = .ok (.iload_n 3, 1) := by decide +kernel
theorem dL_law_214 : decode cL_law 214 = .ok (.iconst 1, 1) := by decide +kernel
theorem dL_law_215 : decode cL_law 215 = .ok (.iadd, 1) := by decide +kernel
theorem dL_law_216 : decode cL_law 216 = .ok (.iaload, 1) := by decide +kernel
theorem dL_law_217 : decode cL_law 217 = .ok (.aload_n 0, 1) := by decide +kernel
theorem dL_law_218 : decode cL_law 218 = .ok (.iload_n 3, 1) := by decide +kernel
theorem dL_law_219 : decode cL_law 219 = .ok (.iconst 2, 1) := by decide +kernel
theorem dL_law_220 : decode cL_law 220 = .ok (.iadd, 1) := by decide +kernel
theorem dL_law_221 : decode cL_law 221 = .ok (.iaload, 1) := by decide +kernel
theorem dL_law_222 : decode cL_law 222 = .ok (.invokevirtual 29, 3) := by decide +kernel
theorem dL_law_225 : decode cL_law 225 = .ok (.if_icmp .eq 876, 3) := by decide +kernel
theorem dL_law_228 : decode cL_law 228 = .ok (.iconst 0, 1) := by decide +kernel
theorem dL_law_229 : decode cL_law 229 = .ok (.ireturn, 1) := by decide +kernel
theorem dL_law_230 : decode cL_law 230 = .ok (.aload_n 1, 1) := by decide +kernel
theorem dL_law_231 : decode cL_law 231 = .ok (.aload_n 0, 1) := by decide +kernel
theorem dL_law_232 : decode cL_law 232 = .ok (.iload_n 3, 1) := by decide +kernel
theorem dL_law_233 : decode cL_law 233 = .ok (.iconst 1, 1) := by decide +kernel
theorem dL_law_234 : decode cL_law 234 = .ok (.iadd, 1) := by decide +kernel
theorem dL_law_235 : decode cL_law 235 = .ok (.iaload, 1) := by decide +kernel
theorem dL_law_236 : decode cL_law 236 = .ok (.invokevirtual 30, 3) := by decide +kernel
theorem dL_law_239 : decode cL_law 239 = .ok (.aload_n 2, 1) := by decide +kernel
theorem dL_law_240 : decode cL_law 240 = .ok (.aload_n 0, 1) := by decide +kernel
theorem dL_law_241 : decode cL_law 241 = .ok (.iload_n 3, 1) := by decide +kernel
theorem dL_law_242 : decode cL_law 242 = .ok (.iconst 1, 1) := by decide +kernel
theorem dL_law_243 : decode cL_law 243 = .ok (.iadd, 1) := by decide +kernel
theorem dL_law_244 : decode cL_law 244 = .ok (.iaload, 1) := by decide +kernel
theorem dL_law_245 : decode cL_law 245 = .ok (.invokevirtual 34, 3) := by decide +kernel
theorem dL_law_248 : decode cL_law 248 = .ok (.if_icmp .eq 853, 3) := by decide +kernel
theorem dL_law_251 : decode cL_law 251 = .ok (.iconst 0, 1) := by decide +kernel
theorem dL_law_252 : decode cL_law 252 = .ok (.ireturn, 1) := by decide +kernel
theorem dL_law_253 : decode cL_law 253 = .ok (.aload_n 1, 1) := by decide +kernel
theorem dL_law_254 : decode cL_law 254 = .ok (.aload_n 0, 1) := by decide +kernel
theorem dL_law_255 : decode cL_law 255 = .ok (.iload_n 3, 1) := by decide +kernel
theorem dL_law_256 : decode cL_law 256 = .ok (.iconst 1, 1) := by decide +kernel
theorem dL_law_257 : decode cL_law 257 = .ok (.iadd, 1) := by decide +kernel
theorem dL_law_258 : decode cL_law 258 = .ok (.iaload, 1) := by decide +kernel
theorem dL_law_259 : decode cL_law 259 = .ok (.aload_n 0, 1) := by decide +kernel
theorem dL_law_260 : decode cL_law 260 = .ok (.iload_n 3, 1) := by decide +kernel
theorem dL_law_261 : decode cL_law 261 = .ok (.iconst 2, 1) := by decide +kernel
theorem dL_law_262 : decode cL_law 262 = .ok (.iadd, 1) := by decide +kernel
theorem dL_law_263 : decode cL_law 263 = .ok (.iaload, 1) := by decide +kernel
theorem dL_law_264 : decode cL_law 264 = .ok (.ifCond .eq 7, 3) := by decide +kernel
theorem dL_law_267 : decode cL_law 267 = .ok (.iconst 1, 1) := by decide +kernel
theorem dL_law_268 : decode cL_law 268 = .ok (.goto 4, 3) := by decide +kernel
theorem dL_law_271 : decode cL_law 271 = .ok (.iconst 0, 1) := by decide +kernel
theorem dL_law_272 : decode cL_law 272 = .ok (.invokevirtual 35, 3) := by decide +kernel
theorem dL_law_275 : decode cL_law 275 = .ok (.aload_n 2, 1) := by decide +kernel
theorem dL_law_276 : decode cL_law 276 = .ok (.aload_n 0, 1) := by decide +kernel
theorem dL_law_277 : decode cL_law 277 = .ok (.iload_n 3, 1) := by decide +kernel
theorem dL_law_278 : decode cL_law 278 = .ok (.iconst 1, 1) := by decide +kernel
theorem dL_law_279 : decode cL_law 279 = .ok (.iadd, 1) := by decide +kernel
theorem dL_law_280 : decode cL_law 280 = .ok (.iaload, 1) := by decide +kernel
theorem dL_law_281 : decode cL_law 281 = .ok (.aload_n 0, 1) := by decide +kernel
theorem dL_law_282 : decode cL_law 282 = .ok (.iload_n 3, 1) := by decide +kernel
theorem dL_law_283 : decode cL_law 283 = .ok (.iconst 2, 1) := by decide +kernel
theorem dL_law_284 : decode cL_law 284 = .ok (.iadd, 1) := by decide +kernel
theorem dL_law_285 : decode cL_law 285 = .ok (.iaload, 1) := by decide +kernel
theorem dL_law_286 : decode cL_law 286 = .ok (.ifCond .eq 7, 3) := by decide +kernel
theorem dL_law_289 : decode cL_law 289 = .ok (.iconst 1, 1) := by decide +kernel
theorem dL_law_290 : decode cL_law 290 = .ok (.goto 4, 3) := by decide +kernel
theorem dL_law_293 : decode cL_law 293 = .ok (.iconst 0, 1) := by decide +kernel
theorem dL_law_294 : decode cL_law 294 = .ok (.invokevirtual 39, 3) := by decide +kernel
theorem dL_law_297 : decode cL_law 297 = .ok (.if_icmp .eq 804, 3) := by decide +kernel
theorem dL_law_300 : decode cL_law 300 = .ok (.iconst 0, 1) := by decide +kernel
theorem dL_law_301 : decode cL_law 301 = .ok (.ireturn, 1) := by decide +kernel
theorem dL_law_302 : decode cL_law 302 = .ok (.aload_n 1, 1) := by decide +kernel
theorem dL_law_303 : decode cL_law 303 = .ok (.aload_n 0, 1) := by decide +kernel
theorem dL_law_304 : decode cL_law 304 = .ok (.iload_n 3, 1) := by decide +kernel
theorem dL_law_305 : decode cL_law 305 = .ok (.iconst 1, 1) := by decide +kernel
theorem dL_law_306 : decode cL_law 306 = .ok (.iadd, 1) := by decide +kernel
theorem dL_law_307 : decode cL_law 307 = .ok (.iaload, 1) := by decide +kernel
theorem dL_law_308 : decode cL_law 308 = .ok (.aload_n 0, 1) := by decide +kernel
theorem dL_law_309 : decode cL_law 309 = .ok (.iload_n 3, 1) := by decide +kernel
theorem dL_law_310 : decode cL_law 310 = .ok (.iconst 2, 1) := by decide +kernel
theorem dL_law_311 : decode cL_law 311 = .ok (.iadd, 1) := by decide +kernel
theorem dL_law_312 : decode cL_law 312 = .ok (.iaload, 1) := by decide +kernel
theorem dL_law_313 : decode cL_law 313 = .ok (.aload_n 0, 1) := by decide +kernel
theorem dL_law_314 : decode cL_law 314 = .ok (.iload_n 3, 1) := by decide +kernel
theorem dL_law_315 : decode cL_law 315 = .ok (.iconst 3, 1) := by decide +kernel
theorem dL_law_316 : decode cL_law 316 = .ok (.iadd, 1) := by decide +kernel
theorem dL_law_317 : decode cL_law 317 = .ok (.iaload, 1) := by decide +kernel
theorem dL_law_318 : decode cL_law 318 = .ok (.aload_n 0, 1) := by decide +kernel
theorem dL_law_319 : decode cL_law 319 = .ok (.iload_n 3, 1) := by decide +kernel
theorem dL_law_320 : decode cL_law 320 = .ok (.iconst 4, 1) := by decide +kernel
theorem dL_law_321 : decode cL_law 321 = .ok (.iadd, 1) := by decide +kernel
theorem dL_law_322 : decode cL_law 322 = .ok (.iaload, 1) := by decide +kernel
theorem dL_law_323 : decode cL_law 323 = .ok (.aload_n 0, 1) := by decide +kernel
theorem dL_law_324 : decode cL_law 324 = .ok (.iload_n 3, 1) := by decide +kernel
theorem dL_law_325 : decode cL_law 325 = .ok (.iconst 5, 1) := by decide +kernel
theorem dL_law_326 : decode cL_law 326 = .ok (.iadd, 1) := by decide +kernel
theorem dL_law_327 : decode cL_law 327 = .ok (.iaload, 1) := by decide +kernel
theorem dL_law_328 : decode cL_law 328 = .ok (.invokevirtual 40, 3) := by decide +kernel
theorem dL_law_331 : decode cL_law 331 = .ok (.aload_n 2, 1) := by decide +kernel
theorem dL_law_332 : decode cL_law 332 = .ok (.aload_n 0, 1) := by decide +kernel
theorem dL_law_333 : decode cL_law 333 = .ok (.iload_n 3, 1) := by decide +kernel
theorem dL_law_334 : decode cL_law 334 = .ok (.iconst 1, 1) := by decide +kernel
theorem dL_law_335 : decode cL_law 335 = .ok (.iadd, 1) := by decide +kernel
theorem dL_law_336 : decode cL_law 336 = .ok (.iaload, 1) := by decide +kernel
theorem dL_law_337 : decode cL_law 337 = .ok (.aload_n 0, 1) := by decide +kernel
theorem dL_law_338 : decode cL_law 338 = .ok (.iload_n 3, 1) := by decide +kernel
theorem dL_law_339 : decode cL_law 339 = .ok (.iconst 2, 1) := by decide +kernel
theorem dL_law_340 : decode cL_law 340 = .ok (.iadd, 1) := by decide +kernel
theorem dL_law_341 : decode cL_law 341 = .ok (.iaload, 1) := by decide +kernel
theorem dL_law_342 : decode cL_law 342 = .ok (.aload_n 0, 1) := by decide +kernel
theorem dL_law_343 : decode cL_law 343 = .ok (.iload_n 3, 1) := by decide +kernel
theorem dL_law_344 : decode cL_law 344 = .ok (.iconst 3, 1) := by decide +kernel
theorem dL_law_345 : decode cL_law 345 = .ok (.iadd, 1) := by decide +kernel
theorem dL_law_346 : decode cL_law 346 = .ok (.iaload, 1) := by decide +kernel
theorem dL_law_347 : decode cL_law 347 = .ok (.aload_n 0, 1) := by decide +kernel
theorem dL_law_348 : decode cL_law 348 = .ok (.iload_n 3, 1) := by decide +kernel
theorem dL_law_349 : decode cL_law 349 = .ok (.iconst 4, 1) := by decide +kernel
theorem dL_law_350 : decode cL_law 350 = .ok (.iadd, 1) := by decide +kernel
theorem dL_law_351 : decode cL_law 351 = .ok (.iaload, 1) := by decide +kernel
theorem dL_law_352 : decode cL_law 352 = .ok (.aload_n 0, 1) := by decide +kernel
theorem dL_law_353 : decode cL_law 353 = .ok (.iload_n 3, 1) := by decide +kernel
theorem dL_law_354 : decode cL_law 354 = .ok (.iconst 5, 1) := by decide +kernel
theorem dL_law_355 : decode cL_law 355 = .ok (.iadd, 1) := by decide +kernel
theorem dL_law_356 : decode cL_law 356 = .ok (.iaload, 1) := by decide +kernel
theorem dL_law_357 : decode cL_law 357 = .ok (.invokevirtual 44, 3) := by decide +kernel
theorem dL_law_360 : decode cL_law 360 = .ok (.if_icmp .eq 741, 3) := by decide +kernel
theorem dL_law_363 : decode cL_law 363 = .ok (.iconst 0, 1) := by decide +kernel
theorem dL_law_364 : decode cL_law 364 = .ok (.ireturn, 1) := by decide +kernel
theorem dL_law_365 : decode cL_law 365 = .ok (.aload_n 1, 1) := by decide +kernel
theorem dL_law_366 : decode cL_law 366 = .ok (.aload_n 0, 1) := by decide +kernel
theorem dL_law_367 : decode cL_law 367 = .ok (.iload_n 3, 1) := by decide +kernel
theorem dL_law_368 : decode cL_law 368 = .ok (.iconst 1, 1) := by decide +kernel
theorem dL_law_369 : decode cL_law 369 = .ok (.iadd, 1) := by decide +kernel
theorem dL_law_370 : decode cL_law 370 = .ok (.iaload, 1) := by decide +kernel
theorem dL_law_371 : decode cL_law 371 = .ok (.invokevirtual 45, 3) := by decide +kernel
theorem dL_law_374 : decode cL_law 374 = .ok (.aload_n 2, 1) := by decide +kernel
theorem dL_law_375 : decode cL_law 375 = .ok (.aload_n 0, 1) := by decide +kernel
theorem dL_law_376 : decode cL_law 376 = .ok (.iload_n 3, 1) := by decide +kernel
theorem dL_law_377 : decode cL_law 377 = .ok (.iconst 1, 1) := by decide +kernel
theorem dL_law_378 : decode cL_law 378 = .ok (.iadd, 1) := by decide +kernel
theorem dL_law_379 : decode cL_law 379 = .ok (.iaload, 1) := by decide +kernel
theorem dL_law_380 : decode cL_law 380 = .ok (.invokevirtual 48, 3) := by decide +kernel
theorem dL_law_383 : decode cL_law 383 = .ok (.if_icmp .eq 718, 3) := by decide +kernel
theorem dL_law_386 : decode cL_law 386 = .ok (.iconst 0, 1) := by decide +kernel
theorem dL_law_387 : decode cL_law 387 = .ok (.ireturn, 1) := by decide +kernel
theorem dL_law_388 : decode cL_law 388 = .ok (.aload_n 1, 1) := by decide +kernel
theorem dL_law_389 : decode cL_law 389 = .ok (.invokevirtual 49, 3) := by decide +kernel
theorem dL_law_392 : decode cL_law 392 = .ok (.aload_n 2, 1) := by decide +kernel
theorem dL_law_393 : decode cL_law 393 = .ok (.invokevirtual 53, 3) := by decide +kernel
theorem dL_law_396 : decode cL_law 396 = .ok (.if_icmp .eq 705, 3) := by decide +kernel
theorem dL_law_399 : decode cL_law 399 = .ok (.iconst 0, 1) := by decide +kernel
theorem dL_law_400 : decode cL_law 400 = .ok (.ireturn, 1) := by decide +kernel
theorem dL_law_401 : decode cL_law 401 = .ok (.aload_n 1, 1) := by decide +kernel
theorem dL_law_402 : decode cL_law 402 = .ok (.aload_n 0, 1) := by decide +kernel
theorem dL_law_403 : decode cL_law 403 = .ok (.iload_n 3, 1) := by decide +kernel
theorem dL_law_404 : decode cL_law 404 = .ok (.iconst 1, 1) := by decide +kernel
theorem dL_law_405 : decode cL_law 405 = .ok (.iadd, 1) := by decide +kernel
theorem dL_law_406 : decode cL_law 406 = .ok (.iaload, 1) := by decide +kernel
theorem dL_law_407 : decode cL_law 407 = .ok (.invokevirtual 54, 3) := by decide +kernel
theorem dL_law_410 : decode cL_law 410 = .ok (.aload_n 2, 1) := by decide +kernel
theorem dL_law_411 : decode cL_law 411 = .ok (.aload_n 0, 1) := by decide +kernel
theorem dL_law_412 : decode cL_law 412 = .ok (.iload_n 3, 1) := by decide +kernel
theorem dL_law_413 : decode cL_law 413 = .ok (.iconst 1, 1) := by decide +kernel
theorem dL_law_414 : decode cL_law 414 = .ok (.iadd, 1) := by decide +kernel
theorem dL_law_415 : decode cL_law 415 = .ok (.iaload, 1) := by decide +kernel
theorem dL_law_416 : decode cL_law 416 = .ok (.invokevirtual 57, 3) := by decide +kernel
theorem dL_law_419 : decode cL_law 419 = .ok (.if_icmp .eq 682, 3) := by decide +kernel
theorem dL_law_422 : decode cL_law 422 = .ok (.iconst 0, 1) := by decide +kernel
theorem dL_law_423 : decode cL_law 423 = .ok (.ireturn, 1) := by decide +kernel
theorem dL_law_424 : decode cL_law 424 = .ok (.aload_n 1, 1) := by decide +kernel
theorem dL_law_425 : decode cL_law 425 = .ok (.aload_n 0, 1) := by decide +kernel
theorem dL_law_426 : decode cL_law 426 = .ok (.iload_n 3, 1) := by decide +kernel
theorem dL_law_427 : decode cL_law 427 = .ok (.iconst 1, 1) := by decide +kernel
theorem dL_law_428 : decode cL_law 428 = .ok (.iadd, 1) := by decide +kernel
theorem dL_law_429 : decode cL_law 429 = .ok (.iaload, 1) := by decide +kernel
theorem dL_law_430 : decode cL_law 430 = .ok (.aload_n 0, 1) := by decide +kernel
theorem dL_law_431 : decode cL_law 431 = .ok (.iload_n 3, 1) := by decide +kernel
theorem dL_law_432 : decode cL_law 432 = .ok (.iconst 2, 1) := by decide +kernel
theorem dL_law_433 : decode cL_law 433 = .ok (.iadd, 1) := by decide +kernel
theorem dL_law_434 : decode cL_law 434 = .ok (.iaload, 1) := by decide +kernel
theorem dL_law_435 : decode cL_law 435 = .ok (.invokevirtual 58, 3) := by decide +kernel
theorem dL_law_438 : decode cL_law 438 = .ok (.aload_n 2, 1) := by decide +kernel
theorem dL_law_439 : decode cL_law 439 = .ok (.aload_n 0, 1) := by decide +kernel
theorem dL_law_440 : decode cL_law 440 = .ok (.iload_n 3, 1) := by decide +kernel
theorem dL_law_441 : decode cL_law 441 = .ok (.iconst 1, 1) := by decide +kernel
theorem dL_law_442 : decode cL_law 442 = .ok (.iadd, 1) := by decide +kernel
theorem dL_law_443 : decode cL_law 443 = .ok (.iaload, 1) := by decide +kernel
theorem dL_law_444 : decode cL_law 444 = .ok (.aload_n 0, 1) := by decide +kernel
theorem dL_law_445 : decode cL_law 445 = .ok (.iload_n 3, 1) := by decide +kernel
theorem dL_law_446 : decode cL_law 446 = .ok (.iconst 2, 1) := by decide +kernel
theorem dL_law_447 : decode cL_law 447 = .ok (.iadd, 1) := by decide +kernel
theorem dL_law_448 : decode cL_law 448 = .ok (.iaload, 1) := by decide +kernel
theorem dL_law_449 : decode cL_law 449 = .ok (.invokevirtual 61, 3) := by decide +kernel
theorem dL_law_452 : decode cL_law 452 = .ok (.if_icmp .eq 649, 3) := by decide +kernel
theorem dL_law_455 : decode cL_law 455 = .ok (.iconst 0, 1) := by decide +kernel
theorem dL_law_456 : decode cL_law 456 = .ok (.ireturn, 1) := by decide +kernel
theorem dL_law_457 : decode cL_law 457 = .ok (.aload_n 1, 1) := by decide +kernel
theorem dL_law_458 : decode cL_law 458 = .ok (.aload_n 0, 1) := by decide +kernel
theorem dL_law_459 : decode cL_law 459 = .ok (.iload_n 3, 1) := by decide +kernel
theorem dL_law_460 : decode cL_law 460 = .ok (.iconst 1, 1) := by decide +kernel
theorem dL_law_461 : decode cL_law 461 = .ok (.iadd, 1) := by decide +kernel
theorem dL_law_462 : decode cL_law 462 = .ok (.iaload, 1) := by decide +kernel
theorem dL_law_463 : decode cL_law 463 = .ok (.aload_n 0, 1) := by decide +kernel
theorem dL_law_464 : decode cL_law 464 = .ok (.iload_n 3, 1) := by decide +kernel
theorem dL_law_465 : decode cL_law 465 = .ok (.iconst 2, 1) := by decide +kernel
theorem dL_law_466 : decode cL_law 466 = .ok (.iadd, 1) := by decide +kernel
theorem dL_law_467 : decode cL_law 467 = .ok (.iaload, 1) := by decide +kernel
theorem dL_law_468 : decode cL_law 468 = .ok (.aload_n 0, 1) := by decide +kernel
theorem dL_law_469 : decode cL_law 469 = .ok (.iload_n 3, 1) := by decide +kernel
theorem dL_law_470 : decode cL_law 470 = .ok (.iconst 3, 1) := by decide +kernel
theorem dL_law_471 : decode cL_law 471 = .ok (.iadd, 1) := by decide +kernel
theorem dL_law_472 : decode cL_law 472 = .ok (.iaload, 1) := by decide +kernel
theorem dL_law_473 : decode cL_law 473 = .ok (.aload_n 0, 1) := by decide +kernel
theorem dL_law_474 : decode cL_law 474 = .ok (.iload_n 3, 1) := by decide +kernel
theorem dL_law_475 : decode cL_law 475 = .ok (.iconst 4, 1) := by decide +kernel
theorem dL_law_476 : decode cL_law 476 = .ok (.iadd, 1) := by decide +kernel
theorem dL_law_477 : decode cL_law 477 = .ok (.iaload, 1) := by decide +kernel
theorem dL_law_478 : decode cL_law 478 = .ok (.aload_n 0, 1) := by decide +kernel
theorem dL_law_479 : decode cL_law 479 = .ok (.iload_n 3, 1) := by decide +kernel
theorem dL_law_480 : decode cL_law 480 = .ok (.iconst 5, 1) := by decide +kernel
theorem dL_law_481 : decode cL_law 481 = .ok (.iadd, 1) := by decide +kernel
theorem dL_law_482 : decode cL_law 482 = .ok (.iaload, 1) := by decide +kernel
theorem dL_law_483 : decode cL_law 483 = .ok (.aload_n 0, 1) := by decide +kernel
theorem dL_law_484 : decode cL_law 484 = .ok (.iload_n 3, 1) := by decide +kernel
theorem dL_law_485 : decode cL_law 485 = .ok (.bipush 6, 2) := by decide +kernel
theorem dL_law_487 : decode cL_law 487 = .ok (.iadd, 1) := by decide +kernel
theorem dL_law_488 : decode cL_law 488 = .ok (.iaload, 1) := by decide +kernel
theorem dL_law_489 : decode cL_law 489 = .ok (.invokevirtual 62, 3) := by decide +kernel
theorem dL_law_492 : decode cL_law 492 = .ok (.aload_n 2, 1) := by decide +kernel
theorem dL_law_493 : decode cL_law 493 = .ok (.aload_n 0, 1) := by decide +kernel
theorem dL_law_494 : decode cL_law 494 = .ok (.iload_n 3, 1) := by decide +kernel
theorem dL_law_495 : decode cL_law 495 = .ok (.iconst 1, 1) := by decide +kernel
theorem dL_law_496 : decode cL_law 496 = .ok (.iadd, 1) := by decide +kernel
theorem dL_law_497 : decode cL_law 497 = .ok (.iaload, 1) := by decide +kernel
theorem dL_law_498 : decode cL_law 498 = .ok (.aload_n 0, 1) := by decide +kernel
theorem dL_law_499 : decode cL_law 499 = .ok (.iload_n 3, 1) := by decide +kernel
theorem dL_law_500 : decode cL_law 500 = .ok (.iconst 2, 1) := by decide +kernel
theorem dL_law_501 : decode cL_law 501 = .ok (.iadd, 1) := by decide +kernel
theorem dL_law_502 : decode cL_law 502 = .ok (.iaload, 1) := by decide +kernel
theorem dL_law_503 : decode cL_law 503 = .ok (.aload_n 0, 1) := by decide +kernel
theorem dL_law_504 : decode cL_law 504 = .ok (.iload_n 3, 1) := by decide +kernel
theorem dL_law_505 : decode cL_law 505 = .ok (.iconst 3, 1) := by decide +kernel
theorem dL_law_506 : decode cL_law 506 = .ok (.iadd, 1) := by decide +kernel
theorem dL_law_507 : decode cL_law 507 = .ok (.iaload, 1) := by decide +kernel
theorem dL_law_508 : decode cL_law 508 = .ok (.aload_n 0, 1) := by decide +kernel
theorem dL_law_509 : decode cL_law 509 = .ok (.iload_n 3, 1) := by decide +kernel
theorem dL_law_510 : decode cL_law 510 = .ok (.iconst 4, 1) := by decide +kernel
theorem dL_law_511 : decode cL_law 511 = .ok (.iadd, 1) := by decide +kernel
theorem dL_law_512 : decode cL_law 512 = .ok (.iaload, 1) := by decide +kernel
theorem dL_law_513 : decode cL_law 513 = .ok (.aload_n 0, 1) := by decide +kernel
theorem dL_law_514 : decode cL_law 514 = .ok (.iload_n 3, 1) := by decide +kernel
theorem dL_law_515 : decode cL_law 515 = .ok (.iconst 5, 1) := by decide +kernel
theorem dL_law_516 : decode cL_law 516 = .ok (.iadd, 1) := by decide +kernel
theorem dL_law_517 : decode cL_law 517 = .ok (.iaload, 1) := by decide +kernel
theorem dL_law_518 : decode cL_law 518 = .ok (.aload_n 0, 1) := by decide +kernel
theorem dL_law_519 : decode cL_law 519 = .ok (.iload_n 3, 1) := by decide +kernel
theorem dL_law_520 : decode cL_law 520 = .ok (.bipush 6, 2) := by decide +kernel
theorem dL_law_522 : decode cL_law 522 = .ok (.iadd, 1) := by decide +kernel
theorem dL_law_523 : decode cL_law 523 = .ok (.iaload, 1) := by decide +kernel
theorem dL_law_524 : decode cL_law 524 = .ok (.invokevirtual 66, 3) := by decide +kernel
theorem dL_law_527 : decode cL_law 527 = .ok (.if_icmp .eq 574, 3) := by decide +kernel
theorem dL_law_530 : decode cL_law 530 = .ok (.iconst 0, 1) := by decide +kernel
theorem dL_law_531 : decode cL_law 531 = .ok (.ireturn, 1) := by decide +kernel
theorem dL_law_532 : decode cL_law 532 = .ok (.aload_n 1, 1) := by decide +kernel
theorem dL_law_533 : decode cL_law 533 = .ok (.aload_n 0, 1) := by decide +kernel
theorem dL_law_534 : decode cL_law 534 = .ok (.iload_n 3, 1) := by decide +kernel
theorem dL_law_535 : decode cL_law 535 = .ok (.iconst 1, 1) := by decide +kernel
theorem dL_law_536 : decode cL_law 536 = .ok (.iadd, 1) := by decide +kernel
theorem dL_law_537 : decode cL_law 537 = .ok (.iaload, 1) := by decide +kernel
theorem dL_law_538 : decode cL_law 538 = .ok (.aload_n 0, 1) := by decide +kernel
theorem dL_law_539 : decode cL_law 539 = .ok (.iload_n 3, 1) := by decide +kernel
theorem dL_law_540 : decode cL_law 540 = .ok (.iconst 2, 1) := by decide +kernel
theorem dL_law_541 : decode cL_law 541 = .ok (.iadd, 1) := by decide +kernel
theorem dL_law_542 : decode cL_law 542 = .ok (.iaload, 1) := by decide +kernel
theorem dL_law_543 : decode cL_law 543 = .ok (.aload_n 0, 1) := by decide +kernel
theorem dL_law_544 : decode cL_law 544 = .ok (.iload_n 3, 1) := by decide +kernel
theorem dL_law_545 : decode cL_law 545 = .ok (.iconst 3, 1) := by decide +kernel
theorem dL_law_546 : decode cL_law 546 = .ok (.iadd, 1) := by decide +kernel
theorem dL_law_547 : decode cL_law 547 = .ok (.iaload, 1) := by decide +kernel
theorem dL_law_548 : decode cL_law 548 = .ok (.aload_n 0, 1) := by decide +kernel
theorem dL_law_549 : decode cL_law 549 = .ok (.iload_n 3, 1) := by decide +kernel
theorem dL_law_550 : decode cL_law 550 = .ok (.iconst 4, 1) := by decide +kernel
theorem dL_law_551 : decode cL_law 551 = .ok (.iadd, 1) := by decide +kernel
theorem dL_law_552 : decode cL_law 552 = .ok (.iaload, 1) := by decide +kernel
theorem dL_law_553 : decode cL_law 553 = .ok (.invokevirtual 67, 3) := by decide +kernel
theorem dL_law_556 : decode cL_law 556 = .ok (.aload_n 2, 1) := by decide +kernel
theorem dL_law_557 : decode cL_law 557 = .ok (.aload_n 0, 1) := by decide +kernel
theorem dL_law_558 : decode cL_law 558 = .ok (.iload_n 3, 1) := by decide +kernel
theorem dL_law_559 : decode cL_law 559 = .ok (.iconst 1, 1) := by decide +kernel
theorem dL_law_560 : decode cL_law 560 = .ok (.iadd, 1) := by decide +kernel
theorem dL_law_561 : decode cL_law 561 = .ok (.iaload, 1) := by decide +kernel
theorem dL_law_562 : decode cL_law 562 = .ok (.aload_n 0, 1) := by decide +kernel
theorem dL_law_563 : decode cL_law 563 = .ok (.iload_n 3, 1) := by decide +kernel
theorem dL_law_564 : decode cL_law 564 = .ok (.iconst 2, 1) := by decide +kernel
theorem dL_law_565 : decode cL_law 565 = .ok (.iadd, 1) := by decide +kernel
theorem dL_law_566 : decode cL_law 566 = .ok (.iaload, 1) := by decide +kernel
theorem dL_law_567 : decode cL_law 567 = .ok (.aload_n 0, 1) := by decide +kernel
theorem dL_law_568 : decode cL_law 568 = .ok (.iload_n 3, 1) := by decide +kernel
theorem dL_law_569 : decode cL_law 569 = .ok (.iconst 3, 1) := by decide +kernel
theorem dL_law_570 : decode cL_law 570 = .ok (.iadd, 1) := by decide +kernel
theorem dL_law_571 : decode cL_law 571 = .ok (.iaload, 1) := by decide +kernel
theorem dL_law_572 : decode cL_law 572 = .ok (.aload_n 0, 1) := by decide +kernel
theorem dL_law_573 : decode cL_law 573 = .ok (.iload_n 3, 1) := by decide +kernel
theorem dL_law_574 : decode cL_law 574 = .ok (.iconst 4, 1) := by decide +kernel
theorem dL_law_575 : decode cL_law 575 = .ok (.iadd, 1) := by decide +kernel
theorem dL_law_576 : decode cL_law 576 = .ok (.iaload, 1) := by decide +kernel
theorem dL_law_577 : decode cL_law 577 = .ok (.invokevirtual 71, 3) := by decide +kernel
theorem dL_law_580 : decode cL_law 580 = .ok (.if_icmp .eq 521, 3) := by decide +kernel
theorem dL_law_583 : decode cL_law 583 = .ok (.iconst 0, 1) := by decide +kernel
theorem dL_law_584 : decode cL_law 584 = .ok (.ireturn, 1) := by decide +kernel
theorem dL_law_585 : decode cL_law 585 = .ok (.aload_n 1, 1) := by decide +kernel
theorem dL_law_586 : decode cL_law 586 = .ok (.aload_n 0, 1) := by decide +kernel
theorem dL_law_587 : decode cL_law 587 = .ok (.iload_n 3, 1) := by decide +kernel
theorem dL_law_588 : decode cL_law 588 = .ok (.iconst 1, 1) := by decide +kernel
theorem dL_law_589 : decode cL_law 589 = .ok (.iadd, 1) := by decide +kernel
theorem dL_law_590 : decode cL_law 590 = .ok (.iaload, 1) := by decide +kernel
theorem dL_law_591 : decode cL_law 591 = .ok (.aload_n 0, 1) := by decide +kernel
theorem dL_law_592 : decode cL_law 592 = .ok (.iload_n 3, 1) := by decide +kernel
theorem dL_law_593 : decode cL_law 593 = .ok (.iconst 2, 1) := by decide +kernel
theorem dL_law_594 : decode cL_law 594 = .ok (.iadd, 1) := by decide +kernel
theorem dL_law_595 : decode cL_law 595 = .ok (.iaload, 1) := by decide +kernel
theorem dL_law_596 : decode cL_law 596 = .ok (.invokevirtual 72, 3) := by decide +kernel
theorem dL_law_599 : decode cL_law 599 = .ok (.aload_n 2, 1) := by decide +kernel
theorem dL_law_600 : decode cL_law 600 = .ok (.aload_n 0, 1) := by decide +kernel
theorem dL_law_601 : decode cL_law 601 = .ok (.iload_n 3, 1) := by decide +kernel
theorem dL_law_602 : decode cL_law 602 = .ok (.iconst 1, 1) := by decide +kernel
theorem dL_law_603 : decode cL_law 603 = .ok (.iadd, 1) := by decide +kernel
theorem dL_law_604 : decode cL_law 604 = .ok (.iaload, 1) := by decide +kernel
theorem dL_law_605 : decode cL_law 605 = .ok (.aload_n 0, 1) := by decide +kernel
theorem dL_law_606 : decode cL_law 606 = .ok (.iload_n 3, 1) := by decide +kernel
theorem dL_law_607 : decode cL_law 607 = .ok (.iconst 2, 1) := by decide +kernel
theorem dL_law_608 : decode cL_law 608 = .ok (.iadd, 1) := by decide +kernel
theorem dL_law_609 : decode cL_law 609 = .ok (.iaload, 1) := by decide +kernel
theorem dL_law_610 : decode cL_law 610 = .ok (.invokevirtual 76, 3) := by decide +kernel
theorem dL_law_613 : decode cL_law 613 = .ok (.if_icmp .eq 488, 3) := by decide +kernel
theorem dL_law_616 : decode cL_law 616 = .ok (.iconst 0, 1) := by decide +kernel
theorem dL_law_617 : decode cL_law 617 = .ok (.ireturn, 1) := by decide +kernel
theorem dL_law_618 : decode cL_law 618 = .ok (.aload_n 1, 1) := by decide +kernel
theorem dL_law_619 : decode cL_law 619 = .ok (.aload_n 0, 1) := by decide +kernel
theorem dL_law_620 : decode cL_law 620 = .ok (.iload_n 3, 1) := by decide +kernel
theorem dL_law_621 : decode cL_law 621 = .ok (.iconst 1, 1) := by decide +kernel
theorem dL_law_622 : decode cL_law 622 = .ok (.iadd, 1) := by decide +kernel
theorem dL_law_623 : decode cL_law 623 = .ok (.iaload, 1) := by decide +kernel
theorem dL_law_624 : decode cL_law 624 = .ok (.invokevirtual 77, 3) := by decide +kernel
theorem dL_law_627 : decode cL_law 627 = .ok (.aload_n 2, 1) := by decide +kernel
theorem dL_law_628 : decode cL_law 628 = .ok (.aload_n 0, 1) := by decide +kernel
theorem dL_law_629 : decode cL_law 629 = .ok (.iload_n 3, 1) := by decide +kernel
theorem dL_law_630 : decode cL_law 630 = .ok (.iconst 1, 1) := by decide +kernel
theorem dL_law_631 : decode cL_law 631 = .ok (.iadd, 1) := by decide +kernel
theorem dL_law_632 : decode cL_law 632 = .ok (.iaload, 1) := by decide +kernel
theorem dL_law_633 : decode cL_law 633 = .ok (.invokevirtual 80, 3) := by decide +kernel
theorem dL_law_636 : decode cL_law 636 = .ok (.if_icmp .eq 465, 3) := by decide +kernel
theorem dL_law_639 : decode cL_law 639 = .ok (.iconst 0, 1) := by decide +kernel
theorem dL_law_640 : decode cL_law 640 = .ok (.ireturn, 1) := by decide +kernel
theorem dL_law_641 : decode cL_law 641 = .ok (.aload_n 1, 1) := by decide +kernel
theorem dL_law_642 : decode cL_law 642 = .ok (.aload_n 0, 1) := by decide +kernel
theorem dL_law_643 : decode cL_law 643 = .ok (.iload_n 3, 1) := by decide +kernel
theorem dL_law_644 : decode cL_law 644 = .ok (.iconst 1, 1) := by decide +kernel
theorem dL_law_645 : decode cL_law 645 = .ok (.iadd, 1) := by decide +kernel
theorem dL_law_646 : decode cL_law 646 = .ok (.iaload, 1) := by decide +kernel
theorem dL_law_647 : decode cL_law 647 = .ok (.invokevirtual 81, 3) := by decide +kernel
theorem dL_law_650 : decode cL_law 650 = .ok (.aload_n 2, 1) := by decide +kernel
theorem dL_law_651 : decode cL_law 651 = .ok (.aload_n 0, 1) := by decide +kernel
theorem dL_law_652 : decode cL_law 652 = .ok (.iload_n 3, 1) := by decide +kernel
theorem dL_law_653 : decode cL_law 653 = .ok (.iconst 1, 1) := by decide +kernel
theorem dL_law_654 : decode cL_law 654 = .ok (.iadd, 1) := by decide +kernel
theorem dL_law_655 : decode cL_law 655 = .ok (.iaload, 1) := by decide +kernel
theorem dL_law_656 : decode cL_law 656 = .ok (.invokevirtual 84, 3) := by decide +kernel
theorem dL_law_659 : decode cL_law 659 = .ok (.if_icmp .eq 442, 3) := by decide +kernel
theorem dL_law_662 : decode cL_law 662 = .ok (.iconst 0, 1) := by decide +kernel
theorem dL_law_663 : decode cL_law 663 = .ok (.ireturn, 1) := by decide +kernel
theorem dL_law_664 : decode cL_law 664 = .ok (.aload_n 1, 1) := by decide +kernel
theorem dL_law_665 : decode cL_law 665 = .ok (.invokevirtual 85, 3) := by decide +kernel
theorem dL_law_668 : decode cL_law 668 = .ok (.aload_n 2, 1) := by decide +kernel
theorem dL_law_669 : decode cL_law 669 = .ok (.invokevirtual 88, 3) := by decide +kernel
theorem dL_law_672 : decode cL_law 672 = .ok (.if_icmp .eq 429, 3) := by decide +kernel
theorem dL_law_675 : decode cL_law 675 = .ok (.iconst 0, 1) := by decide +kernel
theorem dL_law_676 : decode cL_law 676 = .ok (.ireturn, 1) := by decide +kernel
theorem dL_law_677 : decode cL_law 677 = .ok (.aload_n 1, 1) := by decide +kernel
theorem dL_law_678 : decode cL_law 678 = .ok (.aload_n 0, 1) := by decide +kernel
theorem dL_law_679 : decode cL_law 679 = .ok (.iload_n 3, 1) := by decide +kernel
theorem dL_law_680 : decode cL_law 680 = .ok (.iconst 1, 1) := by decide +kernel
theorem dL_law_681 : decode cL_law 681 = .ok (.iadd, 1) := by decide +kernel
theorem dL_law_682 : decode cL_law 682 = .ok (.iaload, 1) := by decide +kernel
theorem dL_law_683 : decode cL_law 683 = .ok (.invokevirtual 89, 3) := by decide +kernel
theorem dL_law_686 : decode cL_law 686 = .ok (.aload_n 2, 1) := by decide +kernel
theorem dL_law_687 : decode cL_law 687 = .ok (.aload_n 0, 1) := by decide +kernel
theorem dL_law_688 : decode cL_law 688 = .ok (.iload_n 3, 1) := by decide +kernel
theorem dL_law_689 : decode cL_law 689 = .ok (.iconst 1, 1) := by decide +kernel
theorem dL_law_690 : decode cL_law 690 = .ok (.iadd, 1) := by decide +kernel
theorem dL_law_691 : decode cL_law 691 = .ok (.iaload, 1) := by decide +kernel
theorem dL_law_692 : decode cL_law 692 = .ok (.invokevirtual 92, 3) := by decide +kernel
theorem dL_law_695 : decode cL_law 695 = .ok (.if_icmp .eq 406, 3) := by decide +kernel
theorem dL_law_698 : decode cL_law 698 = .ok (.iconst 0, 1) := by decide +kernel
theorem dL_law_699 : decode cL_law 699 = .ok (.ireturn, 1) := by decide +kernel
theorem dL_law_700 : decode cL_law 700 = .ok (.aload_n 1, 1) := by decide +kernel
theorem dL_law_701 : decode cL_law 701 = .ok (.aload_n 0, 1) := by decide +kernel
theorem dL_law_702 : decode cL_law 702 = .ok (.iload_n 3, 1) := by decide +kernel
theorem dL_law_703 : decode cL_law 703 = .ok (.iconst 1, 1) := by decide +kernel
theorem dL_law_704 : decode cL_law 704 = .ok (.iadd, 1) := by decide +kernel
theorem dL_law_705 : decode cL_law 705 = .ok (.iaload, 1) := by decide +kernel
theorem dL_law_706 : decode cL_law 706 = .ok (.aload_n 0, 1) := by decide +kernel
theorem dL_law_707 : decode cL_law 707 = .ok (.iload_n 3, 1) := by decide +kernel
theorem dL_law_708 : decode cL_law 708 = .ok (.iconst 2, 1) := by decide +kernel
theorem dL_law_709 : decode cL_law 709 = .ok (.iadd, 1) := by decide +kernel
theorem dL_law_710 : decode cL_law 710 = .ok (.iaload, 1) := by decide +kernel
theorem dL_law_711 : decode cL_law 711 = .ok (.aload_n 0, 1) := by decide +kernel
theorem dL_law_712 : decode cL_law 712 = .ok (.iload_n 3, 1) := by decide +kernel
theorem dL_law_713 : decode cL_law 713 = .ok (.iconst 3, 1) := by decide +kernel
theorem dL_law_714 : decode cL_law 714 = .ok (.iadd, 1) := by decide +kernel
theorem dL_law_715 : decode cL_law 715 = .ok (.iaload, 1) := by decide +kernel
theorem dL_law_716 : decode cL_law 716 = .ok (.aload_n 0, 1) := by decide +kernel
theorem dL_law_717 : decode cL_law 717 = .ok (.iload_n 3, 1) := by decide +kernel
theorem dL_law_718 : decode cL_law 718 = .ok (.iconst 4, 1) := by decide +kernel
theorem dL_law_719 : decode cL_law 719 = .ok (.iadd, 1) := by decide +kernel
theorem dL_law_720 : decode cL_law 720 = .ok (.iaload, 1) := by decide +kernel
theorem dL_law_721 : decode cL_law 721 = .ok (.aload_n 0, 1) := by decide +kernel
theorem dL_law_722 : decode cL_law 722 = .ok (.iload_n 3, 1) := by decide +kernel
theorem dL_law_723 : decode cL_law 723 = .ok (.iconst 5, 1) := by decide +kernel
theorem dL_law_724 : decode cL_law 724 = .ok (.iadd, 1) := by decide +kernel
theorem dL_law_725 : decode cL_law 725 = .ok (.iaload, 1) := by decide +kernel
theorem dL_law_726 : decode cL_law 726 = .ok (.aload_n 0, 1) := by decide +kernel
theorem dL_law_727 : decode cL_law 727 = .ok (.iload_n 3, 1) := by decide +kernel
theorem dL_law_728 : decode cL_law 728 = .ok (.bipush 6, 2) := by decide +kernel
theorem dL_law_730 : decode cL_law 730 = .ok (.iadd, 1) := by decide +kernel
theorem dL_law_731 : decode cL_law 731 = .ok (.iaload, 1) := by decide +kernel
theorem dL_law_732 : decode cL_law 732 = .ok (.ifCond .eq 7, 3) := by decide +kernel
theorem dL_law_735 : decode cL_law 735 = .ok (.iconst 1, 1) := by decide +kernel
theorem dL_law_736 : decode cL_law 736 = .ok (.goto 4, 3) := by decide +kernel
theorem dL_law_739 : decode cL_law 739 = .ok (.iconst 0, 1) := by decide +kernel
theorem dL_law_740 : decode cL_law 740 = .ok (.aload_n 0, 1) := by decide +kernel
theorem dL_law_741 : decode cL_law 741 = .ok (.iload_n 3, 1) := by decide +kernel
theorem dL_law_742 : decode cL_law 742 = .ok (.bipush 7, 2) := by decide +kernel
theorem dL_law_744 : decode cL_law 744 = .ok (.iadd, 1) := by decide +kernel
theorem dL_law_745 : decode cL_law 745 = .ok (.iaload, 1) := by decide +kernel
theorem dL_law_746 : decode cL_law 746 = .ok (.invokevirtual 93, 3) := by decide +kernel
theorem dL_law_749 : decode cL_law 749 = .ok (.aload_n 2, 1) := by decide +kernel
theorem dL_law_750 : decode cL_law 750 = .ok (.aload_n 0, 1) := by decide +kernel
theorem dL_law_751 : decode cL_law 751 = .ok (.iload_n 3, 1) := by decide +kernel
theorem dL_law_752 : decode cL_law 752 = .ok (.iconst 1, 1) := by decide +kernel
theorem dL_law_753 : decode cL_law 753 = .ok (.iadd, 1) := by decide +kernel
theorem dL_law_754 : decode cL_law 754 = .ok (.iaload, 1) := by decide +kernel
theorem dL_law_755 : decode cL_law 755 = .ok (.aload_n 0, 1) := by decide +kernel
theorem dL_law_756 : decode cL_law 756 = .ok (.iload_n 3, 1) := by decide +kernel
theorem dL_law_757 : decode cL_law 757 = .ok (.iconst 2, 1) := by decide +kernel
theorem dL_law_758 : decode cL_law 758 = .ok (.iadd, 1) := by decide +kernel
theorem dL_law_759 : decode cL_law 759 = .ok (.iaload, 1) := by decide +kernel
theorem dL_law_760 : decode cL_law 760 = .ok (.aload_n 0, 1) := by decide +kernel
theorem dL_law_761 : decode cL_law 761 = .ok (.iload_n 3, 1) := by decide +kernel
theorem dL_law_762 : decode cL_law 762 = .ok (.iconst 3, 1) := by decide +kernel
theorem dL_law_763 : decode cL_law 763 = .ok (.iadd, 1) := by decide +kernel
theorem dL_law_764 : decode cL_law 764 = .ok (.iaload, 1) := by decide +kernel
theorem dL_law_765 : decode cL_law 765 = .ok (.aload_n 0, 1) := by decide +kernel
theorem dL_law_766 : decode cL_law 766 = .ok (.iload_n 3, 1) := by decide +kernel
theorem dL_law_767 : decode cL_law 767 = .ok (.iconst 4, 1) := by decide +kernel
theorem dL_law_768 : decode cL_law 768 = .ok (.iadd, 1) := by decide +kernel
theorem dL_law_769 : decode cL_law 769 = .ok (.iaload, 1) := by decide +kernel
theorem dL_law_770 : decode cL_law 770 = .ok (.aload_n 0, 1) := by decide +kernel
theorem dL_law_771 : decode cL_law 771 = .ok (.iload_n 3, 1) := by decide +kernel
theorem dL_law_772 : decode cL_law 772 = .ok (.iconst 5, 1) := by decide +kernel
theorem dL_law_773 : decode cL_law 773 = .ok (.iadd, 1) := by decide +kernel
theorem dL_law_774 : decode cL_law 774 = .ok (.iaload, 1) := by decide +kernel
theorem dL_law_775 : decode cL_law 775 = .ok (.aload_n 0, 1) := by decide +kernel
theorem dL_law_776 : decode cL_law 776 = .ok (.iload_n 3, 1) := by decide +kernel
theorem dL_law_777 : decode cL_law 777 = .ok (.bipush 6, 2) := by decide +kernel
theorem dL_law_779 : decode cL_law 779 = .ok (.iadd, 1) := by decide +kernel
theorem dL_law_780 : decode cL_law 780 = .ok (.iaload, 1) := by decide +kernel
theorem dL_law_781 : decode cL_law 781 = .ok (.ifCond .eq 7, 3) := by decide +kernel
theorem dL_law_784 : decode cL_law 784 = .ok (.iconst 1, 1) := by decide +kernel
theorem dL_law_785 : decode cL_law 785 = .ok (.goto 4, 3) := by decide +kernel
theorem dL_law_788 : decode cL_law 788 = .ok (.iconst 0, 1) := by decide +kernel
theorem dL_law_789 : decode cL_law 789 = .ok (.aload_n 0, 1) := by decide +kernel
theorem dL_law_790 : decode cL_law 790 = .ok (.iload_n 3, 1) := by decide +kernel
theorem dL_law_791 : decode cL_law 791 = .ok (.bipush 7, 2) := by decide +kernel
theorem dL_law_793 : decode cL_law 793 = .ok (.iadd, 1) := by decide +kernel
theorem dL_law_794 : decode cL_law 794 = .ok (.iaload, 1) := by decide +kernel
theorem dL_law_795 : decode cL_law 795 = .ok (.invokevirtual 97, 3) := by decide +kernel
theorem dL_law_798 : decode cL_law 798 = .ok (.if_icmp .eq 303, 3) := by decide +kernel
theorem dL_law_801 : decode cL_law 801 = .ok (.iconst 0, 1) := by decide +kernel
theorem dL_law_802 : decode cL_law 802 = .ok (.ireturn, 1) := by decide +kernel
theorem dL_law_803 : decode cL_law 803 = .ok (.aload_n 1, 1) := by decide +kernel
theorem dL_law_804 : decode cL_law 804 = .ok (.aload_n 0, 1) := by decide +kernel
theorem dL_law_805 : decode cL_law 805 = .ok (.iload_n 3, 1) := by decide +kernel
theorem dL_law_806 : decode cL_law 806 = .ok (.iconst 1, 1) := by decide +kernel
theorem dL_law_807 : decode cL_law 807 = .ok (.iadd, 1) := by decide +kernel
theorem dL_law_808 : decode cL_law 808 = .ok (.iaload, 1) := by decide +kernel
theorem dL_law_809 : decode cL_law 809 = .ok (.aload_n 0, 1) := by decide +kernel
theorem dL_law_810 : decode cL_law 810 = .ok (.iload_n 3, 1) := by decide +kernel
theorem dL_law_811 : decode cL_law 811 = .ok (.iconst 2, 1) := by decide +kernel
theorem dL_law_812 : decode cL_law 812 = .ok (.iadd, 1) := by decide +kernel
theorem dL_law_813 : decode cL_law 813 = .ok (.iaload, 1) := by decide +kernel
theorem dL_law_814 : decode cL_law 814 = .ok (.aload_n 0, 1) := by decide +kernel
theorem dL_law_815 : decode cL_law 815 = .ok (.iload_n 3, 1) := by decide +kernel
theorem dL_law_816 : decode cL_law 816 = .ok (.iconst 3, 1) := by decide +kernel
theorem dL_law_817 : decode cL_law 817 = .ok (.iadd, 1) := by decide +kernel
theorem dL_law_818 : decode cL_law 818 = .ok (.iaload, 1) := by decide +kernel
theorem dL_law_819 : decode cL_law 819 = .ok (.aload_n 0, 1) := by decide +kernel
theorem dL_law_820 : decode cL_law 820 = .ok (.iload_n 3, 1) := by decide +kernel
theorem dL_law_821 : decode cL_law 821 = .ok (.iconst 4, 1) := by decide +kernel
theorem dL_law_822 : decode cL_law 822 = .ok (.iadd, 1) := by decide +kernel
theorem dL_law_823 : decode cL_law 823 = .ok (.iaload, 1) := by decide +kernel
theorem dL_law_824 : decode cL_law 824 = .ok (.invokevirtual 98, 3) := by decide +kernel
theorem dL_law_827 : decode cL_law 827 = .ok (.aload_n 2, 1) := by decide +kernel
theorem dL_law_828 : decode cL_law 828 = .ok (.aload_n 0, 1) := by decide +kernel
theorem dL_law_829 : decode cL_law 829 = .ok (.iload_n 3, 1) := by decide +kernel
theorem dL_law_830 : decode cL_law 830 = .ok (.iconst 1, 1) := by decide +kernel
theorem dL_law_831 : decode cL_law 831 = .ok (.iadd, 1) := by decide +kernel
theorem dL_law_832 : decode cL_law 832 = .ok (.iaload, 1) := by decide +kernel
theorem dL_law_833 : decode cL_law 833 = .ok (.aload_n 0, 1) := by decide +kernel
theorem dL_law_834 : decode cL_law 834 = .ok (.iload_n 3, 1) := by decide +kernel
theorem dL_law_835 : decode cL_law 835 = .ok (.iconst 2, 1) := by decide +kernel
theorem dL_law_836 : decode cL_law 836 = .ok (.iadd, 1) := by decide +kernel
theorem dL_law_837 : decode cL_law 837 = .ok (.iaload, 1) := by decide +kernel
theorem dL_law_838 : decode cL_law 838 = .ok (.aload_n 0, 1) := by decide +kernel
theorem dL_law_839 : decode cL_law 839 = .ok (.iload_n 3, 1) := by decide +kernel
theorem dL_law_840 : decode cL_law 840 = .ok (.iconst 3, 1) := by decide +kernel
theorem dL_law_841 : decode cL_law 841 = .ok (.iadd, 1) := by decide +kernel
theorem dL_law_842 : decode cL_law 842 = .ok (.iaload, 1) := by decide +kernel
theorem dL_law_843 : decode cL_law 843 = .ok (.aload_n 0, 1) := by decide +kernel
theorem dL_law_844 : decode cL_law 844 = .ok (.iload_n 3, 1) := by decide +kernel
theorem dL_law_845 : decode cL_law 845 = .ok (.iconst 4, 1) := by decide +kernel
theorem dL_law_846 : decode cL_law 846 = .ok (.iadd, 1) := by decide +kernel
theorem dL_law_847 : decode cL_law 847 = .ok (.iaload, 1) := by decide +kernel
theorem dL_law_848 : decode cL_law 848 = .ok (.invokevirtual 102, 3) := by decide +kernel
theorem dL_law_851 : decode cL_law 851 = .ok (.if_icmp .eq 250, 3) := by decide +kernel
theorem dL_law_854 : decode cL_law 854 = .ok (.iconst 0, 1) := by decide +kernel
theorem dL_law_855 : decode cL_law 855 = .ok (.ireturn, 1) := by decide +kernel
theorem dL_law_856 : decode cL_law 856 = .ok (.aload_n 1, 1) := by decide +kernel
theorem dL_law_857 : decode cL_law 857 = .ok (.invokevirtual 103, 3) := by decide +kernel
theorem dL_law_860 : decode cL_law 860 = .ok (.aload_n 2, 1) := by decide +kernel
theorem dL_law_861 : decode cL_law 861 = .ok (.invokevirtual 106, 3) := by decide +kernel
theorem dL_law_864 : decode cL_law 864 = .ok (.if_icmp .eq 237, 3) := by decide +kernel
theorem dL_law_867 : decode cL_law 867 = .ok (.iconst 0, 1) := by decide +kernel
theorem dL_law_868 : decode cL_law 868 = .ok (.ireturn, 1) := by decide +kernel
theorem dL_law_869 : decode cL_law 869 = .ok (.aload_n 1, 1) := by decide +kernel
theorem dL_law_870 : decode cL_law 870 = .ok (.aload_n 0, 1) := by decide +kernel
theorem dL_law_871 : decode cL_law 871 = .ok (.iload_n 3, 1) := by decide +kernel
theorem dL_law_872 : decode cL_law 872 = .ok (.iconst 1, 1) := by decide +kernel
theorem dL_law_873 : decode cL_law 873 = .ok (.iadd, 1) := by decide +kernel
theorem dL_law_874 : decode cL_law 874 = .ok (.iaload, 1) := by decide +kernel
theorem dL_law_875 : decode cL_law 875 = .ok (.invokevirtual 107, 3) := by decide +kernel
theorem dL_law_878 : decode cL_law 878 = .ok (.aload_n 2, 1) := by decide +kernel
theorem dL_law_879 : decode cL_law 879 = .ok (.aload_n 0, 1) := by decide +kernel
theorem dL_law_880 : decode cL_law 880 = .ok (.iload_n 3, 1) := by decide +kernel
theorem dL_law_881 : decode cL_law 881 = .ok (.iconst 1, 1) := by decide +kernel
theorem dL_law_882 : decode cL_law 882 = .ok (.iadd, 1) := by decide +kernel
theorem dL_law_883 : decode cL_law 883 = .ok (.iaload, 1) := by decide +kernel
theorem dL_law_884 : decode cL_law 884 = .ok (.invokevirtual 110, 3) := by decide +kernel
theorem dL_law_887 : decode cL_law 887 = .ok (.if_icmp .eq 214, 3) := by decide +kernel
theorem dL_law_890 : decode cL_law 890 = .ok (.iconst 0, 1) := by decide +kernel
theorem dL_law_891 : decode cL_law 891 = .ok (.ireturn, 1) := by decide +kernel
theorem dL_law_892 : decode cL_law 892 = .ok (.aload_n 1, 1) := by decide +kernel
theorem dL_law_893 : decode cL_law 893 = .ok (.invokevirtual 111, 3) := by decide +kernel
theorem dL_law_896 : decode cL_law 896 = .ok (.aload_n 2, 1) := by decide +kernel
theorem dL_law_897 : decode cL_law 897 = .ok (.invokevirtual 114, 3) := by decide +kernel
theorem dL_law_900 : decode cL_law 900 = .ok (.if_icmp .eq 201, 3) := by decide +kernel
theorem dL_law_903 : decode cL_law 903 = .ok (.iconst 0, 1) := by decide +kernel
theorem dL_law_904 : decode cL_law 904 = .ok (.ireturn, 1) := by decide +kernel
theorem dL_law_905 : decode cL_law 905 = .ok (.aload_n 1, 1) := by decide +kernel
theorem dL_law_906 : decode cL_law 906 = .ok (.aload_n 0, 1) := by decide +kernel
theorem dL_law_907 : decode cL_law 907 = .ok (.iload_n 3, 1) := by decide +kernel
theorem dL_law_908 : decode cL_law 908 = .ok (.iconst 1, 1) := by decide +kernel
theorem dL_law_909 : decode cL_law 909 = .ok (.iadd, 1) := by decide +kernel
theorem dL_law_910 : decode cL_law 910 = .ok (.iaload, 1) := by decide +kernel
theorem dL_law_911 : decode cL_law 911 = .ok (.invokevirtual 115, 3) := by decide +kernel
theorem dL_law_914 : decode cL_law 914 = .ok (.aload_n 2, 1) := by decide +kernel
theorem dL_law_915 : decode cL_law 915 = .ok (.aload_n 0, 1) := by decide +kernel
theorem dL_law_916 : decode cL_law 916 = .ok (.iload_n 3, 1) := by decide +kernel
theorem dL_law_917 : decode cL_law 917 = .ok (.iconst 1, 1) := by decide +kernel
theorem dL_law_918 : decode cL_law 918 = .ok (.iadd, 1) := by decide +kernel
theorem dL_law_919 : decode cL_law 919 = .ok (.iaload, 1) := by decide +kernel
theorem dL_law_920 : decode cL_law 920 = .ok (.invokevirtual 118, 3) := by decide +kernel
theorem dL_law_923 : decode cL_law 923 = .ok (.if_icmp .eq 178, 3) := by decide +kernel
theorem dL_law_926 : decode cL_law 926 = .ok (.iconst 0, 1) := by decide +kernel
theorem dL_law_927 : decode cL_law 927 = .ok (.ireturn, 1) := by decide +kernel
theorem dL_law_928 : decode cL_law 928 = .ok (.aload_n 1, 1) := by decide +kernel
theorem dL_law_929 : decode cL_law 929 = .ok (.aload_n 0, 1) := by decide +kernel
theorem dL_law_930 : decode cL_law 930 = .ok (.iload_n 3, 1) := by decide +kernel
theorem dL_law_931 : decode cL_law 931 = .ok (.iconst 1, 1) := by decide +kernel
theorem dL_law_932 : decode cL_law 932 = .ok (.iadd, 1) := by decide +kernel
theorem dL_law_933 : decode cL_law 933 = .ok (.iaload, 1) := by decide +kernel
theorem dL_law_934 : decode cL_law 934 = .ok (.aload_n 0, 1) := by decide +kernel
theorem dL_law_935 : decode cL_law 935 = .ok (.iload_n 3, 1) := by decide +kernel
theorem dL_law_936 : decode cL_law 936 = .ok (.iconst 2, 1) := by decide +kernel
theorem dL_law_937 : decode cL_law 937 = .ok (.iadd, 1) := by decide +kernel
theorem dL_law_938 : decode cL_law 938 = .ok (.iaload, 1) := by decide +kernel
theorem dL_law_939 : decode cL_law 939 = .ok (.aload_n 0, 1) := by decide +kernel
theorem dL_law_940 : decode cL_law 940 = .ok (.iload_n 3, 1) := by decide +kernel
theorem dL_law_941 : decode cL_law 941 = .ok (.iconst 3, 1) := by decide +kernel
theorem dL_law_942 : decode cL_law 942 = .ok (.iadd, 1) := by decide +kernel
theorem dL_law_943 : decode cL_law 943 = .ok (.iaload, 1) := by decide +kernel
theorem dL_law_944 : decode cL_law 944 = .ok (.aload_n 0, 1) := by decide +kernel
theorem dL_law_945 : decode cL_law 945 = .ok (.iload_n 3, 1) := by decide +kernel
theorem dL_law_946 : decode cL_law 946 = .ok (.iconst 4, 1) := by decide +kernel
theorem dL_law_947 : decode cL_law 947 = .ok (.iadd, 1) := by decide +kernel
theorem dL_law_948 : decode cL_law 948 = .ok (.iaload, 1) := by decide +kernel
theorem dL_law_949 : decode cL_law 949 = .ok (.aload_n 0, 1) := by decide +kernel
theorem dL_law_950 : decode cL_law 950 = .ok (.iload_n 3, 1) := by decide +kernel
theorem dL_law_951 : decode cL_law 951 = .ok (.iconst 5, 1) := by decide +kernel
theorem dL_law_952 : decode cL_law 952 = .ok (.iadd, 1) := by decide +kernel
theorem dL_law_953 : decode cL_law 953 = .ok (.iaload, 1) := by decide +kernel
theorem dL_law_954 : decode cL_law 954 = .ok (.aload_n 0, 1) := by decide +kernel
theorem dL_law_955 : decode cL_law 955 = .ok (.iload_n 3, 1) := by decide +kernel
theorem dL_law_956 : decode cL_law 956 = .ok (.bipush 6, 2) := by decide +kernel
theorem dL_law_958 : decode cL_law 958 = .ok (.iadd, 1) := by decide +kernel
theorem dL_law_959 : decode cL_law 959 = .ok (.iaload, 1) := by decide +kernel
theorem dL_law_960 : decode cL_law 960 = .ok (.ifCond .eq 7, 3) := by decide +kernel
theorem dL_law_963 : decode cL_law 963 = .ok (.iconst 1, 1) := by decide +kernel
theorem dL_law_964 : decode cL_law 964 = .ok (.goto 4, 3) := by decide +kernel
theorem dL_law_967 : decode cL_law 967 = .ok (.iconst 0, 1) := by decide +kernel
theorem dL_law_968 : decode cL_law 968 = .ok (.invokevirtual 119, 3) := by decide +kernel
theorem dL_law_971 : decode cL_law 971 = .ok (.aload_n 2, 1) := by decide +kernel
theorem dL_law_972 : decode cL_law 972 = .ok (.aload_n 0, 1) := by decide +kernel
theorem dL_law_973 : decode cL_law 973 = .ok (.iload_n 3, 1) := by decide +kernel
theorem dL_law_974 : decode cL_law 974 = .ok (.iconst 1, 1) := by decide +kernel
theorem dL_law_975 : decode cL_law 975 = .ok (.iadd, 1) := by decide +kernel
theorem dL_law_976 : decode cL_law 976 = .ok (.iaload, 1) := by decide +kernel
theorem dL_law_977 : decode cL_law 977 = .ok (.aload_n 0, 1) := by decide +kernel
theorem dL_law_978 : decode cL_law 978 = .ok (.iload_n 3, 1) := by decide +kernel
theorem dL_law_979 : decode cL_law 979 = .ok (.iconst 2, 1) := by decide +kernel
theorem dL_law_980 : decode cL_law 980 = .ok (.iadd, 1) := by decide +kernel
theorem dL_law_981 : decode cL_law 981 = .ok (.iaload, 1) := by decide +kernel
theorem dL_law_982 : decode cL_law 982 = .ok (.aload_n 0, 1) := by decide +kernel
theorem dL_law_983 : decode cL_law 983 = .ok (.iload_n 3, 1) := by decide +kernel
theorem dL_law_984 : decode cL_law 984 = .ok (.iconst 3, 1) := by decide +kernel
theorem dL_law_985 : decode cL_law 985 = .ok (.iadd, 1) := by decide +kernel
theorem dL_law_986 : decode cL_law 986 = .ok (.iaload, 1) := by decide +kernel
theorem dL_law_987 : decode cL_law 987 = .ok (.aload_n 0, 1) := by decide +kernel
theorem dL_law_988 : decode cL_law 988 = .ok (.iload_n 3, 1) := by decide +kernel
theorem dL_law_989 : decode cL_law 989 = .ok (.iconst 4, 1) := by decide +kernel
theorem dL_law_990 : decode cL_law 990 = .ok (.iadd, 1) := by decide +kernel
theorem dL_law_991 : decode cL_law 991 = .ok (.iaload, 1) := by decide +kernel
theorem dL_law_992 : decode cL_law 992 = .ok (.aload_n 0, 1) := by decide +kernel
theorem dL_law_993 : decode cL_law 993 = .ok (.iload_n 3, 1) := by decide +kernel
theorem dL_law_994 : decode cL_law 994 = .ok (.iconst 5, 1) := by decide +kernel
theorem dL_law_995 : decode cL_law 995 = .ok (.iadd, 1) := by decide +kernel
theorem dL_law_996 : decode cL_law 996 = .ok (.iaload, 1) := by decide +kernel
theorem dL_law_997 : decode cL_law 997 = .ok (.aload_n 0, 1) := by decide +kernel
theorem dL_law_998 : decode cL_law 998 = .ok (.iload_n 3, 1) := by decide +kernel
theorem dL_law_999 : decode cL_law 999 = .ok (.bipush 6, 2) := by decide +kernel
theorem dL_law_1001 : decode cL_law 1001 = .ok (.iadd, 1) := by decide +kernel
theorem dL_law_1002 : decode cL_law 1002 = .ok (.iaload, 1) := by decide +kernel
theorem dL_law_1003 : decode cL_law 1003 = .ok (.ifCond .eq 7, 3) := by decide +kernel
theorem dL_law_1006 : decode cL_law 1006 = .ok (.iconst 1, 1) := by decide +kernel
theorem dL_law_1007 : decode cL_law 1007 = .ok (.goto 4, 3) := by decide +kernel
theorem dL_law_1010 : decode cL_law 1010 = .ok (.iconst 0, 1) := by decide +kernel
theorem dL_law_1011 : decode cL_law 1011 = .ok (.invokevirtual 123, 3) := by decide +kernel
theorem dL_law_1014 : decode cL_law 1014 = .ok (.if_icmp .eq 87, 3) := by decide +kernel
theorem dL_law_1017 : decode cL_law 1017 = .ok (.iconst 0, 1) := by decide +kernel
theorem dL_law_1018 : decode cL_law 1018 = .ok (.ireturn, 1) := by decide +kernel
theorem dL_law_1019 : decode cL_law 1019 = .ok (.aload_n 1, 1) := by decide +kernel
theorem dL_law_1020 : decode cL_law 1020 = .ok (.aload_n 0, 1) := by decide +kernel
theorem dL_law_1021 : decode cL_law 1021 = .ok (.iload_n 3, 1) := by decide +kernel
theorem dL_law_1022 : decode cL_law 1022 = .ok (.iconst 1, 1) := by decide +kernel
theorem dL_law_1023 : decode cL_law 1023 = .ok (.iadd, 1) := by decide +kernel
theorem dL_law_1024 : decode cL_law 1024 = .ok (.iaload, 1) := by decide +kernel
theorem dL_law_1025 : decode cL_law 1025 = .ok (.aload_n 0, 1) := by decide +kernel
theorem dL_law_1026 : decode cL_law 1026 = .ok (.iload_n 3, 1) := by decide +kernel
theorem dL_law_1027 : decode cL_law 1027 = .ok (.iconst 2, 1) := by decide +kernel
theorem dL_law_1028 : decode cL_law 1028 = .ok (.iadd, 1) := by decide +kernel
theorem dL_law_1029 : decode cL_law 1029 = .ok (.iaload, 1) := by decide +kernel
theorem dL_law_1030 : decode cL_law 1030 = .ok (.invokevirtual 124, 3) := by decide +kernel
theorem dL_law_1033 : decode cL_law 1033 = .ok (.aload_n 2, 1) := by decide +kernel
theorem dL_law_1034 : decode cL_law 1034 = .ok (.aload_n 0, 1) := by decide +kernel
theorem dL_law_1035 : decode cL_law 1035 = .ok (.iload_n 3, 1) := by decide +kernel
theorem dL_law_1036 : decode cL_law 1036 = .ok (.iconst 1, 1) := by decide +kernel
theorem dL_law_1037 : decode cL_law 1037 = .ok (.iadd, 1) := by decide +kernel
theorem dL_law_1038 : decode cL_law 1038 = .ok (.iaload, 1) := by decide +kernel
theorem dL_law_1039 : decode cL_law 1039 = .ok (.aload_n 0, 1) := by decide +kernel
theorem dL_law_1040 : decode cL_law 1040 = .ok (.iload_n 3, 1) := by decide +kernel
theorem dL_law_1041 : decode cL_law 1041 = .ok (.iconst 2, 1) := by decide +kernel
theorem dL_law_1042 : decode cL_law 1042 = .ok (.iadd, 1) := by decide +kernel
theorem dL_law_1043 : decode cL_law 1043 = .ok (.iaload, 1) := by decide +kernel
theorem dL_law_1044 : decode cL_law 1044 = .ok (.invokevirtual 127, 3) := by decide +kernel
theorem dL_law_1047 : decode cL_law 1047 = .ok (.if_icmp .eq 54, 3) := by decide +kernel
theorem dL_law_1050 : decode cL_law 1050 = .ok (.iconst 0, 1) := by decide +kernel
theorem dL_law_1051 : decode cL_law 1051 = .ok (.ireturn, 1) := by decide +kernel
theorem dL_law_1052 : decode cL_law 1052 = .ok (.aload_n 1, 1) := by decide +kernel
theorem dL_law_1053 : decode cL_law 1053 = .ok (.invokevirtual 128, 3) := by decide +kernel
theorem dL_law_1056 : decode cL_law 1056 = .ok (.aload_n 2, 1) := by decide +kernel
theorem dL_law_1057 : decode cL_law 1057 = .ok (.invokevirtual 131, 3) := by decide +kernel
theorem dL_law_1060 : decode cL_law 1060 = .ok (.if_icmp .eq 41, 3) := by decide +kernel
theorem dL_law_1063 : decode cL_law 1063 = .ok (.iconst 0, 1) := by decide +kernel
theorem dL_law_1064 : decode cL_law 1064 = .ok (.ireturn, 1) := by decide +kernel
theorem dL_law_1065 : decode cL_law 1065 = .ok (.aload_n 1, 1) := by decide +kernel
theorem dL_law_1066 : decode cL_law 1066 = .ok (.invokevirtual 132, 3) := by decide +kernel
theorem dL_law_1069 : decode cL_law 1069 = .ok (.aload_n 2, 1) := by decide +kernel
theorem dL_law_1070 : decode cL_law 1070 = .ok (.invokevirtual 135, 3) := by decide +kernel
theorem dL_law_1073 : decode cL_law 1073 = .ok (.if_icmp .eq 28, 3) := by decide +kernel
theorem dL_law_1076 : decode cL_law 1076 = .ok (.iconst 0, 1) := by decide +kernel
theorem dL_law_1077 : decode cL_law 1077 = .ok (.ireturn, 1) := by decide +kernel
theorem dL_law_1078 : decode cL_law 1078 = .ok (.aload_n 1, 1) := by decide +kernel
theorem dL_law_1079 : decode cL_law 1079 = .ok (.aload_n 0, 1) := by decide +kernel
theorem dL_law_1080 : decode cL_law 1080 = .ok (.iload_n 3, 1) := by decide +kernel
theorem dL_law_1081 : decode cL_law 1081 = .ok (.iconst 1, 1) := by decide +kernel
theorem dL_law_1082 : decode cL_law 1082 = .ok (.iadd, 1) := by decide +kernel
theorem dL_law_1083 : decode cL_law 1083 = .ok (.iaload, 1) := by decide +kernel
theorem dL_law_1084 : decode cL_law 1084 = .ok (.invokevirtual 136, 3) := by decide +kernel
theorem dL_law_1087 : decode cL_law 1087 = .ok (.aload_n 2, 1) := by decide +kernel
theorem dL_law_1088 : decode cL_law 1088 = .ok (.aload_n 0, 1) := by decide +kernel
theorem dL_law_1089 : decode cL_law 1089 = .ok (.iload_n 3, 1) := by decide +kernel
theorem dL_law_1090 : decode cL_law 1090 = .ok (.iconst 1, 1) := by decide +kernel
theorem dL_law_1091 : decode cL_law 1091 = .ok (.iadd, 1) := by decide +kernel
theorem dL_law_1092 : decode cL_law 1092 = .ok (.iaload, 1) := by decide +kernel
theorem dL_law_1093 : decode cL_law 1093 = .ok (.invokevirtual 139, 3) := by decide +kernel
theorem dL_law_1096 : decode cL_law 1096 = .ok (.if_icmp .eq 5, 3) := by decide +kernel
theorem dL_law_1099 : decode cL_law 1099 = .ok (.iconst 0, 1) := by decide +kernel
theorem dL_law_1100 : decode cL_law 1100 = .ok (.ireturn, 1) := by decide +kernel
theorem dL_law_1101 : decode cL_law 1101 = .ok (.iinc 3 8, 3) := by decide +kernel
theorem dL_law_1104 : decode cL_law 1104 = .ok (.goto (-1076), 3) := by decide +kernel
theorem dL_law_1107 : decode cL_law 1107 = .ok (.iconst 1, 1) := by decide +kernel
theorem dL_law_1108 : decode cL_law 1108 = .ok (.ireturn, 1) := by decide +kernel
theorem dL_cell_0 : decode cL_cell 0 = .ok (.iload_n 1, 1) := by decide +kernel
theorem dL_cell_1 : decode cL_cell 1 = .ok (.aload_n 0, 1) := by decide +kernel
theorem dL_cell_2 : decode cL_cell 2 = .ok (.arraylength, 1) := by decide +kernel
theorem dL_cell_3 : decode cL_cell 3 = .ok (.if_icmp .ge 9, 3) := by decide +kernel
theorem dL_cell_6 : decode cL_cell 6 = .ok (.aload_n 0, 1) := by decide +kernel
theorem dL_cell_7 : decode cL_cell 7 = .ok (.iload_n 1, 1) := by decide +kernel
theorem dL_cell_8 : decode cL_cell 8 = .ok (.iaload, 1) := by decide +kernel
theorem dL_cell_9 : decode cL_cell 9 = .ok (.goto 4, 3) := by decide +kernel
theorem dL_cell_12 : decode cL_cell 12 = .ok (.iconst 0, 1) := by decide +kernel
theorem dL_cell_13 : decode cL_cell 13 = .ok (.ireturn, 1) := by decide +kernel
theorem jsx {j LL k : Nat} {x : Int32} (hj : j + 8 ≤ LL) (hL : LL ≤ 4097) (hk : k < 8) (hx : x = nI k) : vp_in (Int32.ofNat j + x) LL := by
  rw [hx, show Int32.ofNat j = nI j from rfl, nI_add]
  exact vp_in_nI (by omega) (by omega)
theorem jcond {j LL : Nat} (hL : LL ≤ 4097) (hj : j ≤ 5000) : (Int32.ofNat LL - 8 < Int32.ofNat j) ↔ ¬ j + 8 ≤ LL := by
  have h1 : (Int32.ofNat LL - 8).toInt = (LL : Int) - 8 := pk_sub_toInt (a := LL) (b := 8) (by omega) (by omega)
  have h2 : (Int32.ofNat j).toInt = (j : Int) := nI_toInt (by omega)
  rw [Int32.lt_iff_toInt_lt, h1, h2]
  omega
def ok_rain (nd n : Nat) (Inv : jS → jS → Prop) : Prop := ∀ (v1 : Int32) (v2 : Int32) (c m : jS), Inv c m → ∃ (r : Bool) (c' m' : jS), F_X8_rain v1 v2 c = some (r, c') ∧ F_X9_rain v1 v2 m = some (r, m') ∧ Inv c' m'
def ok_mood (nd n : Nat) (Inv : jS → jS → Prop) : Prop := ∀ (v1 : Int32) (v2 : Int32) (c m : jS), Inv c m → ∃ (r : Bool) (c' m' : jS), F_X8_mood v1 v2 c = some (r, c') ∧ F_X9_mood v1 v2 m = some (r, m') ∧ Inv c' m'
def ok_moods (nd n : Nat) (Inv : jS → jS → Prop) : Prop := ∀ (v1 : Int32) (c m : jS), Inv c m → ∃ (r : Int32) (c' m' : jS), F_X8_moods n v1 c = some (r, c') ∧ F_X9_moods n v1 m = some (r, m') ∧ Inv c' m'
def ok_hinge (nd n : Nat) (Inv : jS → jS → Prop) : Prop := ∀ (v1 : Int32) (v2 : Bool) (c m : jS), Inv c m → ∃ (r : Bool) (c' m' : jS), F_X8_hinge v1 v2 c = some (r, c') ∧ F_X9_hinge v1 v2 m = some (r, m') ∧ Inv c' m'
def ok_feed (nd n : Nat) (Inv : jS → jS → Prop) : Prop := ∀ (v1 : Int32) (v2 : Int32) (v3 : Int32) (v4 : Int32) (v5 : Int32) (c m : jS), Inv c m → ∃ (r : Int32) (c' m' : jS), F_X8_feed n v1 v2 v3 v4 v5 c = some (r, c') ∧ F_X9_feed n v1 v2 v3 v4 v5 m = some (r, m') ∧ Inv c' m'
def ok_end (nd n : Nat) (Inv : jS → jS → Prop) : Prop := ∀ (v1 : Int32) (c m : jS), Inv c m → ∃ (r : Int32) (c' m' : jS), F_X8_end v1 c = some (r, c') ∧ F_X9_end v1 m = some (r, m') ∧ Inv c' m'
def ok_text (nd n : Nat) (Inv : jS → jS → Prop) : Prop := ∀ (c m : jS), Inv c m → ∃ (r : Int32) (c' m' : jS), F_X8_text n c = some (r, c') ∧ F_X9_text n m = some (r, m') ∧ Inv c' m'
def ok_fault (nd n : Nat) (Inv : jS → jS → Prop) : Prop := ∀ (v1 : Int32) (c m : jS), Inv c m → ∃ (r : Int32), F_X8_fault v1 c = r ∧ F_X9_fault v1 m = r ∧ Inv c m
def ok_keep (nd n : Nat) (Inv : jS → jS → Prop) : Prop := ∀ (v1 : Int32) (v2 : Int32) (c m : jS), Inv c m → ∃ (r : Bool) (c' m' : jS), F_X8_keep v1 v2 c = some (r, c') ∧ F_X9_keep v1 v2 m = some (r, m') ∧ Inv c' m'
def ok_opens (nd n : Nat) (Inv : jS → jS → Prop) : Prop := ∀ (v1 : Int32) (v2 : Int32) (v3 : Int32) (v4 : Int32) (v5 : Int32) (v6 : Int32) (c m : jS), Inv c m → ∃ (r : Bool) (c' m' : jS), F_X8_opens n v1 v2 v3 v4 v5 v6 c = some (r, c') ∧ F_X9_opens n v1 v2 v3 v4 v5 v6 m = some (r, m') ∧ Inv c' m'
def ok_sets (nd n : Nat) (Inv : jS → jS → Prop) : Prop := ∀ (v1 : Int32) (v2 : Int32) (v3 : Int32) (v4 : Int32) (c m : jS), Inv c m → ∃ (r : Bool) (c' m' : jS), F_X8_sets v1 v2 v3 v4 c = some (r, c') ∧ F_X9_sets v1 v2 v3 v4 m = some (r, m') ∧ Inv c' m'
def ok_knock (nd n : Nat) (Inv : jS → jS → Prop) : Prop := ∀ (v1 : Int32) (v2 : Int32) (c m : jS), Inv c m → ∃ (r : Int32) (c' m' : jS), F_X8_knock n v1 v2 c = some (r, c') ∧ F_X9_knock n v1 v2 m = some (r, m') ∧ Inv c' m'
def ok_later (nd n : Nat) (Inv : jS → jS → Prop) : Prop := ∀ (v1 : Int32) (c m : jS), Inv c m → ∃ (r : Int32) (c' m' : jS), F_X8_later n v1 c = some (r, c') ∧ F_X9_later n v1 m = some (r, m') ∧ Inv c' m'
def ok_played (nd n : Nat) (Inv : jS → jS → Prop) : Prop := ∀ (v1 : Int32) (c m : jS), Inv c m → ∃ (r : Int32) (c' m' : jS), F_X8_played n v1 c = some (r, c') ∧ F_X9_played n v1 m = some (r, m') ∧ Inv c' m'
def ok_undo (nd n : Nat) (Inv : jS → jS → Prop) : Prop := ∀ (c m : jS), Inv c m → ∃ (r : Int32) (c' m' : jS), F_X8_undo c = some (r, c') ∧ F_X9_undo n m = some (r, m') ∧ Inv c' m'
def ok_traveller (nd n : Nat) (Inv : jS → jS → Prop) : Prop := ∀ (v1 : Int32) (c m : jS), Inv c m → ∃ (r : Int32), F_X8_traveller v1 c = r ∧ F_X9_traveller v1 m = some r ∧ Inv c m
def ok_way (nd n : Nat) (Inv : jS → jS → Prop) : Prop := ∀ (v1 : Int32) (v2 : Int32) (v3 : Int32) (v4 : Int32) (v5 : Int32) (v6 : Bool) (v7 : Int32) (c m : jS), Inv c m → ∃ (r : Int32) (c' m' : jS), F_X8_way nd n v1 v2 v3 v4 v5 v6 v7 c = some (r, c') ∧ F_X9_way n v1 v2 v3 v4 v5 v6 v7 m = some (r, m') ∧ Inv c' m'
def ok_guest (nd n : Nat) (Inv : jS → jS → Prop) : Prop := ∀ (v1 : Int32) (v2 : Int32) (v3 : Int32) (v4 : Int32) (c m : jS), Inv c m → ∃ (r : Int32) (c' m' : jS), F_X8_guest v1 v2 v3 v4 c = some (r, c') ∧ F_X9_guest v1 v2 v3 v4 m = some (r, m') ∧ Inv c' m'
def ok_clear (nd n : Nat) (Inv : jS → jS → Prop) : Prop := ∀ (c m : jS), Inv c m → ∃ (r : Int32) (c' m' : jS), F_X8_clear c = some (r, c') ∧ F_X9_clear m = some (r, m') ∧ Inv c' m'
def ok_earns (nd n : Nat) (Inv : jS → jS → Prop) : Prop := ∀ (v1 : Int32) (c m : jS), Inv c m → ∃ (r : Int32) (c' m' : jS), F_X8_earns nd n v1 c = some (r, c') ∧ F_X9_earns n v1 m = some (r, m') ∧ Inv c' m'
def ok_even (nd n : Nat) (Inv : jS → jS → Prop) : Prop := ∀ (c m : jS), Inv c m → ∃ (r : Int32) (c' m' : jS), F_X8_even nd n c = some (r, c') ∧ F_X9_even n m = some (r, m') ∧ Inv c' m'
def ok_rounds (nd n : Nat) (Inv : jS → jS → Prop) : Prop := ∀ (v1 : Int32) (c m : jS), Inv c m → ∃ (r : Int32) (c' m' : jS), F_X8_rounds nd n v1 c = some (r, c') ∧ F_X9_rounds n v1 m = some (r, m') ∧ Inv c' m'
def ok_seen (nd n : Nat) (Inv : jS → jS → Prop) : Prop := ∀ (v1 : Int32) (v2 : Int32) (v3 : Int32) (v4 : Int32) (v5 : Int32) (v6 : Bool) (c m : jS), Inv c m → ∃ (r : Int32) (c' m' : jS), F_X8_seen v1 v2 v3 v4 v5 v6 c = some (r, c') ∧ F_X9_seen v1 v2 v3 v4 v5 v6 m = some (r, m') ∧ Inv c' m'
def ok_kept (nd n : Nat) (Inv : jS → jS → Prop) : Prop := ∀ (v1 : Int32) (v2 : Int32) (c m : jS), Inv c m → ∃ (r : Int32) (c' m' : jS), F_X8_kept n v1 v2 c = some (r, c') ∧ F_X9_kept n v1 v2 m = some (r, m') ∧ Inv c' m'
def ok_image (nd n : Nat) (Inv : jS → jS → Prop) : Prop := ∀ (c m : jS), Inv c m → ∃ (r : Int32) (c' m' : jS), F_X8_image n c = some (r, c') ∧ F_X9_image n m = some (r, m') ∧ Inv c' m'
def ok_back (nd n : Nat) (Inv : jS → jS → Prop) : Prop := ∀ (c m : jS), Inv c m → ∃ (r : Int32) (c' m' : jS), F_X8_back n c = some (r, c') ∧ F_X9_back n m = some (r, m') ∧ Inv c' m'
def ok_about (nd n : Nat) (Inv : jS → jS → Prop) : Prop := ∀ (v1 : Int32) (c m : jS), Inv c m → ∃ (r : Int32), F_X8_about v1 c = some r ∧ F_X9_about v1 m = some r ∧ Inv c m
set_option maxHeartbeats 4000000 in
set_option maxRecDepth 100000 in
theorem law_rain {l : Launch} {D : va_G} {G : Nat → ClassId} {KV : jV} {nm : String} {K : Nat → Nat → va_W → Nat → List (Nat × Value) → List Value → Prop} (C : jK l D G KV RL code 4 (some .boolean) room_1 600000 7302250 nm (fun v _ => v = some (.int 1)) K) {nd n j : Nat} {adC adM : Nat → Nat} {Inv : jS → jS → Prop} {c m : jS} (hj : j + 8 ≤ KV.2.2.1) (hL : KV.2.2.1 ≤ 4097) (h_rain : ok_rain nd n Inv) (hI : Inv c m) (hend : ∀ c m : jS, Inv c m → K 69 396127 (jw 54 (cellC G nd) adC c ++ jw 15 (cellM G) adM m) 1101 [(0, .ref KV.2.1), (1, .ref (adC 0)), (2, .ref (adM 0)), (3, .int (Int32.ofNat j))] []) : K 69 396127 (jw 54 (cellC G nd) adC c ++ jw 15 (cellM G) adM m) 164 [(0, .ref KV.2.1), (1, .ref (adC 0)), (2, .ref (adM 0)), (3, .int (Int32.ofNat j))] [] := by
  refine j_aload_n C dL_law_164 1 rfl ?_
  refine j_aload_n C dL_law_165 0 rfl ?_
  refine j_iload_n C dL_law_166 3 rfl ?_
  refine j_iconst C dL_law_167 (v := 1) (by decide) ?_
  refine j_iadd C dL_law_168 ?_
  refine j_sld C dL_law_169 (jsx hj hL (k := 1) (by decide) rfl) ?_
  refine j_aload_n C dL_law_170 0 rfl ?_
  refine j_iload_n C dL_law_171 3 rfl ?_
  refine j_iconst C dL_law_172 (v := 2) (by decide) ?_
  refine j_iadd C dL_law_173 ?_
  refine j_sld C dL_law_174 (jsx hj hL (k := 2) (by decide) rfl) ?_
  obtain ⟨r, c1, m1, hc, hm, hI2⟩ := h_rain (KV.2.2.2 (Int32.toNatClampNeg (Int32.ofNat j + 1))) (KV.2.2.2 (Int32.toNatClampNeg (Int32.ofNat j + 2))) c m hI
  refine j_fV1 C (rest := []) (w1 := jw 54 (cellC G nd) adC c) (w2 := jw 15 (cellM G) adM m) (q0 := 0) (ci := 8) (r := (RX8, TX8, 9)) dL_law_175 (m_X8_rain (KV.2.2.2 (Int32.toNatClampNeg (Int32.ofNat j + 1))) (KV.2.2.2 (Int32.toNatClampNeg (Int32.ofNat j + 2))) c hc) kc_X8_rain w_370 w_371 w_1 w_372 (jw_at (by decide)) rfl rfl jy_X8_rain ⟨⟨Nat.le_of_ble_eq_true rfl, Nat.le_of_ble_eq_true rfl⟩, ⟨rfl, rfl⟩, ⟨Nat.le_of_ble_eq_true rfl, Nat.le_of_ble_eq_true rfl⟩⟩ (Nat.le_of_ble_eq_true rfl) rfl (fun v u hp => ?_)
  obtain ⟨rfl, rfl⟩ := hp
  refine j_aload_n C dL_law_178 2 rfl ?_
  refine j_aload_n C dL_law_179 0 rfl ?_
  refine j_iload_n C dL_law_180 3 rfl ?_
  refine j_iconst C dL_law_181 (v := 1) (by decide) ?_
  refine j_iadd C dL_law_182 ?_
  refine j_sld C dL_law_183 (jsx hj hL (k := 1) (by decide) rfl) ?_
  refine j_aload_n C dL_law_184 0 rfl ?_
  refine j_iload_n C dL_law_185 3 rfl ?_
  refine j_iconst C dL_law_186 (v := 2) (by decide) ?_
  refine j_iadd C dL_law_187 ?_
  refine j_sld C dL_law_188 (jsx hj hL (k := 2) (by decide) rfl) ?_
  refine j_fV2 C (rest := [.int (jb r)]) (w1 := jw 54 (cellC G nd) adC c1) (w2 := jw 15 (cellM G) adM m) (q0 := 0) (ci := 9) (r := (RX9, TX9, 32)) dL_law_189 (m_X9_rain (KV.2.2.2 (Int32.toNatClampNeg (Int32.ofNat j + 1))) (KV.2.2.2 (Int32.toNatClampNeg (Int32.ofNat j + 2))) m hm) kc_X9_rain w_1018 w_1019 w_11 w_1020 (jw_at (by decide)) rfl rfl jy_X9_rain ⟨⟨Nat.le_of_ble_eq_true rfl, Nat.le_of_ble_eq_true rfl⟩, ⟨rfl, rfl⟩, ⟨Nat.le_of_ble_eq_true rfl, Nat.le_of_ble_eq_true rfl⟩⟩ (Nat.le_of_ble_eq_true rfl) rfl (fun v u hp => ?_)
  obtain ⟨rfl, rfl⟩ := hp
  refine j_icmp_eq C dL_law_192 (tgt := 1101) (by decide) (fun _ => ?_) (fun cq => absurd rfl cq)
  exact hend c1 m1 hI2
set_option maxHeartbeats 4000000 in
set_option maxRecDepth 100000 in
theorem law_mood {l : Launch} {D : va_G} {G : Nat → ClassId} {KV : jV} {nm : String} {K : Nat → Nat → va_W → Nat → List (Nat × Value) → List Value → Prop} (C : jK l D G KV RL code 4 (some .boolean) room_1 600000 7302250 nm (fun v _ => v = some (.int 1)) K) {nd n j : Nat} {adC adM : Nat → Nat} {Inv : jS → jS → Prop} {c m : jS} (hj : j + 8 ≤ KV.2.2.1) (hL : KV.2.2.1 ≤ 4097) (h_mood : ok_mood nd n Inv) (hI : Inv c m) (hend : ∀ c m : jS, Inv c m → K 69 396127 (jw 54 (cellC G nd) adC c ++ jw 15 (cellM G) adM m) 1101 [(0, .ref KV.2.1), (1, .ref (adC 0)), (2, .ref (adM 0)), (3, .int (Int32.ofNat j))] []) : K 69 396127 (jw 54 (cellC G nd) adC c ++ jw 15 (cellM G) adM m) 197 [(0, .ref KV.2.1), (1, .ref (adC 0)), (2, .ref (adM 0)), (3, .int (Int32.ofNat j))] [] := by
  refine j_aload_n C dL_law_197 1 rfl ?_
  refine j_aload_n C dL_law_198 0 rfl ?_
  refine j_iload_n C dL_law_199 3 rfl ?_
  refine j_iconst C dL_law_200 (v := 1) (by decide) ?_
  refine j_iadd C dL_law_201 ?_
  refine j_sld C dL_law_202 (jsx hj hL (k := 1) (by decide) rfl) ?_
  refine j_aload_n C dL_law_203 0 rfl ?_
  refine j_iload_n C dL_law_204 3 rfl ?_
  refine j_iconst C dL_law_205 (v := 2) (by decide) ?_
  refine j_iadd C dL_law_206 ?_
  refine j_sld C dL_law_207 (jsx hj hL (k := 2) (by decide) rfl) ?_
  obtain ⟨r, c1, m1, hc, hm, hI2⟩ := h_mood (KV.2.2.2 (Int32.toNatClampNeg (Int32.ofNat j + 1))) (KV.2.2.2 (Int32.toNatClampNeg (Int32.ofNat j + 2))) c m hI
  refine j_fV1 C (rest := []) (w1 := jw 54 (cellC G nd) adC c) (w2 := jw 15 (cellM G) adM m) (q0 := 0) (ci := 8) (r := (RX8, TX8, 9)) dL_law_208 (m_X8_mood (KV.2.2.2 (Int32.toNatClampNeg (Int32.ofNat j + 1))) (KV.2.2.2 (Int32.toNatClampNeg (Int32.ofNat j + 2))) c hc) kc_X8_mood w_392 w_393 w_1 w_394 (jw_at (by decide)) rfl rfl jy_X8_mood ⟨⟨Nat.le_of_ble_eq_true rfl, Nat.le_of_ble_eq_true rfl⟩, ⟨rfl, rfl⟩, ⟨Nat.le_of_ble_eq_true rfl, Nat.le_of_ble_eq_true rfl⟩⟩ (Nat.le_of_ble_eq_true rfl) rfl (fun v u hp => ?_)
  obtain ⟨rfl, rfl⟩ := hp
  refine j_aload_n C dL_law_211 2 rfl ?_
  refine j_aload_n C dL_law_212 0 rfl ?_
  refine j_iload_n C dL_law_213 3 rfl ?_
  refine j_iconst C dL_law_214 (v := 1) (by decide) ?_
  refine j_iadd C dL_law_215 ?_
  refine j_sld C dL_law_216 (jsx hj hL (k := 1) (by decide) rfl) ?_
  refine j_aload_n C dL_law_217 0 rfl ?_
  refine j_iload_n C dL_law_218 3 rfl ?_
  refine j_iconst C dL_law_219 (v := 2) (by decide) ?_
  refine j_iadd C dL_law_220 ?_
  refine j_sld C dL_law_221 (jsx hj hL (k := 2) (by decide) rfl) ?_
  refine j_fV2 C (rest := [.int (jb r)]) (w1 := jw 54 (cellC G nd) adC c1) (w2 := jw 15 (cellM G) adM m) (q0 := 0) (ci := 9) (r := (RX9, TX9, 32)) dL_law_222 (m_X9_mood (KV.2.2.2 (Int32.toNatClampNeg (Int32.ofNat j + 1))) (KV.2.2.2 (Int32.toNatClampNeg (Int32.ofNat j + 2))) m hm) kc_X9_mood w_1028 w_1029 w_11 w_1030 (jw_at (by decide)) rfl rfl jy_X9_mood ⟨⟨Nat.le_of_ble_eq_true rfl, Nat.le_of_ble_eq_true rfl⟩, ⟨rfl, rfl⟩, ⟨Nat.le_of_ble_eq_true rfl, Nat.le_of_ble_eq_true rfl⟩⟩ (Nat.le_of_ble_eq_true rfl) rfl (fun v u hp => ?_)
  obtain ⟨rfl, rfl⟩ := hp
  refine j_icmp_eq C dL_law_225 (tgt := 1101) (by decide) (fun _ => ?_) (fun cq => absurd rfl cq)
  exact hend c1 m1 hI2
set_option maxHeartbeats 4000000 in
set_option maxRecDepth 100000 in
theorem law_moods {l : Launch} {D : va_G} {G : Nat → ClassId} {KV : jV} {nm : String} {K : Nat → Nat → va_W → Nat → List (Nat × Value) → List Value → Prop} (C : jK l D G KV RL code 4 (some .boolean) room_1 600000 7302250 nm (fun v _ => v = some (.int 1)) K) {nd n j : Nat} {adC adM : Nat → Nat} {Inv : jS → jS → Prop} {c m : jS} (hj : j + 8 ≤ KV.2.2.1) (hL : KV.2.2.1 ≤ 4097) (h_moods : ok_moods nd n Inv) (hI : Inv c m) (hend : ∀ c m : jS, Inv c m → K 69 396127 (jw 54 (cellC G nd) adC c ++ jw 15 (cellM G) adM m) 1101 [(0, .ref KV.2.1), (1, .ref (adC 0)), (2, .ref (adM 0)), (3, .int (Int32.ofNat j))] []) : K 69 396127 (jw 54 (cellC G nd) adC c ++ jw 15 (cellM G) adM m) 230 [(0, .ref KV.2.1), (1, .ref (adC 0)), (2, .ref (adM 0)), (3, .int (Int32.ofNat j))] [] := by
  refine j_aload_n C dL_law_230 1 rfl ?_
  refine j_aload_n C dL_law_231 0 rfl ?_
  refine j_iload_n C dL_law_232 3 rfl ?_
  refine j_iconst C dL_law_233 (v := 1) (by decide) ?_
  refine j_iadd C dL_law_234 ?_
  refine j_sld C dL_law_235 (jsx hj hL (k := 1) (by decide) rfl) ?_
  obtain ⟨r, c1, m1, hc, hm, hI2⟩ := h_moods (KV.2.2.2 (Int32.toNatClampNeg (Int32.ofNat j + 1))) c m hI
  refine j_fV1 C (rest := []) (w1 := jw 54 (cellC G nd) adC c) (w2 := jw 15 (cellM G) adM m) (q0 := 0) (ci := 8) (r := (RX8, TX8, 9)) dL_law_236 (m_X8_moods n (KV.2.2.2 (Int32.toNatClampNeg (Int32.ofNat j + 1))) c hc) kc_X8_moods w_400 w_401 w_1 w_402 (jw_at (by decide)) rfl rfl jy_X8_moods ⟨⟨Nat.le_of_ble_eq_true rfl, Nat.le_of_ble_eq_true rfl⟩, ⟨rfl, rfl⟩, ⟨Nat.le_of_ble_eq_true rfl, Nat.le_of_ble_eq_true rfl⟩⟩ (Nat.le_of_ble_eq_true rfl) rfl (fun v u hp => ?_)
  obtain ⟨rfl, rfl⟩ := hp
  refine j_aload_n C dL_law_239 2 rfl ?_
  refine j_aload_n C dL_law_240 0 rfl ?_
  refine j_iload_n C dL_law_241 3 rfl ?_
  refine j_iconst C dL_law_242 (v := 1) (by decide) ?_
  refine j_iadd C dL_law_243 ?_
  refine j_sld C dL_law_244 (jsx hj hL (k := 1) (by decide) rfl) ?_
  refine j_fV2 C (rest := [.int r]) (w1 := jw 54 (cellC G nd) adC c1) (w2 := jw 15 (cellM G) adM m) (q0 := 0) (ci := 9) (r := (RX9, TX9, 32)) dL_law_245 (m_X9_moods n (KV.2.2.2 (Int32.toNatClampNeg (Int32.ofNat j + 1))) m hm) kc_X9_moods w_1036 w_1037 w_11 w_1038 (jw_at (by decide)) rfl rfl jy_X9_moods ⟨⟨Nat.le_of_ble_eq_true rfl, Nat.le_of_ble_eq_true rfl⟩, ⟨rfl, rfl⟩, ⟨Nat.le_of_ble_eq_true rfl, Nat.le_of_ble_eq_true rfl⟩⟩ (Nat.le_of_ble_eq_true rfl) rfl (fun v u hp => ?_)
  obtain ⟨rfl, rfl⟩ := hp
  refine j_icmp_eq C dL_law_248 (tgt := 1101) (by decide) (fun _ => ?_) (fun cq => absurd rfl cq)
  exact hend c1 m1 hI2
set_option maxHeartbeats 4000000 in
set_option maxRecDepth 100000 in
theorem law_hinge {l : Launch} {D : va_G} {G : Nat → ClassId} {KV : jV} {nm : String} {K : Nat → Nat → va_W → Nat → List (Nat × Value) → List Value → Prop} (C : jK l D G KV RL code 4 (some .boolean) room_1 600000 7302250 nm (fun v _ => v = some (.int 1)) K) {nd n j : Nat} {adC adM : Nat → Nat} {Inv : jS → jS → Prop} {c m : jS} (hj : j + 8 ≤ KV.2.2.1) (hL : KV.2.2.1 ≤ 4097) (h_hinge : ok_hinge nd n Inv) (hI : Inv c m) (hend : ∀ c m : jS, Inv c m → K 69 396127 (jw 54 (cellC G nd) adC c ++ jw 15 (cellM G) adM m) 1101 [(0, .ref KV.2.1), (1, .ref (adC 0)), (2, .ref (adM 0)), (3, .int (Int32.ofNat j))] []) : K 69 396127 (jw 54 (cellC G nd) adC c ++ jw 15 (cellM G) adM m) 253 [(0, .ref KV.2.1), (1, .ref (adC 0)), (2, .ref (adM 0)), (3, .int (Int32.ofNat j))] [] := by
  by_cases hz : (KV.2.2.2 (Int32.toNatClampNeg (Int32.ofNat j + 2))) = 0
  · refine j_aload_n C dL_law_253 1 rfl ?_
    refine j_aload_n C dL_law_254 0 rfl ?_
    refine j_iload_n C dL_law_255 3 rfl ?_
    refine j_iconst C dL_law_256 (v := 1) (by decide) ?_
    refine j_iadd C dL_law_257 ?_
    refine j_sld C dL_law_258 (jsx hj hL (k := 1) (by decide) rfl) ?_
    refine j_aload_n C dL_law_259 0 rfl ?_
    refine j_iload_n C dL_law_260 3 rfl ?_
    refine j_iconst C dL_law_261 (v := 2) (by decide) ?_
    refine j_iadd C dL_law_262 ?_
    refine j_sld C dL_law_263 (jsx hj hL (k := 2) (by decide) rfl) ?_
    refine j_if_eq C dL_law_264 (tgt := 271) (by decide) (fun _ => ?_) (fun cq => absurd hz cq)
    refine j_iconst C dL_law_271 (v := 0) (by decide) ?_
    obtain ⟨r, c1, m1, hc, hm, hI2⟩ := h_hinge (KV.2.2.2 (Int32.toNatClampNeg (Int32.ofNat j + 1))) false c m hI
    refine j_fV1 C (rest := []) (w1 := jw 54 (cellC G nd) adC c) (w2 := jw 15 (cellM G) adM m) (q0 := 0) (ci := 8) (r := (RX8, TX8, 9)) dL_law_272 (m_X8_hinge (KV.2.2.2 (Int32.toNatClampNeg (Int32.ofNat j + 1))) false c hc) kc_X8_hinge w_404 w_405 w_1 w_406 (jw_at (by decide)) rfl rfl jy_X8_hinge ⟨⟨Nat.le_of_ble_eq_true rfl, Nat.le_of_ble_eq_true rfl⟩, ⟨rfl, rfl⟩, ⟨Nat.le_of_ble_eq_true rfl, Nat.le_of_ble_eq_true rfl⟩⟩ (Nat.le_of_ble_eq_true rfl) rfl (fun v u hp => ?_)
    obtain ⟨rfl, rfl⟩ := hp
    refine j_aload_n C dL_law_275 2 rfl ?_
    refine j_aload_n C dL_law_276 0 rfl ?_
    refine j_iload_n C dL_law_277 3 rfl ?_
    refine j_iconst C dL_law_278 (v := 1) (by decide) ?_
    refine j_iadd C dL_law_279 ?_
    refine j_sld C dL_law_280 (jsx hj hL (k := 1) (by decide) rfl) ?_
    refine j_aload_n C dL_law_281 0 rfl ?_
    refine j_iload_n C dL_law_282 3 rfl ?_
    refine j_iconst C dL_law_283 (v := 2) (by decide) ?_
    refine j_iadd C dL_law_284 ?_
    refine j_sld C dL_law_285 (jsx hj hL (k := 2) (by decide) rfl) ?_
    refine j_if_eq C dL_law_286 (tgt := 293) (by decide) (fun _ => ?_) (fun cq => absurd hz cq)
    refine j_iconst C dL_law_293 (v := 0) (by decide) ?_
    refine j_fV2 C (rest := [.int (jb r)]) (w1 := jw 54 (cellC G nd) adC c1) (w2 := jw 15 (cellM G) adM m) (q0 := 0) (ci := 9) (r := (RX9, TX9, 32)) dL_law_294 (m_X9_hinge (KV.2.2.2 (Int32.toNatClampNeg (Int32.ofNat j + 1))) false m hm) kc_X9_hinge w_1040 w_1041 w_11 w_1042 (jw_at (by decide)) rfl rfl jy_X9_hinge ⟨⟨Nat.le_of_ble_eq_true rfl, Nat.le_of_ble_eq_true rfl⟩, ⟨rfl, rfl⟩, ⟨Nat.le_of_ble_eq_true rfl, Nat.le_of_ble_eq_true rfl⟩⟩ (Nat.le_of_ble_eq_true rfl) rfl (fun v u hp => ?_)
    obtain ⟨rfl, rfl⟩ := hp
    refine j_icmp_eq C dL_law_297 (tgt := 1101) (by decide) (fun _ => ?_) (fun cq => absurd rfl cq)
    exact hend c1 m1 hI2
  · refine j_aload_n C dL_law_253 1 rfl ?_
    refine j_aload_n C dL_law_254 0 rfl ?_
    refine j_iload_n C dL_law_255 3 rfl ?_
    refine j_iconst C dL_law_256 (v := 1) (by decide) ?_
    refine j_iadd C dL_law_257 ?_
    refine j_sld C dL_law_258 (jsx hj hL (k := 1) (by decide) rfl) ?_
    refine j_aload_n C dL_law_259 0 rfl ?_
    refine j_iload_n C dL_law_260 3 rfl ?_
    refine j_iconst C dL_law_261 (v := 2) (by decide) ?_
    refine j_iadd C dL_law_262 ?_
    refine j_sld C dL_law_263 (jsx hj hL (k := 2) (by decide) rfl) ?_
    refine j_if_eq C dL_law_264 (tgt := 271) (by decide) (fun cq => absurd cq hz) (fun _ => ?_)
    refine j_iconst C dL_law_267 (v := 1) (by decide) ?_
    refine j_goto C dL_law_268 (tgt := 272) (by decide) ?_
    obtain ⟨r, c1, m1, hc, hm, hI2⟩ := h_hinge (KV.2.2.2 (Int32.toNatClampNeg (Int32.ofNat j + 1))) true c m hI
    refine j_fV1 C (rest := []) (w1 := jw 54 (cellC G nd) adC c) (w2 := jw 15 (cellM G) adM m) (q0 := 0) (ci := 8) (r := (RX8, TX8, 9)) dL_law_272 (m_X8_hinge (KV.2.2.2 (Int32.toNatClampNeg (Int32.ofNat j + 1))) true c hc) kc_X8_hinge w_404 w_405 w_1 w_406 (jw_at (by decide)) rfl rfl jy_X8_hinge ⟨⟨Nat.le_of_ble_eq_true rfl, Nat.le_of_ble_eq_true rfl⟩, ⟨rfl, rfl⟩, ⟨Nat.le_of_ble_eq_true rfl, Nat.le_of_ble_eq_true rfl⟩⟩ (Nat.le_of_ble_eq_true rfl) rfl (fun v u hp => ?_)
    obtain ⟨rfl, rfl⟩ := hp
    refine j_aload_n C dL_law_275 2 rfl ?_
    refine j_aload_n C dL_law_276 0 rfl ?_
    refine j_iload_n C dL_law_277 3 rfl ?_
    refine j_iconst C dL_law_278 (v := 1) (by decide) ?_
    refine j_iadd C dL_law_279 ?_
    refine j_sld C dL_law_280 (jsx hj hL (k := 1) (by decide) rfl) ?_
    refine j_aload_n C dL_law_281 0 rfl ?_
    refine j_iload_n C dL_law_282 3 rfl ?_
    refine j_iconst C dL_law_283 (v := 2) (by decide) ?_
    refine j_iadd C dL_law_284 ?_
    refine j_sld C dL_law_285 (jsx hj hL (k := 2) (by decide) rfl) ?_
    refine j_if_eq C dL_law_286 (tgt := 293) (by decide) (fun cq => absurd cq hz) (fun _ => ?_)
    refine j_iconst C dL_law_289 (v := 1) (by decide) ?_
    refine j_goto C dL_law_290 (tgt := 294) (by decide) ?_
    refine j_fV2 C (rest := [.int (jb r)]) (w1 := jw 54 (cellC G nd) adC c1) (w2 := jw 15 (cellM G) adM m) (q0 := 0) (ci := 9) (r := (RX9, TX9, 32)) dL_law_294 (m_X9_hinge (KV.2.2.2 (Int32.toNatClampNeg (Int32.ofNat j + 1))) true m hm) kc_X9_hinge w_1040 w_1041 w_11 w_1042 (jw_at (by decide)) rfl rfl jy_X9_hinge ⟨⟨Nat.le_of_ble_eq_true rfl, Nat.le_of_ble_eq_true rfl⟩, ⟨rfl, rfl⟩, ⟨Nat.le_of_ble_eq_true rfl, Nat.le_of_ble_eq_true rfl⟩⟩ (Nat.le_of_ble_eq_true rfl) rfl (fun v u hp => ?_)
    obtain ⟨rfl, rfl⟩ := hp
    refine j_icmp_eq C dL_law_297 (tgt := 1101) (by decide) (fun _ => ?_) (fun cq => absurd rfl cq)
    exact hend c1 m1 hI2
set_option maxHeartbeats 4000000 in
set_option maxRecDepth 100000 in
theorem law_feed {l : Launch} {D : va_G} {G : Nat → ClassId} {KV : jV} {nm : String} {K : Nat → Nat → va_W → Nat → List (Nat × Value) → List Value → Prop} (C : jK l D G KV RL code 4 (some .boolean) room_1 600000 7302250 nm (fun v _ => v = some (.int 1)) K) {nd n j : Nat} {adC adM : Nat → Nat} {Inv : jS → jS → Prop} {c m : jS} (hj : j + 8 ≤ KV.2.2.1) (hL : KV.2.2.1 ≤ 4097) (h_feed : ok_feed nd n Inv) (hI : Inv c m) (hend : ∀ c m : jS, Inv c m → K 69 396127 (jw 54 (cellC G nd) adC c ++ jw 15 (cellM G) adM m) 1101 [(0, .ref KV.2.1), (1, .ref (adC 0)), (2, .ref (adM 0)), (3, .int (Int32.ofNat j))] []) : K 69 396127 (jw 54 (cellC G nd) adC c ++ jw 15 (cellM G) adM m) 302 [(0, .ref KV.2.1), (1, .ref (adC 0)), (2, .ref (adM 0)), (3, .int (Int32.ofNat j))] [] := by
  refine j_aload_n C dL_law_302 1 rfl ?_
  refine j_aload_n C dL_law_303 0 rfl ?_
  refine j_iload_n C dL_law_304 3 rfl ?_
  refine j_iconst C dL_law_305 (v := 1) (by decide) ?_
  refine j_iadd C dL_law_306 ?_
  refine j_sld C dL_law_307 (jsx hj hL (k := 1) (by decide) rfl) ?_
  refine j_aload_n C dL_law_308 0 rfl ?_
  refine j_iload_n C dL_law_309 3 rfl ?_
  refine j_iconst C dL_law_310 (v := 2) (by decide) ?_
  refine j_iadd C dL_law_311 ?_
  refine j_sld C dL_law_312 (jsx hj hL (k := 2) (by decide) rfl) ?_
  refine j_aload_n C dL_law_313 0 rfl ?_
  refine j_iload_n C dL_law_314 3 rfl ?_
  refine j_iconst C dL_law_315 (v := 3) (by decide) ?_
  refine j_iadd C dL_law_316 ?_
  refine j_sld C dL_law_317 (jsx hj hL (k := 3) (by decide) rfl) ?_
  refine j_aload_n C dL_law_318 0 rfl ?_
  refine j_iload_n C dL_law_319 3 rfl ?_
  refine j_iconst C dL_law_320 (v := 4) (by decide) ?_
  refine j_iadd C dL_law_321 ?_
  refine j_sld C dL_law_322 (jsx hj hL (k := 4) (by decide) rfl) ?_
  refine j_aload_n C dL_law_323 0 rfl ?_
  refine j_iload_n C dL_law_324 3 rfl ?_
  refine j_iconst C dL_law_325 (v := 5) (by decide) ?_
  refine j_iadd C dL_law_326 ?_
  refine j_sld C dL_law_327 (jsx hj hL (k := 5) (by decide) rfl) ?_
  obtain ⟨r, c1, m1, hc, hm, hI2⟩ := h_feed (KV.2.2.2 (Int32.toNatClampNeg (Int32.ofNat j + 1))) (KV.2.2.2 (Int32.toNatClampNeg (Int32.ofNat j + 2))) (KV.2.2.2 (Int32.toNatClampNeg (Int32.ofNat j + 3))) (KV.2.2.2 (Int32.toNatClampNeg (Int32.ofNat j + 4))) (KV.2.2.2 (Int32.toNatClampNeg (Int32.ofNat j + 5))) c m hI
  refine j_fV1 C (rest := []) (w1 := jw 54 (cellC G nd) adC c) (w2 := jw 15 (cellM G) adM m) (q0 := 0) (ci := 8) (r := (RX8, TX8, 9)) dL_law_328 (m_X8_feed n (KV.2.2.2 (Int32.toNatClampNeg (Int32.ofNat j + 1))) (KV.2.2.2 (Int32.toNatClampNeg (Int32.ofNat j + 2))) (KV.2.2.2 (Int32.toNatClampNeg (Int32.ofNat j + 3))) (KV.2.2.2 (Int32.toNatClampNeg (Int32.ofNat j + 4))) (KV.2.2.2 (Int32.toNatClampNeg (Int32.ofNat j + 5))) c hc) kc_X8_feed w_408 w_409 w_1 w_410 (jw_at (by decide)) rfl rfl jy_X8_feed ⟨⟨Nat.le_of_ble_eq_true rfl, Nat.le_of_ble_eq_true rfl⟩, ⟨rfl, rfl⟩, ⟨Nat.le_of_ble_eq_true rfl, Nat.le_of_ble_eq_true rfl⟩⟩ (Nat.le_of_ble_eq_true rfl) rfl (fun v u hp => ?_)
  obtain ⟨rfl, rfl⟩ := hp
  refine j_aload_n C dL_law_331 2 rfl ?_
  refine j_aload_n C dL_law_332 0 rfl ?_
  refine j_iload_n C dL_law_333 3 rfl ?_
  refine j_iconst C dL_law_334 (v := 1) (by decide) ?_
  refine j_iadd C dL_law_335 ?_
  refine j_sld C dL_law_336 (jsx hj hL (k := 1) (by decide) rfl) ?_
  refine j_aload_n C dL_law_337 0 rfl ?_
  refine j_iload_n C dL_law_338 3 rfl ?_
  refine j_iconst C dL_law_339 (v := 2) (by decide) ?_
  refine j_iadd C dL_law_340 ?_
  refine j_sld C dL_law_341 (jsx hj hL (k := 2) (by decide) rfl) ?_
  refine j_aload_n C dL_law_342 0 rfl ?_
  refine j_iload_n C dL_law_343 3 rfl ?_
  refine j_iconst C dL_law_344 (v := 3) (by decide) ?_
  refine j_iadd C dL_law_345 ?_
  refine j_sld C dL_law_346 (jsx hj hL (k := 3) (by decide) rfl) ?_
  refine j_aload_n C dL_law_347 0 rfl ?_
  refine j_iload_n C dL_law_348 3 rfl ?_
  refine j_iconst C dL_law_349 (v := 4) (by decide) ?_
  refine j_iadd C dL_law_350 ?_
  refine j_sld C dL_law_351 (jsx hj hL (k := 4) (by decide) rfl) ?_
  refine j_aload_n C dL_law_352 0 rfl ?_
  refine j_iload_n C dL_law_353 3 rfl ?_
  refine j_iconst C dL_law_354 (v := 5) (by decide) ?_
  refine j_iadd C dL_law_355 ?_
  refine j_sld C dL_law_356 (jsx hj hL (k := 5) (by decide) rfl) ?_
  refine j_fV2 C (rest := [.int r]) (w1 := jw 54 (cellC G nd) adC c1) (w2 := jw 15 (cellM G) adM m) (q0 := 0) (ci := 9) (r := (RX9, TX9, 32)) dL_law_357 (m_X9_feed n (KV.2.2.2 (Int32.toNatClampNeg (Int32.ofNat j + 1))) (KV.2.2.2 (Int32.toNatClampNeg (Int32.ofNat j + 2))) (KV.2.2.2 (Int32.toNatClampNeg (Int32.ofNat j + 3))) (KV.2.2.2 (Int32.toNatClampNeg (Int32.ofNat j + 4))) (KV.2.2.2 (Int32.toNatClampNeg (Int32.ofNat j + 5))) m hm) kc_X9_feed w_1044 w_1045 w_11 w_1046 (jw_at (by decide)) rfl rfl jy_X9_feed ⟨⟨Nat.le_of_ble_eq_true rfl, Nat.le_of_ble_eq_true rfl⟩, ⟨rfl, rfl⟩, ⟨Nat.le_of_ble_eq_true rfl, Nat.le_of_ble_eq_true rfl⟩⟩ (Nat.le_of_ble_eq_true rfl) rfl (fun v u hp => ?_)
  obtain ⟨rfl, rfl⟩ := hp
  refine j_icmp_eq C dL_law_360 (tgt := 1101) (by decide) (fun _ => ?_) (fun cq => absurd rfl cq)
  exact hend c1 m1 hI2
set_option maxHeartbeats 4000000 in
set_option maxRecDepth 100000 in
theorem law_end {l : Launch} {D : va_G} {G : Nat → ClassId} {KV : jV} {nm : String} {K : Nat → Nat → va_W → Nat → List (Nat × Value) → List Value → Prop} (C : jK l D G KV RL code 4 (some .boolean) room_1 600000 7302250 nm (fun v _ => v = some (.int 1)) K) {nd n j : Nat} {adC adM : Nat → Nat} {Inv : jS → jS → Prop} {c m : jS} (hj : j + 8 ≤ KV.2.2.1) (hL : KV.2.2.1 ≤ 4097) (h_end : ok_end nd n Inv) (hI : Inv c m) (hend : ∀ c m : jS, Inv c m → K 69 396127 (jw 54 (cellC G nd) adC c ++ jw 15 (cellM G) adM m) 1101 [(0, .ref KV.2.1), (1, .ref (adC 0)), (2, .ref (adM 0)), (3, .int (Int32.ofNat j))] []) : K 69 396127 (jw 54 (cellC G nd) adC c ++ jw 15 (cellM G) adM m) 365 [(0, .ref KV.2.1), (1, .ref (adC 0)), (2, .ref (adM 0)), (3, .int (Int32.ofNat j))] [] := by
  refine j_aload_n C dL_law_365 1 rfl ?_
  refine j_aload_n C dL_law_366 0 rfl ?_
  refine j_iload_n C dL_law_367 3 rfl ?_
  refine j_iconst C dL_law_368 (v := 1) (by decide) ?_
  refine j_iadd C dL_law_369 ?_
  refine j_sld C dL_law_370 (jsx hj hL (k := 1) (by decide) rfl) ?_
  obtain ⟨r, c1, m1, hc, hm, hI2⟩ := h_end (KV.2.2.2 (Int32.toNatClampNeg (Int32.ofNat j + 1))) c m hI
  refine j_fV1 C (rest := []) (w1 := jw 54 (cellC G nd) adC c) (w2 := jw 15 (cellM G) adM m) (q0 := 0) (ci := 8) (r := (RX8, TX8, 9)) dL_law_371 (m_X8_end (KV.2.2.2 (Int32.toNatClampNeg (Int32.ofNat j + 1))) c hc) kc_X8_end w_416 w_417 w_1 w_418 (jw_at (by decide)) rfl rfl jy_X8_end ⟨⟨Nat.le_of_ble_eq_true rfl, Nat.le_of_ble_eq_true rfl⟩, ⟨rfl, rfl⟩, ⟨Nat.le_of_ble_eq_true rfl, Nat.le_of_ble_eq_true rfl⟩⟩ (Nat.le_of_ble_eq_true rfl) rfl (fun v u hp => ?_)
  obtain ⟨rfl, rfl⟩ := hp
  refine j_aload_n C dL_law_374 2 rfl ?_
  refine j_aload_n C dL_law_375 0 rfl ?_
  refine j_iload_n C dL_law_376 3 rfl ?_
  refine j_iconst C dL_law_377 (v := 1) (by decide) ?_
  refine j_iadd C dL_law_378 ?_
  refine j_sld C dL_law_379 (jsx hj hL (k := 1) (by decide) rfl) ?_
  refine j_fV2 C (rest := [.int r]) (w1 := jw 54 (cellC G nd) adC c1) (w2 := jw 15 (cellM G) adM m) (q0 := 0) (ci := 9) (r := (RX9, TX9, 32)) dL_law_380 (m_X9_end (KV.2.2.2 (Int32.toNatClampNeg (Int32.ofNat j + 1))) m hm) kc_X9_end w_1052 w_1053 w_11 w_1054 (jw_at (by decide)) rfl rfl jy_X9_end ⟨⟨Nat.le_of_ble_eq_true rfl, Nat.le_of_ble_eq_true rfl⟩, ⟨rfl, rfl⟩, ⟨Nat.le_of_ble_eq_true rfl, Nat.le_of_ble_eq_true rfl⟩⟩ (Nat.le_of_ble_eq_true rfl) rfl (fun v u hp => ?_)
  obtain ⟨rfl, rfl⟩ := hp
  refine j_icmp_eq C dL_law_383 (tgt := 1101) (by decide) (fun _ => ?_) (fun cq => absurd rfl cq)
  exact hend c1 m1 hI2
set_option maxHeartbeats 4000000 in
set_option maxRecDepth 100000 in
theorem law_text {l : Launch} {D : va_G} {G : Nat → ClassId} {KV : jV} {nm : String} {K : Nat → Nat → va_W → Nat → List (Nat × Value) → List Value → Prop} (C : jK l D G KV RL code 4 (some .boolean) room_1 600000 7302250 nm (fun v _ => v = some (.int 1)) K) {nd n j : Nat} {adC adM : Nat → Nat} {Inv : jS → jS → Prop} {c m : jS} (hj : j + 8 ≤ KV.2.2.1) (hL : KV.2.2.1 ≤ 4097) (h_text : ok_text nd n Inv) (hI : Inv c m) (hend : ∀ c m : jS, Inv c m → K 69 396127 (jw 54 (cellC G nd) adC c ++ jw 15 (cellM G) adM m) 1101 [(0, .ref KV.2.1), (1, .ref (adC 0)), (2, .ref (adM 0)), (3, .int (Int32.ofNat j))] []) : K 69 396127 (jw 54 (cellC G nd) adC c ++ jw 15 (cellM G) adM m) 388 [(0, .ref KV.2.1), (1, .ref (adC 0)), (2, .ref (adM 0)), (3, .int (Int32.ofNat j))] [] := by
  refine j_aload_n C dL_law_388 1 rfl ?_
  obtain ⟨r, c1, m1, hc, hm, hI2⟩ := h_text c m hI
  refine j_fV1 C (rest := []) (w1 := jw 54 (cellC G nd) adC c) (w2 := jw 15 (cellM G) adM m) (q0 := 0) (ci := 8) (r := (RX8, TX8, 9)) dL_law_389 (m_X8_text n c hc) kc_X8_text w_420 w_421 w_1 w_422 (jw_at (by decide)) rfl rfl jy_X8_text ⟨⟨Nat.le_of_ble_eq_true rfl, Nat.le_of_ble_eq_true rfl⟩, ⟨rfl, rfl⟩, ⟨Nat.le_of_ble_eq_true rfl, Nat.le_of_ble_eq_true rfl⟩⟩ (Nat.le_of_ble_eq_true rfl) rfl (fun v u hp => ?_)
  obtain ⟨rfl, rfl⟩ := hp
  refine j_aload_n C dL_law_392 2 rfl ?_
  refine j_fV2 C (rest := [.int r]) (w1 := jw 54 (cellC G nd) adC c1) (w2 := jw 15 (cellM G) adM m) (q0 := 0) (ci := 9) (r := (RX9, TX9, 32)) dL_law_393 (m_X9_text n m hm) kc_X9_text w_1056 w_1057 w_11 w_1058 (jw_at (by decide)) rfl rfl jy_X9_text ⟨⟨Nat.le_of_ble_eq_true rfl, Nat.le_of_ble_eq_true rfl⟩, ⟨rfl, rfl⟩, ⟨Nat.le_of_ble_eq_true rfl, Nat.le_of_ble_eq_true rfl⟩⟩ (Nat.le_of_ble_eq_true rfl) rfl (fun v u hp => ?_)
  obtain ⟨rfl, rfl⟩ := hp
  refine j_icmp_eq C dL_law_396 (tgt := 1101) (by decide) (fun _ => ?_) (fun cq => absurd rfl cq)
  exact hend c1 m1 hI2
set_option maxHeartbeats 4000000 in
set_option maxRecDepth 100000 in
theorem law_fault {l : Launch} {D : va_G} {G : Nat → ClassId} {KV : jV} {nm : String} {K : Nat → Nat → va_W → Nat → List (Nat × Value) → List Value → Prop} (C : jK l D G KV RL code 4 (some .boolean) room_1 600000 7302250 nm (fun v _ => v = some (.int 1)) K) {nd n j : Nat} {adC adM : Nat → Nat} {Inv : jS → jS → Prop} {c m : jS} (hj : j + 8 ≤ KV.2.2.1) (hL : KV.2.2.1 ≤ 4097) (h_fault : ok_fault nd n Inv) (hI : Inv c m) (hend : ∀ c m : jS, Inv c m → K 69 396127 (jw 54 (cellC G nd) adC c ++ jw 15 (cellM G) adM m) 1101 [(0, .ref KV.2.1), (1, .ref (adC 0)), (2, .ref (adM 0)), (3, .int (Int32.ofNat j))] []) : K 69 396127 (jw 54 (cellC G nd) adC c ++ jw 15 (cellM G) adM m) 401 [(0, .ref KV.2.1), (1, .ref (adC 0)), (2, .ref (adM 0)), (3, .int (Int32.ofNat j))] [] := by
  refine j_aload_n C dL_law_401 1 rfl ?_
  refine j_aload_n C dL_law_402 0 rfl ?_
  refine j_iload_n C dL_law_403 3 rfl ?_
  refine j_iconst C dL_law_404 (v := 1) (by decide) ?_
  refine j_iadd C dL_law_405 ?_
  refine j_sld C dL_law_406 (jsx hj hL (k := 1) (by decide) rfl) ?_
  obtain ⟨r, hc, hm, hI2⟩ := h_fault (KV.2.2.2 (Int32.toNatClampNeg (Int32.ofNat j + 1))) c m hI
  refine j_fV1 C (rest := []) (w1 := jw 54 (cellC G nd) adC c) (w2 := jw 15 (cellM G) adM m) (q0 := 0) (ci := 8) (r := (RX8, TX8, 9)) dL_law_407 (m_X8_fault (KV.2.2.2 (Int32.toNatClampNeg (Int32.ofNat j + 1))) c hc) kc_X8_fault w_630 w_631 w_1 w_632 (jw_at (by decide)) rfl rfl jy_X8_fault ⟨⟨Nat.le_of_ble_eq_true rfl, Nat.le_of_ble_eq_true rfl⟩, ⟨rfl, rfl⟩, ⟨Nat.le_of_ble_eq_true rfl, Nat.le_of_ble_eq_true rfl⟩⟩ (Nat.le_of_ble_eq_true rfl) rfl (fun v u hp => ?_)
  obtain ⟨rfl, rfl⟩ := hp
  refine j_aload_n C dL_law_410 2 rfl ?_
  refine j_aload_n C dL_law_411 0 rfl ?_
  refine j_iload_n C dL_law_412 3 rfl ?_
  refine j_iconst C dL_law_413 (v := 1) (by decide) ?_
  refine j_iadd C dL_law_414 ?_
  refine j_sld C dL_law_415 (jsx hj hL (k := 1) (by decide) rfl) ?_
  refine j_fV2 C (rest := [.int r]) (w1 := jw 54 (cellC G nd) adC c) (w2 := jw 15 (cellM G) adM m) (q0 := 0) (ci := 9) (r := (RX9, TX9, 32)) dL_law_416 (m_X9_fault (KV.2.2.2 (Int32.toNatClampNeg (Int32.ofNat j + 1))) m hm) kc_X9_fault w_1164 w_1165 w_11 w_1166 (jw_at (by decide)) rfl rfl jy_X9_fault ⟨⟨Nat.le_of_ble_eq_true rfl, Nat.le_of_ble_eq_true rfl⟩, ⟨rfl, rfl⟩, ⟨Nat.le_of_ble_eq_true rfl, Nat.le_of_ble_eq_true rfl⟩⟩ (Nat.le_of_ble_eq_true rfl) rfl (fun v u hp => ?_)
  obtain ⟨rfl, rfl⟩ := hp
  refine j_icmp_eq C dL_law_419 (tgt := 1101) (by decide) (fun _ => ?_) (fun cq => absurd rfl cq)
  exact hend c m hI2
set_option maxHeartbeats 4000000 in
set_option maxRecDepth 100000 in
theorem law_keep {l : Launch} {D : va_G} {G : Nat → ClassId} {KV : jV} {nm : String} {K : Nat → Nat → va_W → Nat → List (Nat × Value) → List Value → Prop} (C : jK l D G KV RL code 4 (some .boolean) room_1 600000 7302250 nm (fun v _ => v = some (.int 1)) K) {nd n j : Nat} {adC adM : Nat → Nat} {Inv : jS → jS → Prop} {c m : jS} (hj : j + 8 ≤ KV.2.2.1) (hL : KV.2.2.1 ≤ 4097) (h_keep : ok_keep nd n Inv) (hI : Inv c m) (hend : ∀ c m : jS, Inv c m → K 69 396127 (jw 54 (cellC G nd) adC c ++ jw 15 (cellM G) adM m) 1101 [(0, .ref KV.2.1), (1, .ref (adC 0)), (2, .ref (adM 0)), (3, .int (Int32.ofNat j))] []) : K 69 396127 (jw 54 (cellC G nd) adC c ++ jw 15 (cellM G) adM m) 424 [(0, .ref KV.2.1), (1, .ref (adC 0)), (2, .ref (adM 0)), (3, .int (Int32.ofNat j))] [] := by
  refine j_aload_n C dL_law_424 1 rfl ?_
  refine j_aload_n C dL_law_425 0 rfl ?_
  refine j_iload_n C dL_law_426 3 rfl ?_
  refine j_iconst C dL_law_427 (v := 1) (by decide) ?_
  refine j_iadd C dL_law_428 ?_
  refine j_sld C dL_law_429 (jsx hj hL (k := 1) (by decide) rfl) ?_
  refine j_aload_n C dL_law_430 0 rfl ?_
  refine j_iload_n C dL_law_431 3 rfl ?_
  refine j_iconst C dL_law_432 (v := 2) (by decide) ?_
  refine j_iadd C dL_law_433 ?_
  refine j_sld C dL_law_434 (jsx hj hL (k := 2) (by decide) rfl) ?_
  obtain ⟨r, c1, m1, hc, hm, hI2⟩ := h_keep (KV.2.2.2 (Int32.toNatClampNeg (Int32.ofNat j + 1))) (KV.2.2.2 (Int32.toNatClampNeg (Int32.ofNat j + 2))) c m hI
  refine j_fV1 C (rest := []) (w1 := jw 54 (cellC G nd) adC c) (w2 := jw 15 (cellM G) adM m) (q0 := 0) (ci := 8) (r := (RX8, TX8, 9)) dL_law_435 (m_X8_keep (KV.2.2.2 (Int32.toNatClampNeg (Int32.ofNat j + 1))) (KV.2.2.2 (Int32.toNatClampNeg (Int32.ofNat j + 2))) c hc) kc_X8_keep w_634 w_635 w_1 w_636 (jw_at (by decide)) rfl rfl jy_X8_keep ⟨⟨Nat.le_of_ble_eq_true rfl, Nat.le_of_ble_eq_true rfl⟩, ⟨rfl, rfl⟩, ⟨Nat.le_of_ble_eq_true rfl, Nat.le_of_ble_eq_true rfl⟩⟩ (Nat.le_of_ble_eq_true rfl) rfl (fun v u hp => ?_)
  obtain ⟨rfl, rfl⟩ := hp
  refine j_aload_n C dL_law_438 2 rfl ?_
  refine j_aload_n C dL_law_439 0 rfl ?_
  refine j_iload_n C dL_law_440 3 rfl ?_
  refine j_iconst C dL_law_441 (v := 1) (by decide) ?_
  refine j_iadd C dL_law_442 ?_
  refine j_sld C dL_law_443 (jsx hj hL (k := 1) (by decide) rfl) ?_
  refine j_aload_n C dL_law_444 0 rfl ?_
  refine j_iload_n C dL_law_445 3 rfl ?_
  refine j_iconst C dL_law_446 (v := 2) (by decide) ?_
  refine j_iadd C dL_law_447 ?_
  refine j_sld C dL_law_448 (jsx hj hL (k := 2) (by decide) rfl) ?_
  refine j_fV2 C (rest := [.int (jb r)]) (w1 := jw 54 (cellC G nd) adC c1) (w2 := jw 15 (cellM G) adM m) (q0 := 0) (ci := 9) (r := (RX9, TX9, 32)) dL_law_449 (m_X9_keep (KV.2.2.2 (Int32.toNatClampNeg (Int32.ofNat j + 1))) (KV.2.2.2 (Int32.toNatClampNeg (Int32.ofNat j + 2))) m hm) kc_X9_keep w_1168 w_1169 w_11 w_1170 (jw_at (by decide)) rfl rfl jy_X9_keep ⟨⟨Nat.le_of_ble_eq_true rfl, Nat.le_of_ble_eq_true rfl⟩, ⟨rfl, rfl⟩, ⟨Nat.le_of_ble_eq_true rfl, Nat.le_of_ble_eq_true rfl⟩⟩ (Nat.le_of_ble_eq_true rfl) rfl (fun v u hp => ?_)
  obtain ⟨rfl, rfl⟩ := hp
  refine j_icmp_eq C dL_law_452 (tgt := 1101) (by decide) (fun _ => ?_) (fun cq => absurd rfl cq)
  exact hend c1 m1 hI2
set_option maxHeartbeats 4000000 in
set_option maxRecDepth 100000 in
theorem law_opens {l : Launch} {D : va_G} {G : Nat → ClassId} {KV : jV} {nm : String} {K : Nat → Nat → va_W → Nat → List (Nat × Value) → List Value → Prop} (C : jK l D G KV RL code 4 (some .boolean) room_1 600000 7302250 nm (fun v _ => v = some (.int 1)) K) {nd n j : Nat} {adC adM : Nat → Nat} {Inv : jS → jS → Prop} {c m : jS} (hj : j + 8 ≤ KV.2.2.1) (hL : KV.2.2.1 ≤ 4097) (h_opens : ok_opens nd n Inv) (hI : Inv c m) (hend : ∀ c m : jS, Inv c m → K 69 396127 (jw 54 (cellC G nd) adC c ++ jw 15 (cellM G) adM m) 1101 [(0, .ref KV.2.1), (1, .ref (adC 0)), (2, .ref (adM 0)), (3, .int (Int32.ofNat j))] []) : K 69 396127 (jw 54 (cellC G nd) adC c ++ jw 15 (cellM G) adM m) 457 [(0, .ref KV.2.1), (1, .ref (adC 0)), (2, .ref (adM 0)), (3, .int (Int32.ofNat j))] [] := by
  refine j_aload_n C dL_law_457 1 rfl ?_
  refine j_aload_n C dL_law_458 0 rfl ?_
  refine j_iload_n C dL_law_459 3 rfl ?_
  refine j_iconst C dL_law_460 (v := 1) (by decide) ?_
  refine j_iadd C dL_law_461 ?_
  refine j_sld C dL_law_462 (jsx hj hL (k := 1) (by decide) rfl) ?_
  refine j_aload_n C dL_law_463 0 rfl ?_
  refine j_iload_n C dL_law_464 3 rfl ?_
  refine j_iconst C dL_law_465 (v := 2) (by decide) ?_
  refine j_iadd C dL_law_466 ?_
  refine j_sld C dL_law_467 (jsx hj hL (k := 2) (by decide) rfl) ?_
  refine j_aload_n C dL_law_468 0 rfl ?_
  refine j_iload_n C dL_law_469 3 rfl ?_
  refine j_iconst C dL_law_470 (v := 3) (by decide) ?_
  refine j_iadd C dL_law_471 ?_
  refine j_sld C dL_law_472 (jsx hj hL (k := 3) (by decide) rfl) ?_
  refine j_aload_n C dL_law_473 0 rfl ?_
  refine j_iload_n C dL_law_474 3 rfl ?_
  refine j_iconst C dL_law_475 (v := 4) (by decide) ?_
  refine j_iadd C dL_law_476 ?_
  refine j_sld C dL_law_477 (jsx hj hL (k := 4) (by decide) rfl) ?_
  refine j_aload_n C dL_law_478 0 rfl ?_
  refine j_iload_n C dL_law_479 3 rfl ?_
  refine j_iconst C dL_law_480 (v := 5) (by decide) ?_
  refine j_iadd C dL_law_481 ?_
  refine j_sld C dL_law_482 (jsx hj hL (k := 5) (by decide) rfl) ?_
  refine j_aload_n C dL_law_483 0 rfl ?_
  refine j_iload_n C dL_law_484 3 rfl ?_
  refine j_bipush C dL_law_485 (v := 6) (by decide) ?_
  refine j_iadd C dL_law_487 ?_
  refine j_sld C dL_law_488 (jsx hj hL (k := 6) (by decide) rfl) ?_
  obtain ⟨r, c1, m1, hc, hm, hI2⟩ := h_opens (KV.2.2.2 (Int32.toNatClampNeg (Int32.ofNat j + 1))) (KV.2.2.2 (Int32.toNatClampNeg (Int32.ofNat j + 2))) (KV.2.2.2 (Int32.toNatClampNeg (Int32.ofNat j + 3))) (KV.2.2.2 (Int32.toNatClampNeg (Int32.ofNat j + 4))) (KV.2.2.2 (Int32.toNatClampNeg (Int32.ofNat j + 5))) (KV.2.2.2 (Int32.toNatClampNeg (Int32.ofNat j + 6))) c m hI
  refine j_fV1 C (rest := []) (w1 := jw 54 (cellC G nd) adC c) (w2 := jw 15 (cellM G) adM m) (q0 := 0) (ci := 8) (r := (RX8, TX8, 9)) dL_law_489 (m_X8_opens n (KV.2.2.2 (Int32.toNatClampNeg (Int32.ofNat j + 1))) (KV.2.2.2 (Int32.toNatClampNeg (Int32.ofNat j + 2))) (KV.2.2.2 (Int32.toNatClampNeg (Int32.ofNat j + 3))) (KV.2.2.2 (Int32.toNatClampNeg (Int32.ofNat j + 4))) (KV.2.2.2 (Int32.toNatClampNeg (Int32.ofNat j + 5))) (KV.2.2.2 (Int32.toNatClampNeg (Int32.ofNat j + 6))) c hc) kc_X8_opens w_638 w_639 w_1 w_640 (jw_at (by decide)) rfl rfl jy_X8_opens ⟨⟨Nat.le_of_ble_eq_true rfl, Nat.le_of_ble_eq_true rfl⟩, ⟨rfl, rfl⟩, ⟨Nat.le_of_ble_eq_true rfl, Nat.le_of_ble_eq_true rfl⟩⟩ (Nat.le_of_ble_eq_true rfl) rfl (fun v u hp => ?_)
  obtain ⟨rfl, rfl⟩ := hp
  refine j_aload_n C dL_law_492 2 rfl ?_
  refine j_aload_n C dL_law_493 0 rfl ?_
  refine j_iload_n C dL_law_494 3 rfl ?_
  refine j_iconst C dL_law_495 (v := 1) (by decide) ?_
  refine j_iadd C dL_law_496 ?_
  refine j_sld C dL_law_497 (jsx hj hL (k := 1) (by decide) rfl) ?_
  refine j_aload_n C dL_law_498 0 rfl ?_
  refine j_iload_n C dL_law_499 3 rfl ?_
  refine j_iconst C dL_law_500 (v := 2) (by decide) ?_
  refine j_iadd C dL_law_501 ?_
  refine j_sld C dL_law_502 (jsx hj hL (k := 2) (by decide) rfl) ?_
  refine j_aload_n C dL_law_503 0 rfl ?_
  refine j_iload_n C dL_law_504 3 rfl ?_
  refine j_iconst C dL_law_505 (v := 3) (by decide) ?_
  refine j_iadd C dL_law_506 ?_
  refine j_sld C dL_law_507 (jsx hj hL (k := 3) (by decide) rfl) ?_
  refine j_aload_n C dL_law_508 0 rfl ?_
  refine j_iload_n C dL_law_509 3 rfl ?_
  refine j_iconst C dL_law_510 (v := 4) (by decide) ?_
  refine j_iadd C dL_law_511 ?_
  refine j_sld C dL_law_512 (jsx hj hL (k := 4) (by decide) rfl) ?_
  refine j_aload_n C dL_law_513 0 rfl ?_
  refine j_iload_n C dL_law_514 3 rfl ?_
  refine j_iconst C dL_law_515 (v := 5) (by decide) ?_
  refine j_iadd C dL_law_516 ?_
  refine j_sld C dL_law_517 (jsx hj hL (k := 5) (by decide) rfl) ?_
  refine j_aload_n C dL_law_518 0 rfl ?_
  refine j_iload_n C dL_law_519 3 rfl ?_
  refine j_bipush C dL_law_520 (v := 6) (by decide) ?_
  refine j_iadd C dL_law_522 ?_
  refine j_sld C dL_law_523 (jsx hj hL (k := 6) (by decide) rfl) ?_
  refine j_fV2 C (rest := [.int (jb r)]) (w1 := jw 54 (cellC G nd) adC c1) (w2 := jw 15 (cellM G) adM m) (q0 := 0) (ci := 9) (r := (RX9, TX9, 32)) dL_law_524 (m_X9_opens n (KV.2.2.2 (Int32.toNatClampNeg (Int32.ofNat j + 1))) (KV.2.2.2 (Int32.toNatClampNeg (Int32.ofNat j + 2))) (KV.2.2.2 (Int32.toNatClampNeg (Int32.ofNat j + 3))) (KV.2.2.2 (Int32.toNatClampNeg (Int32.ofNat j + 4))) (KV.2.2.2 (Int32.toNatClampNeg (Int32.ofNat j + 5))) (KV.2.2.2 (Int32.toNatClampNeg (Int32.ofNat j + 6))) m hm) kc_X9_opens w_1176 w_1177 w_11 w_1178 (jw_at (by decide)) rfl rfl jy_X9_opens ⟨⟨Nat.le_of_ble_eq_true rfl, Nat.le_of_ble_eq_true rfl⟩, ⟨rfl, rfl⟩, ⟨Nat.le_of_ble_eq_true rfl, Nat.le_of_ble_eq_true rfl⟩⟩ (Nat.le_of_ble_eq_true rfl) rfl (fun v u hp => ?_)
  obtain ⟨rfl, rfl⟩ := hp
  refine j_icmp_eq C dL_law_527 (tgt := 1101) (by decide) (fun _ => ?_) (fun cq => absurd rfl cq)
  exact hend c1 m1 hI2
set_option maxHeartbeats 4000000 in
set_option maxRecDepth 100000 in
theorem law_sets {l : Launch} {D : va_G} {G : Nat → ClassId} {KV : jV} {nm : String} {K : Nat → Nat → va_W → Nat → List (Nat × Value) → List Value → Prop} (C : jK l D G KV RL code 4 (some .boolean) room_1 600000 7302250 nm (fun v _ => v = some (.int 1)) K) {nd n j : Nat} {adC adM : Nat → Nat} {Inv : jS → jS → Prop} {c m : jS} (hj : j + 8 ≤ KV.2.2.1) (hL : KV.2.2.1 ≤ 4097) (h_sets : ok_sets nd n Inv) (hI : Inv c m) (hend : ∀ c m : jS, Inv c m → K 69 396127 (jw 54 (cellC G nd) adC c ++ jw 15 (cellM G) adM m) 1101 [(0, .ref KV.2.1), (1, .ref (adC 0)), (2, .ref (adM 0)), (3, .int (Int32.ofNat j))] []) : K 69 396127 (jw 54 (cellC G nd) adC c ++ jw 15 (cellM G) adM m) 532 [(0, .ref KV.2.1), (1, .ref (adC 0)), (2, .ref (adM 0)), (3, .int (Int32.ofNat j))] [] := by
  refine j_aload_n C dL_law_532 1 rfl ?_
  refine j_aload_n C dL_law_533 0 rfl ?_
  refine j_iload_n C dL_law_534 3 rfl ?_
  refine j_iconst C dL_law_535 (v := 1) (by decide) ?_
  refine j_iadd C dL_law_536 ?_
  refine j_sld C dL_law_537 (jsx hj hL (k := 1) (by decide) rfl) ?_
  refine j_aload_n C dL_law_538 0 rfl ?_
  refine j_iload_n C dL_law_539 3 rfl ?_
  refine j_iconst C dL_law_540 (v := 2) (by decide) ?_
  refine j_iadd C dL_law_541 ?_
  refine j_sld C dL_law_542 (jsx hj hL (k := 2) (by decide) rfl) ?_
  refine j_aload_n C dL_law_543 0 rfl ?_
  refine j_iload_n C dL_law_544 3 rfl ?_
  refine j_iconst C dL_law_545 (v := 3) (by decide) ?_
  refine j_iadd C dL_law_546 ?_
  refine j_sld C dL_law_547 (jsx hj hL (k := 3) (by decide) rfl) ?_
  refine j_aload_n C dL_law_548 0 rfl ?_
  refine j_iload_n C dL_law_549 3 rfl ?_
  refine j_iconst C dL_law_550 (v := 4) (by decide) ?_
  refine j_iadd C dL_law_551 ?_
  refine j_sld C dL_law_552 (jsx hj hL (k := 4) (by decide) rfl) ?_
  obtain ⟨r, c1, m1, hc, hm, hI2⟩ := h_sets (KV.2.2.2 (Int32.toNatClampNeg (Int32.ofNat j + 1))) (KV.2.2.2 (Int32.toNatClampNeg (Int32.ofNat j + 2))) (KV.2.2.2 (Int32.toNatClampNeg (Int32.ofNat j + 3))) (KV.2.2.2 (Int32.toNatClampNeg (Int32.ofNat j + 4))) c m hI
  refine j_fV1 C (rest := []) (w1 := jw 54 (cellC G nd) adC c) (w2 := jw 15 (cellM G) adM m) (q0 := 0) (ci := 8) (r := (RX8, TX8, 9)) dL_law_553 (m_X8_sets (KV.2.2.2 (Int32.toNatClampNeg (Int32.ofNat j + 1))) (KV.2.2.2 (Int32.toNatClampNeg (Int32.ofNat j + 2))) (KV.2.2.2 (Int32.toNatClampNeg (Int32.ofNat j + 3))) (KV.2.2.2 (Int32.toNatClampNeg (Int32.ofNat j + 4))) c hc) kc_X8_sets w_669 w_670 w_1 w_671 (jw_at (by decide)) rfl rfl jy_X8_sets ⟨⟨Nat.le_of_ble_eq_true rfl, Nat.le_of_ble_eq_true rfl⟩, ⟨rfl, rfl⟩, ⟨Nat.le_of_ble_eq_true rfl, Nat.le_of_ble_eq_true rfl⟩⟩ (Nat.le_of_ble_eq_true rfl) rfl (fun v u hp => ?_)
  obtain ⟨rfl, rfl⟩ := hp
  refine j_aload_n C dL_law_556 2 rfl ?_
  refine j_aload_n C dL_law_557 0 rfl ?_
  refine j_iload_n C dL_law_558 3 rfl ?_
  refine j_iconst C dL_law_559 (v := 1) (by decide) ?_
  refine j_iadd C dL_law_560 ?_
  refine j_sld C dL_law_561 (jsx hj hL (k := 1) (by decide) rfl) ?_
  refine j_aload_n C dL_law_562 0 rfl ?_
  refine j_iload_n C dL_law_563 3 rfl ?_
  refine j_iconst C dL_law_564 (v := 2) (by decide) ?_
  refine j_iadd C dL_law_565 ?_
  refine j_sld C dL_law_566 (jsx hj hL (k := 2) (by decide) rfl) ?_
  refine j_aload_n C dL_law_567 0 rfl ?_
  refine j_iload_n C dL_law_568 3 rfl ?_
  refine j_iconst C dL_law_569 (v := 3) (by decide) ?_
  refine j_iadd C dL_law_570 ?_
  refine j_sld C dL_law_571 (jsx hj hL (k := 3) (by decide) rfl) ?_
  refine j_aload_n C dL_law_572 0 rfl ?_
  refine j_iload_n C dL_law_573 3 rfl ?_
  refine j_iconst C dL_law_574 (v := 4) (by decide) ?_
  refine j_iadd C dL_law_575 ?_
  refine j_sld C dL_law_576 (jsx hj hL (k := 4) (by decide) rfl) ?_
  refine j_fV2 C (rest := [.int (jb r)]) (w1 := jw 54 (cellC G nd) adC c1) (w2 := jw 15 (cellM G) adM m) (q0 := 0) (ci := 9) (r := (RX9, TX9, 32)) dL_law_577 (m_X9_sets (KV.2.2.2 (Int32.toNatClampNeg (Int32.ofNat j + 1))) (KV.2.2.2 (Int32.toNatClampNeg (Int32.ofNat j + 2))) (KV.2.2.2 (Int32.toNatClampNeg (Int32.ofNat j + 3))) (KV.2.2.2 (Int32.toNatClampNeg (Int32.ofNat j + 4))) m hm) kc_X9_sets w_1202 w_1203 w_11 w_1204 (jw_at (by decide)) rfl rfl jy_X9_sets ⟨⟨Nat.le_of_ble_eq_true rfl, Nat.le_of_ble_eq_true rfl⟩, ⟨rfl, rfl⟩, ⟨Nat.le_of_ble_eq_true rfl, Nat.le_of_ble_eq_true rfl⟩⟩ (Nat.le_of_ble_eq_true rfl) rfl (fun v u hp => ?_)
  obtain ⟨rfl, rfl⟩ := hp
  refine j_icmp_eq C dL_law_580 (tgt := 1101) (by decide) (fun _ => ?_) (fun cq => absurd rfl cq)
  exact hend c1 m1 hI2
set_option maxHeartbeats 4000000 in
set_option maxRecDepth 100000 in
theorem law_knock {l : Launch} {D : va_G} {G : Nat → ClassId} {KV : jV} {nm : String} {K : Nat → Nat → va_W → Nat → List (Nat × Value) → List Value → Prop} (C : jK l D G KV RL code 4 (some .boolean) room_1 600000 7302250 nm (fun v _ => v = some (.int 1)) K) {nd n j : Nat} {adC adM : Nat → Nat} {Inv : jS → jS → Prop} {c m : jS} (hj : j + 8 ≤ KV.2.2.1) (hL : KV.2.2.1 ≤ 4097) (h_knock : ok_knock nd n Inv) (hI : Inv c m) (hend : ∀ c m : jS, Inv c m → K 69 396127 (jw 54 (cellC G nd) adC c ++ jw 15 (cellM G) adM m) 1101 [(0, .ref KV.2.1), (1, .ref (adC 0)), (2, .ref (adM 0)), (3, .int (Int32.ofNat j))] []) : K 69 396127 (jw 54 (cellC G nd) adC c ++ jw 15 (cellM G) adM m) 585 [(0, .ref KV.2.1), (1, .ref (adC 0)), (2, .ref (adM 0)), (3, .int (Int32.ofNat j))] [] := by
  refine j_aload_n C dL_law_585 1 rfl ?_
  refine j_aload_n C dL_law_586 0 rfl ?_
  refine j_iload_n C dL_law_587 3 rfl ?_
  refine j_iconst C dL_law_588 (v := 1) (by decide) ?_
  refine j_iadd C dL_law_589 ?_
  refine j_sld C dL_law_590 (jsx hj hL (k := 1) (by decide) rfl) ?_
  refine j_aload_n C dL_law_591 0 rfl ?_
  refine j_iload_n C dL_law_592 3 rfl ?_
  refine j_iconst C dL_law_593 (v := 2) (by decide) ?_
  refine j_iadd C dL_law_594 ?_
  refine j_sld C dL_law_595 (jsx hj hL (k := 2) (by decide) rfl) ?_
  obtain ⟨r, c1, m1, hc, hm, hI2⟩ := h_knock (KV.2.2.2 (Int32.toNatClampNeg (Int32.ofNat j + 1))) (KV.2.2.2 (Int32.toNatClampNeg (Int32.ofNat j + 2))) c m hI
  refine j_fV1 C (rest := []) (w1 := jw 54 (cellC G nd) adC c) (w2 := jw 15 (cellM G) adM m) (q0 := 0) (ci := 8) (r := (RX8, TX8, 9)) dL_law_596 (m_X8_knock n (KV.2.2.2 (Int32.toNatClampNeg (Int32.ofNat j + 1))) (KV.2.2.2 (Int32.toNatClampNeg (Int32.ofNat j + 2))) c hc) kc_X8_knock w_681 w_682 w_1 w_683 (jw_at (by decide)) rfl rfl jy_X8_knock ⟨⟨Nat.le_of_ble_eq_true rfl, Nat.le_of_ble_eq_true rfl⟩, ⟨rfl, rfl⟩, ⟨Nat.le_of_ble_eq_true rfl, Nat.le_of_ble_eq_true rfl⟩⟩ (Nat.le_of_ble_eq_true rfl) rfl (fun v u hp => ?_)
  obtain ⟨rfl, rfl⟩ := hp
  refine j_aload_n C dL_law_599 2 rfl ?_
  refine j_aload_n C dL_law_600 0 rfl ?_
  refine j_iload_n C dL_law_601 3 rfl ?_
  refine j_iconst C dL_law_602 (v := 1) (by decide) ?_
  refine j_iadd C dL_law_603 ?_
  refine j_sld C dL_law_604 (jsx hj hL (k := 1) (by decide) rfl) ?_
  refine j_aload_n C dL_law_605 0 rfl ?_
  refine j_iload_n C dL_law_606 3 rfl ?_
  refine j_iconst C dL_law_607 (v := 2) (by decide) ?_
  refine j_iadd C dL_law_608 ?_
  refine j_sld C dL_law_609 (jsx hj hL (k := 2) (by decide) rfl) ?_
  refine j_fV2 C (rest := [.int r]) (w1 := jw 54 (cellC G nd) adC c1) (w2 := jw 15 (cellM G) adM m) (q0 := 0) (ci := 9) (r := (RX9, TX9, 32)) dL_law_610 (m_X9_knock n (KV.2.2.2 (Int32.toNatClampNeg (Int32.ofNat j + 1))) (KV.2.2.2 (Int32.toNatClampNeg (Int32.ofNat j + 2))) m hm) kc_X9_knock w_1214 w_1215 w_11 w_1216 (jw_at (by decide)) rfl rfl jy_X9_knock ⟨⟨Nat.le_of_ble_eq_true rfl, Nat.le_of_ble_eq_true rfl⟩, ⟨rfl, rfl⟩, ⟨Nat.le_of_ble_eq_true rfl, Nat.le_of_ble_eq_true rfl⟩⟩ (Nat.le_of_ble_eq_true rfl) rfl (fun v u hp => ?_)
  obtain ⟨rfl, rfl⟩ := hp
  refine j_icmp_eq C dL_law_613 (tgt := 1101) (by decide) (fun _ => ?_) (fun cq => absurd rfl cq)
  exact hend c1 m1 hI2
set_option maxHeartbeats 4000000 in
set_option maxRecDepth 100000 in
theorem law_later {l : Launch} {D : va_G} {G : Nat → ClassId} {KV : jV} {nm : String} {K : Nat → Nat → va_W → Nat → List (Nat × Value) → List Value → Prop} (C : jK l D G KV RL code 4 (some .boolean) room_1 600000 7302250 nm (fun v _ => v = some (.int 1)) K) {nd n j : Nat} {adC adM : Nat → Nat} {Inv : jS → jS → Prop} {c m : jS} (hj : j + 8 ≤ KV.2.2.1) (hL : KV.2.2.1 ≤ 4097) (h_later : ok_later nd n Inv) (hI : Inv c m) (hend : ∀ c m : jS, Inv c m → K 69 396127 (jw 54 (cellC G nd) adC c ++ jw 15 (cellM G) adM m) 1101 [(0, .ref KV.2.1), (1, .ref (adC 0)), (2, .ref (adM 0)), (3, .int (Int32.ofNat j))] []) : K 69 396127 (jw 54 (cellC G nd) adC c ++ jw 15 (cellM G) adM m) 618 [(0, .ref KV.2.1), (1, .ref (adC 0)), (2, .ref (adM 0)), (3, .int (Int32.ofNat j))] [] := by
  refine j_aload_n C dL_law_618 1 rfl ?_
  refine j_aload_n C dL_law_619 0 rfl ?_
  refine j_iload_n C dL_law_620 3 rfl ?_
  refine j_iconst C dL_law_621 (v := 1) (by decide) ?_
  refine j_iadd C dL_law_622 ?_
  refine j_sld C dL_law_623 (jsx hj hL (k := 1) (by decide) rfl) ?_
  obtain ⟨r, c1, m1, hc, hm, hI2⟩ := h_later (KV.2.2.2 (Int32.toNatClampNeg (Int32.ofNat j + 1))) c m hI
  refine j_fV1 C (rest := []) (w1 := jw 54 (cellC G nd) adC c) (w2 := jw 15 (cellM G) adM m) (q0 := 0) (ci := 8) (r := (RX8, TX8, 9)) dL_law_624 (m_X8_later n (KV.2.2.2 (Int32.toNatClampNeg (Int32.ofNat j + 1))) c hc) kc_X8_later w_712 w_713 w_1 w_714 (jw_at (by decide)) rfl rfl jy_X8_later ⟨⟨Nat.le_of_ble_eq_true rfl, Nat.le_of_ble_eq_true rfl⟩, ⟨rfl, rfl⟩, ⟨Nat.le_of_ble_eq_true rfl, Nat.le_of_ble_eq_true rfl⟩⟩ (Nat.le_of_ble_eq_true rfl) rfl (fun v u hp => ?_)
  obtain ⟨rfl, rfl⟩ := hp
  refine j_aload_n C dL_law_627 2 rfl ?_
  refine j_aload_n C dL_law_628 0 rfl ?_
  refine j_iload_n C dL_law_629 3 rfl ?_
  refine j_iconst C dL_law_630 (v := 1) (by decide) ?_
  refine j_iadd C dL_law_631 ?_
  refine j_sld C dL_law_632 (jsx hj hL (k := 1) (by decide) rfl) ?_
  refine j_fV2 C (rest := [.int r]) (w1 := jw 54 (cellC G nd) adC c1) (w2 := jw 15 (cellM G) adM m) (q0 := 0) (ci := 9) (r := (RX9, TX9, 32)) dL_law_633 (m_X9_later n (KV.2.2.2 (Int32.toNatClampNeg (Int32.ofNat j + 1))) m hm) kc_X9_later w_1230 w_1231 w_11 w_1232 (jw_at (by decide)) rfl rfl jy_X9_later ⟨⟨Nat.le_of_ble_eq_true rfl, Nat.le_of_ble_eq_true rfl⟩, ⟨rfl, rfl⟩, ⟨Nat.le_of_ble_eq_true rfl, Nat.le_of_ble_eq_true rfl⟩⟩ (Nat.le_of_ble_eq_true rfl) rfl (fun v u hp => ?_)
  obtain ⟨rfl, rfl⟩ := hp
  refine j_icmp_eq C dL_law_636 (tgt := 1101) (by decide) (fun _ => ?_) (fun cq => absurd rfl cq)
  exact hend c1 m1 hI2
set_option maxHeartbeats 4000000 in
set_option maxRecDepth 100000 in
theorem law_played {l : Launch} {D : va_G} {G : Nat → ClassId} {KV : jV} {nm : String} {K : Nat → Nat → va_W → Nat → List (Nat × Value) → List Value → Prop} (C : jK l D G KV RL code 4 (some .boolean) room_1 600000 7302250 nm (fun v _ => v = some (.int 1)) K) {nd n j : Nat} {adC adM : Nat → Nat} {Inv : jS → jS → Prop} {c m : jS} (hj : j + 8 ≤ KV.2.2.1) (hL : KV.2.2.1 ≤ 4097) (h_played : ok_played nd n Inv) (hI : Inv c m) (hend : ∀ c m : jS, Inv c m → K 69 396127 (jw 54 (cellC G nd) adC c ++ jw 15 (cellM G) adM m) 1101 [(0, .ref KV.2.1), (1, .ref (adC 0)), (2, .ref (adM 0)), (3, .int (Int32.ofNat j))] []) : K 69 396127 (jw 54 (cellC G nd) adC c ++ jw 15 (cellM G) adM m) 641 [(0, .ref KV.2.1), (1, .ref (adC 0)), (2, .ref (adM 0)), (3, .int (Int32.ofNat j))] [] := by
  refine j_aload_n C dL_law_641 1 rfl ?_
  refine j_aload_n C dL_law_642 0 rfl ?_
  refine j_iload_n C dL_law_643 3 rfl ?_
  refine j_iconst C dL_law_644 (v := 1) (by decide) ?_
  refine j_iadd C dL_law_645 ?_
  refine j_sld C dL_law_646 (jsx hj hL (k := 1) (by decide) rfl) ?_
  obtain ⟨r, c1, m1, hc, hm, hI2⟩ := h_played (KV.2.2.2 (Int32.toNatClampNeg (Int32.ofNat j + 1))) c m hI
  refine j_fV1 C (rest := []) (w1 := jw 54 (cellC G nd) adC c) (w2 := jw 15 (cellM G) adM m) (q0 := 0) (ci := 8) (r := (RX8, TX8, 9)) dL_law_647 (m_X8_played n (KV.2.2.2 (Int32.toNatClampNeg (Int32.ofNat j + 1))) c hc) kc_X8_played w_724 w_725 w_1 w_726 (jw_at (by decide)) rfl rfl jy_X8_played ⟨⟨Nat.le_of_ble_eq_true rfl, Nat.le_of_ble_eq_true rfl⟩, ⟨rfl, rfl⟩, ⟨Nat.le_of_ble_eq_true rfl, Nat.le_of_ble_eq_true rfl⟩⟩ (Nat.le_of_ble_eq_true rfl) rfl (fun v u hp => ?_)
  obtain ⟨rfl, rfl⟩ := hp
  refine j_aload_n C dL_law_650 2 rfl ?_
  refine j_aload_n C dL_law_651 0 rfl ?_
  refine j_iload_n C dL_law_652 3 rfl ?_
  refine j_iconst C dL_law_653 (v := 1) (by decide) ?_
  refine j_iadd C dL_law_654 ?_
  refine j_sld C dL_law_655 (jsx hj hL (k := 1) (by decide) rfl) ?_
  refine j_fV2 C (rest := [.int r]) (w1 := jw 54 (cellC G nd) adC c1) (w2 := jw 15 (cellM G) adM m) (q0 := 0) (ci := 9) (r := (RX9, TX9, 32)) dL_law_656 (m_X9_played n (KV.2.2.2 (Int32.toNatClampNeg (Int32.ofNat j + 1))) m hm) kc_X9_played w_1234 w_1235 w_11 w_1236 (jw_at (by decide)) rfl rfl jy_X9_played ⟨⟨Nat.le_of_ble_eq_true rfl, Nat.le_of_ble_eq_true rfl⟩, ⟨rfl, rfl⟩, ⟨Nat.le_of_ble_eq_true rfl, Nat.le_of_ble_eq_true rfl⟩⟩ (Nat.le_of_ble_eq_true rfl) rfl (fun v u hp => ?_)
  obtain ⟨rfl, rfl⟩ := hp
  refine j_icmp_eq C dL_law_659 (tgt := 1101) (by decide) (fun _ => ?_) (fun cq => absurd rfl cq)
  exact hend c1 m1 hI2
set_option maxHeartbeats 4000000 in
set_option maxRecDepth 100000 in
theorem law_undo {l : Launch} {D : va_G} {G : Nat → ClassId} {KV : jV} {nm : String} {K : Nat → Nat → va_W → Nat → List (Nat × Value) → List Value → Prop} (C : jK l D G KV RL code 4 (some .boolean) room_1 600000 7302250 nm (fun v _ => v = some (.int 1)) K) {nd n j : Nat} {adC adM : Nat → Nat} {Inv : jS → jS → Prop} {c m : jS} (hj : j + 8 ≤ KV.2.2.1) (hL : KV.2.2.1 ≤ 4097) (h_undo : ok_undo nd n Inv) (hI : Inv c m) (hend : ∀ c m : jS, Inv c m → K 69 396127 (jw 54 (cellC G nd) adC c ++ jw 15 (cellM G) adM m) 1101 [(0, .ref KV.2.1), (1, .ref (adC 0)), (2, .ref (adM 0)), (3, .int (Int32.ofNat j))] []) : K 69 396127 (jw 54 (cellC G nd) adC c ++ jw 15 (cellM G) adM m) 664 [(0, .ref KV.2.1), (1, .ref (adC 0)), (2, .ref (adM 0)), (3, .int (Int32.ofNat j))] [] := by
  refine j_aload_n C dL_law_664 1 rfl ?_
  obtain ⟨r, c1, m1, hc, hm, hI2⟩ := h_undo c m hI
  refine j_fV1 C (rest := []) (w1 := jw 54 (cellC G nd) adC c) (w2 := jw 15 (cellM G) adM m) (q0 := 0) (ci := 8) (r := (RX8, TX8, 9)) dL_law_665 (m_X8_undo c hc) kc_X8_undo w_732 w_733 w_1 w_734 (jw_at (by decide)) rfl rfl jy_X8_undo ⟨⟨Nat.le_of_ble_eq_true rfl, Nat.le_of_ble_eq_true rfl⟩, ⟨rfl, rfl⟩, ⟨Nat.le_of_ble_eq_true rfl, Nat.le_of_ble_eq_true rfl⟩⟩ (Nat.le_of_ble_eq_true rfl) rfl (fun v u hp => ?_)
  obtain ⟨rfl, rfl⟩ := hp
  refine j_aload_n C dL_law_668 2 rfl ?_
  refine j_fV2 C (rest := [.int r]) (w1 := jw 54 (cellC G nd) adC c1) (w2 := jw 15 (cellM G) adM m) (q0 := 0) (ci := 9) (r := (RX9, TX9, 32)) dL_law_669 (m_X9_undo n m hm) kc_X9_undo w_1210 w_1211 w_11 w_1212 (jw_at (by decide)) rfl rfl jy_X9_undo ⟨⟨Nat.le_of_ble_eq_true rfl, Nat.le_of_ble_eq_true rfl⟩, ⟨rfl, rfl⟩, ⟨Nat.le_of_ble_eq_true rfl, Nat.le_of_ble_eq_true rfl⟩⟩ (Nat.le_of_ble_eq_true rfl) rfl (fun v u hp => ?_)
  obtain ⟨rfl, rfl⟩ := hp
  refine j_icmp_eq C dL_law_672 (tgt := 1101) (by decide) (fun _ => ?_) (fun cq => absurd rfl cq)
  exact hend c1 m1 hI2
set_option maxHeartbeats 4000000 in
set_option maxRecDepth 100000 in
theorem law_traveller {l : Launch} {D : va_G} {G : Nat → ClassId} {KV : jV} {nm : String} {K : Nat → Nat → va_W → Nat → List (Nat × Value) → List Value → Prop} (C : jK l D G KV RL code 4 (some .boolean) room_1 600000 7302250 nm (fun v _ => v = some (.int 1)) K) {nd n j : Nat} {adC adM : Nat → Nat} {Inv : jS → jS → Prop} {c m : jS} (hj : j + 8 ≤ KV.2.2.1) (hL : KV.2.2.1 ≤ 4097) (h_traveller : ok_traveller nd n Inv) (hI : Inv c m) (hend : ∀ c m : jS, Inv c m → K 69 396127 (jw 54 (cellC G nd) adC c ++ jw 15 (cellM G) adM m) 1101 [(0, .ref KV.2.1), (1, .ref (adC 0)), (2, .ref (adM 0)), (3, .int (Int32.ofNat j))] []) : K 69 396127 (jw 54 (cellC G nd) adC c ++ jw 15 (cellM G) adM m) 677 [(0, .ref KV.2.1), (1, .ref (adC 0)), (2, .ref (adM 0)), (3, .int (Int32.ofNat j))] [] := by
  refine j_aload_n C dL_law_677 1 rfl ?_
  refine j_aload_n C dL_law_678 0 rfl ?_
  refine j_iload_n C dL_law_679 3 rfl ?_
  refine j_iconst C dL_law_680 (v := 1) (by decide) ?_
  refine j_iadd C dL_law_681 ?_
  refine j_sld C dL_law_682 (jsx hj hL (k := 1) (by decide) rfl) ?_
  obtain ⟨r, hc, hm, hI2⟩ := h_traveller (KV.2.2.2 (Int32.toNatClampNeg (Int32.ofNat j + 1))) c m hI
  refine j_fV1 C (rest := []) (w1 := jw 54 (cellC G nd) adC c) (w2 := jw 15 (cellM G) adM m) (q0 := 0) (ci := 8) (r := (RX8, TX8, 9)) dL_law_683 (m_X8_traveller (KV.2.2.2 (Int32.toNatClampNeg (Int32.ofNat j + 1))) c hc) kc_X8_traveller w_741 w_742 w_1 w_743 (jw_at (by decide)) rfl rfl jy_X8_traveller ⟨⟨Nat.le_of_ble_eq_true rfl, Nat.le_of_ble_eq_true rfl⟩, ⟨rfl, rfl⟩, ⟨Nat.le_of_ble_eq_true rfl, Nat.le_of_ble_eq_true rfl⟩⟩ (Nat.le_of_ble_eq_true rfl) rfl (fun v u hp => ?_)
  obtain ⟨rfl, rfl⟩ := hp
  refine j_aload_n C dL_law_686 2 rfl ?_
  refine j_aload_n C dL_law_687 0 rfl ?_
  refine j_iload_n C dL_law_688 3 rfl ?_
  refine j_iconst C dL_law_689 (v := 1) (by decide) ?_
  refine j_iadd C dL_law_690 ?_
  refine j_sld C dL_law_691 (jsx hj hL (k := 1) (by decide) rfl) ?_
  refine j_fV2 C (rest := [.int r]) (w1 := jw 54 (cellC G nd) adC c) (w2 := jw 15 (cellM G) adM m) (q0 := 0) (ci := 9) (r := (RX9, TX9, 32)) dL_law_692 (m_X9_traveller (KV.2.2.2 (Int32.toNatClampNeg (Int32.ofNat j + 1))) m hm) kc_X9_traveller w_1244 w_1245 w_11 w_1246 (jw_at (by decide)) rfl rfl jy_X9_traveller ⟨⟨Nat.le_of_ble_eq_true rfl, Nat.le_of_ble_eq_true rfl⟩, ⟨rfl, rfl⟩, ⟨Nat.le_of_ble_eq_true rfl, Nat.le_of_ble_eq_true rfl⟩⟩ (Nat.le_of_ble_eq_true rfl) rfl (fun v u hp => ?_)
  obtain ⟨rfl, rfl⟩ := hp
  refine j_icmp_eq C dL_law_695 (tgt := 1101) (by decide) (fun _ => ?_) (fun cq => absurd rfl cq)
  exact hend c m hI2
set_option maxHeartbeats 4000000 in
set_option maxRecDepth 100000 in
theorem law_way {l : Launch} {D : va_G} {G : Nat → ClassId} {KV : jV} {nm : String} {K : Nat → Nat → va_W → Nat → List (Nat × Value) → List Value → Prop} (C : jK l D G KV RL code 4 (some .boolean) room_1 600000 7302250 nm (fun v _ => v = some (.int 1)) K) {nd n j : Nat} {adC adM : Nat → Nat} {Inv : jS → jS → Prop} {c m : jS} (hj : j + 8 ≤ KV.2.2.1) (hL : KV.2.2.1 ≤ 4097) (h_way : ok_way nd n Inv) (hI : Inv c m) (hend : ∀ c m : jS, Inv c m → K 69 396127 (jw 54 (cellC G nd) adC c ++ jw 15 (cellM G) adM m) 1101 [(0, .ref KV.2.1), (1, .ref (adC 0)), (2, .ref (adM 0)), (3, .int (Int32.ofNat j))] []) : K 69 396127 (jw 54 (cellC G nd) adC c ++ jw 15 (cellM G) adM m) 700 [(0, .ref KV.2.1), (1, .ref (adC 0)), (2, .ref (adM 0)), (3, .int (Int32.ofNat j))] [] := by
  by_cases hz : (KV.2.2.2 (Int32.toNatClampNeg (Int32.ofNat j + 6))) = 0
  · refine j_aload_n C dL_law_700 1 rfl ?_
    refine j_aload_n C dL_law_701 0 rfl ?_
    refine j_iload_n C dL_law_702 3 rfl ?_
    refine j_iconst C dL_law_703 (v := 1) (by decide) ?_
    refine j_iadd C dL_law_704 ?_
    refine j_sld C dL_law_705 (jsx hj hL (k := 1) (by decide) rfl) ?_
    refine j_aload_n C dL_law_706 0 rfl ?_
    refine j_iload_n C dL_law_707 3 rfl ?_
    refine j_iconst C dL_law_708 (v := 2) (by decide) ?_
    refine j_iadd C dL_law_709 ?_
    refine j_sld C dL_law_710 (jsx hj hL (k := 2) (by decide) rfl) ?_
    refine j_aload_n C dL_law_711 0 rfl ?_
    refine j_iload_n C dL_law_712 3 rfl ?_
    refine j_iconst C dL_law_713 (v := 3) (by decide) ?_
    refine j_iadd C dL_law_714 ?_
    refine j_sld C dL_law_715 (jsx hj hL (k := 3) (by decide) rfl) ?_
    refine j_aload_n C dL_law_716 0 rfl ?_
    refine j_iload_n C dL_law_717 3 rfl ?_
    refine j_iconst C dL_law_718 (v := 4) (by decide) ?_
    refine j_iadd C dL_law_719 ?_
    refine j_sld C dL_law_720 (jsx hj hL (k := 4) (by decide) rfl) ?_
    refine j_aload_n C dL_law_721 0 rfl ?_
    refine j_iload_n C dL_law_722 3 rfl ?_
    refine j_iconst C dL_law_723 (v := 5) (by decide) ?_
    refine j_iadd C dL_law_724 ?_
    refine j_sld C dL_law_725 (jsx hj hL (k := 5) (by decide) rfl) ?_
    refine j_aload_n C dL_law_726 0 rfl ?_
    refine j_iload_n C dL_law_727 3 rfl ?_
    refine j_bipush C dL_law_728 (v := 6) (by decide) ?_
    refine j_iadd C dL_law_730 ?_
    refine j_sld C dL_law_731 (jsx hj hL (k := 6) (by decide) rfl) ?_
    refine j_if_eq C dL_law_732 (tgt := 739) (by decide) (fun _ => ?_) (fun cq => absurd hz cq)
    refine j_iconst C dL_law_739 (v := 0) (by decide) ?_
    refine j_aload_n C dL_law_740 0 rfl ?_
    refine j_iload_n C dL_law_741 3 rfl ?_
    refine j_bipush C dL_law_742 (v := 7) (by decide) ?_
    refine j_iadd C dL_law_744 ?_
    refine j_sld C dL_law_745 (jsx hj hL (k := 7) (by decide) rfl) ?_
    obtain ⟨r, c1, m1, hc, hm, hI2⟩ := h_way (KV.2.2.2 (Int32.toNatClampNeg (Int32.ofNat j + 1))) (KV.2.2.2 (Int32.toNatClampNeg (Int32.ofNat j + 2))) (KV.2.2.2 (Int32.toNatClampNeg (Int32.ofNat j + 3))) (KV.2.2.2 (Int32.toNatClampNeg (Int32.ofNat j + 4))) (KV.2.2.2 (Int32.toNatClampNeg (Int32.ofNat j + 5))) false (KV.2.2.2 (Int32.toNatClampNeg (Int32.ofNat j + 7))) c m hI
    refine j_fV1 C (rest := []) (w1 := jw 54 (cellC G nd) adC c) (w2 := jw 15 (cellM G) adM m) (q0 := 0) (ci := 8) (r := (RX8, TX8, 9)) dL_law_746 (m_X8_way nd n (KV.2.2.2 (Int32.toNatClampNeg (Int32.ofNat j + 1))) (KV.2.2.2 (Int32.toNatClampNeg (Int32.ofNat j + 2))) (KV.2.2.2 (Int32.toNatClampNeg (Int32.ofNat j + 3))) (KV.2.2.2 (Int32.toNatClampNeg (Int32.ofNat j + 4))) (KV.2.2.2 (Int32.toNatClampNeg (Int32.ofNat j + 5))) false (KV.2.2.2 (Int32.toNatClampNeg (Int32.ofNat j + 7))) c hc) kc_X8_way w_745 w_746 w_1 w_747 (jw_at (by decide)) rfl rfl jy_X8_way ⟨⟨Nat.le_of_ble_eq_true rfl, Nat.le_of_ble_eq_true rfl⟩, ⟨rfl, rfl⟩, ⟨Nat.le_of_ble_eq_true rfl, Nat.le_of_ble_eq_true rfl⟩⟩ (Nat.le_of_ble_eq_true rfl) rfl (fun v u hp => ?_)
    obtain ⟨rfl, rfl⟩ := hp
    refine j_aload_n C dL_law_749 2 rfl ?_
    refine j_aload_n C dL_law_750 0 rfl ?_
    refine j_iload_n C dL_law_751 3 rfl ?_
    refine j_iconst C dL_law_752 (v := 1) (by decide) ?_
    refine j_iadd C dL_law_753 ?_
    refine j_sld C dL_law_754 (jsx hj hL (k := 1) (by decide) rfl) ?_
    refine j_aload_n C dL_law_755 0 rfl ?_
    refine j_iload_n C dL_law_756 3 rfl ?_
    refine j_iconst C dL_law_757 (v := 2) (by decide) ?_
    refine j_iadd C dL_law_758 ?_
    refine j_sld C dL_law_759 (jsx hj hL (k := 2) (by decide) rfl) ?_
    refine j_aload_n C dL_law_760 0 rfl ?_
    refine j_iload_n C dL_law_761 3 rfl ?_
    refine j_iconst C dL_law_762 (v := 3) (by decide) ?_
    refine j_iadd C dL_law_763 ?_
    refine j_sld C dL_law_764 (jsx hj hL (k := 3) (by decide) rfl) ?_
    refine j_aload_n C dL_law_765 0 rfl ?_
    refine j_iload_n C dL_law_766 3 rfl ?_
    refine j_iconst C dL_law_767 (v := 4) (by decide) ?_
    refine j_iadd C dL_law_768 ?_
    refine j_sld C dL_law_769 (jsx hj hL (k := 4) (by decide) rfl) ?_
    refine j_aload_n C dL_law_770 0 rfl ?_
    refine j_iload_n C dL_law_771 3 rfl ?_
    refine j_iconst C dL_law_772 (v := 5) (by decide) ?_
    refine j_iadd C dL_law_773 ?_
    refine j_sld C dL_law_774 (jsx hj hL (k := 5) (by decide) rfl) ?_
    refine j_aload_n C dL_law_775 0 rfl ?_
    refine j_iload_n C dL_law_776 3 rfl ?_
    refine j_bipush C dL_law_777 (v := 6) (by decide) ?_
    refine j_iadd C dL_law_779 ?_
    refine j_sld C dL_law_780 (jsx hj hL (k := 6) (by decide) rfl) ?_
    refine j_if_eq C dL_law_781 (tgt := 788) (by decide) (fun _ => ?_) (fun cq => absurd hz cq)
    refine j_iconst C dL_law_788 (v := 0) (by decide) ?_
    refine j_aload_n C dL_law_789 0 rfl ?_
    refine j_iload_n C dL_law_790 3 rfl ?_
    refine j_bipush C dL_law_791 (v := 7) (by decide) ?_
    refine j_iadd C dL_law_793 ?_
    refine j_sld C dL_law_794 (jsx hj hL (k := 7) (by decide) rfl) ?_
    refine j_fV2 C (rest := [.int r]) (w1 := jw 54 (cellC G nd) adC c1) (w2 := jw 15 (cellM G) adM m) (q0 := 0) (ci := 9) (r := (RX9, TX9, 32)) dL_law_795 (m_X9_way n (KV.2.2.2 (Int32.toNatClampNeg (Int32.ofNat j + 1))) (KV.2.2.2 (Int32.toNatClampNeg (Int32.ofNat j + 2))) (KV.2.2.2 (Int32.toNatClampNeg (Int32.ofNat j + 3))) (KV.2.2.2 (Int32.toNatClampNeg (Int32.ofNat j + 4))) (KV.2.2.2 (Int32.toNatClampNeg (Int32.ofNat j + 5))) false (KV.2.2.2 (Int32.toNatClampNeg (Int32.ofNat j + 7))) m hm) kc_X9_way w_1248 w_1249 w_11 w_1250 (jw_at (by decide)) rfl rfl jy_X9_way ⟨⟨Nat.le_of_ble_eq_true rfl, Nat.le_of_ble_eq_true rfl⟩, ⟨rfl, rfl⟩, ⟨Nat.le_of_ble_eq_true rfl, Nat.le_of_ble_eq_true rfl⟩⟩ (Nat.le_of_ble_eq_true rfl) rfl (fun v u hp => ?_)
    obtain ⟨rfl, rfl⟩ := hp
    refine j_icmp_eq C dL_law_798 (tgt := 1101) (by decide) (fun _ => ?_) (fun cq => absurd rfl cq)
    exact hend c1 m1 hI2
  · refine j_aload_n C dL_law_700 1 rfl ?_
    refine j_aload_n C dL_law_701 0 rfl ?_
    refine j_iload_n C dL_law_702 3 rfl ?_
    refine j_iconst C dL_law_703 (v := 1) (by decide) ?_
    refine j_iadd C dL_law_704 ?_
    refine j_sld C dL_law_705 (jsx hj hL (k := 1) (by decide) rfl) ?_
    refine j_aload_n C dL_law_706 0 rfl ?_
    refine j_iload_n C dL_law_707 3 rfl ?_
    refine j_iconst C dL_law_708 (v := 2) (by decide) ?_
    refine j_iadd C dL_law_709 ?_
    refine j_sld C dL_law_710 (jsx hj hL (k := 2) (by decide) rfl) ?_
    refine j_aload_n C dL_law_711 0 rfl ?_
    refine j_iload_n C dL_law_712 3 rfl ?_
    refine j_iconst C dL_law_713 (v := 3) (by decide) ?_
    refine j_iadd C dL_law_714 ?_
    refine j_sld C dL_law_715 (jsx hj hL (k := 3) (by decide) rfl) ?_
    refine j_aload_n C dL_law_716 0 rfl ?_
    refine j_iload_n C dL_law_717 3 rfl ?_
    refine j_iconst C dL_law_718 (v := 4) (by decide) ?_
    refine j_iadd C dL_law_719 ?_
    refine j_sld C dL_law_720 (jsx hj hL (k := 4) (by decide) rfl) ?_
    refine j_aload_n C dL_law_721 0 rfl ?_
    refine j_iload_n C dL_law_722 3 rfl ?_
    refine j_iconst C dL_law_723 (v := 5) (by decide) ?_
    refine j_iadd C dL_law_724 ?_
    refine j_sld C dL_law_725 (jsx hj hL (k := 5) (by decide) rfl) ?_
    refine j_aload_n C dL_law_726 0 rfl ?_
    refine j_iload_n C dL_law_727 3 rfl ?_
    refine j_bipush C dL_law_728 (v := 6) (by decide) ?_
    refine j_iadd C dL_law_730 ?_
    refine j_sld C dL_law_731 (jsx hj hL (k := 6) (by decide) rfl) ?_
    refine j_if_eq C dL_law_732 (tgt := 739) (by decide) (fun cq => absurd cq hz) (fun _ => ?_)
    refine j_iconst C dL_law_735 (v := 1) (by decide) ?_
    refine j_goto C dL_law_736 (tgt := 740) (by decide) ?_
    refine j_aload_n C dL_law_740 0 rfl ?_
    refine j_iload_n C dL_law_741 3 rfl ?_
    refine j_bipush C dL_law_742 (v := 7) (by decide) ?_
    refine j_iadd C dL_law_744 ?_
    refine j_sld C dL_law_745 (jsx hj hL (k := 7) (by decide) rfl) ?_
    obtain ⟨r, c1, m1, hc, hm, hI2⟩ := h_way (KV.2.2.2 (Int32.toNatClampNeg (Int32.ofNat j + 1))) (KV.2.2.2 (Int32.toNatClampNeg (Int32.ofNat j + 2))) (KV.2.2.2 (Int32.toNatClampNeg (Int32.ofNat j + 3))) (KV.2.2.2 (Int32.toNatClampNeg (Int32.ofNat j + 4))) (KV.2.2.2 (Int32.toNatClampNeg (Int32.ofNat j + 5))) true (KV.2.2.2 (Int32.toNatClampNeg (Int32.ofNat j + 7))) c m hI
    refine j_fV1 C (rest := []) (w1 := jw 54 (cellC G nd) adC c) (w2 := jw 15 (cellM G) adM m) (q0 := 0) (ci := 8) (r := (RX8, TX8, 9)) dL_law_746 (m_X8_way nd n (KV.2.2.2 (Int32.toNatClampNeg (Int32.ofNat j + 1))) (KV.2.2.2 (Int32.toNatClampNeg (Int32.ofNat j + 2))) (KV.2.2.2 (Int32.toNatClampNeg (Int32.ofNat j + 3))) (KV.2.2.2 (Int32.toNatClampNeg (Int32.ofNat j + 4))) (KV.2.2.2 (Int32.toNatClampNeg (Int32.ofNat j + 5))) true (KV.2.2.2 (Int32.toNatClampNeg (Int32.ofNat j + 7))) c hc) kc_X8_way w_745 w_746 w_1 w_747 (jw_at (by decide)) rfl rfl jy_X8_way ⟨⟨Nat.le_of_ble_eq_true rfl, Nat.le_of_ble_eq_true rfl⟩, ⟨rfl, rfl⟩, ⟨Nat.le_of_ble_eq_true rfl, Nat.le_of_ble_eq_true rfl⟩⟩ (Nat.le_of_ble_eq_true rfl) rfl (fun v u hp => ?_)
    obtain ⟨rfl, rfl⟩ := hp
    refine j_aload_n C dL_law_749 2 rfl ?_
    refine j_aload_n C dL_law_750 0 rfl ?_
    refine j_iload_n C dL_law_751 3 rfl ?_
    refine j_iconst C dL_law_752 (v := 1) (by decide) ?_
    refine j_iadd C dL_law_753 ?_
    refine j_sld C dL_law_754 (jsx hj hL (k := 1) (by decide) rfl) ?_
    refine j_aload_n C dL_law_755 0 rfl ?_
    refine j_iload_n C dL_law_756 3 rfl ?_
    refine j_iconst C dL_law_757 (v := 2) (by decide) ?_
    refine j_iadd C dL_law_758 ?_
    refine j_sld C dL_law_759 (jsx hj hL (k := 2) (by decide) rfl) ?_
    refine j_aload_n C dL_law_760 0 rfl ?_
    refine j_iload_n C dL_law_761 3 rfl ?_
    refine j_iconst C dL_law_762 (v := 3) (by decide) ?_
    refine j_iadd C dL_law_763 ?_
    refine j_sld C dL_law_764 (jsx hj hL (k := 3) (by decide) rfl) ?_
    refine j_aload_n C dL_law_765 0 rfl ?_
    refine j_iload_n C dL_law_766 3 rfl ?_
    refine j_iconst C dL_law_767 (v := 4) (by decide) ?_
    refine j_iadd C dL_law_768 ?_
    refine j_sld C dL_law_769 (jsx hj hL (k := 4) (by decide) rfl) ?_
    refine j_aload_n C dL_law_770 0 rfl ?_
    refine j_iload_n C dL_law_771 3 rfl ?_
    refine j_iconst C dL_law_772 (v := 5) (by decide) ?_
    refine j_iadd C dL_law_773 ?_
    refine j_sld C dL_law_774 (jsx hj hL (k := 5) (by decide) rfl) ?_
    refine j_aload_n C dL_law_775 0 rfl ?_
    refine j_iload_n C dL_law_776 3 rfl ?_
    refine j_bipush C dL_law_777 (v := 6) (by decide) ?_
    refine j_iadd C dL_law_779 ?_
    refine j_sld C dL_law_780 (jsx hj hL (k := 6) (by decide) rfl) ?_
    refine j_if_eq C dL_law_781 (tgt := 788) (by decide) (fun cq => absurd cq hz) (fun _ => ?_)
    refine j_iconst C dL_law_784 (v := 1) (by decide) ?_
    refine j_goto C dL_law_785 (tgt := 789) (by decide) ?_
    refine j_aload_n C dL_law_789 0 rfl ?_
    refine j_iload_n C dL_law_790 3 rfl ?_
    refine j_bipush C dL_law_791 (v := 7) (by decide) ?_
    refine j_iadd C dL_law_793 ?_
    refine j_sld C dL_law_794 (jsx hj hL (k := 7) (by decide) rfl) ?_
    refine j_fV2 C (rest := [.int r]) (w1 := jw 54 (cellC G nd) adC c1) (w2 := jw 15 (cellM G) adM m) (q0 := 0) (ci := 9) (r := (RX9, TX9, 32)) dL_law_795 (m_X9_way n (KV.2.2.2 (Int32.toNatClampNeg (Int32.ofNat j + 1))) (KV.2.2.2 (Int32.toNatClampNeg (Int32.ofNat j + 2))) (KV.2.2.2 (Int32.toNatClampNeg (Int32.ofNat j + 3))) (KV.2.2.2 (Int32.toNatClampNeg (Int32.ofNat j + 4))) (KV.2.2.2 (Int32.toNatClampNeg (Int32.ofNat j + 5))) true (KV.2.2.2 (Int32.toNatClampNeg (Int32.ofNat j + 7))) m hm) kc_X9_way w_1248 w_1249 w_11 w_1250 (jw_at (by decide)) rfl rfl jy_X9_way ⟨⟨Nat.le_of_ble_eq_true rfl, Nat.le_of_ble_eq_true rfl⟩, ⟨rfl, rfl⟩, ⟨Nat.le_of_ble_eq_true rfl, Nat.le_of_ble_eq_true rfl⟩⟩ (Nat.le_of_ble_eq_true rfl) rfl (fun v u hp => ?_)
    obtain ⟨rfl, rfl⟩ := hp
    refine j_icmp_eq C dL_law_798 (tgt := 1101) (by decide) (fun _ => ?_) (fun cq => absurd rfl cq)
    exact hend c1 m1 hI2
set_option maxHeartbeats 4000000 in
set_option maxRecDepth 100000 in
theorem law_guest {l : Launch} {D : va_G} {G : Nat → ClassId} {KV : jV} {nm : String} {K : Nat → Nat → va_W → Nat → List (Nat × Value) → List Value → Prop} (C : jK l D G KV RL code 4 (some .boolean) room_1 600000 7302250 nm (fun v _ => v = some (.int 1)) K) {nd n j : Nat} {adC adM : Nat → Nat} {Inv : jS → jS → Prop} {c m : jS} (hj : j + 8 ≤ KV.2.2.1) (hL : KV.2.2.1 ≤ 4097) (h_guest : ok_guest nd n Inv) (hI : Inv c m) (hend : ∀ c m : jS, Inv c m → K 69 396127 (jw 54 (cellC G nd) adC c ++ jw 15 (cellM G) adM m) 1101 [(0, .ref KV.2.1), (1, .ref (adC 0)), (2, .ref (adM 0)), (3, .int (Int32.ofNat j))] []) : K 69 396127 (jw 54 (cellC G nd) adC c ++ jw 15 (cellM G) adM m) 803 [(0, .ref KV.2.1), (1, .ref (adC 0)), (2, .ref (adM 0)), (3, .int (Int32.ofNat j))] [] := by
  refine j_aload_n C dL_law_803 1 rfl ?_
  refine j_aload_n C dL_law_804 0 rfl ?_
  refine j_iload_n C dL_law_805 3 rfl ?_
  refine j_iconst C dL_law_806 (v := 1) (by decide) ?_
  refine j_iadd C dL_law_807 ?_
  refine j_sld C dL_law_808 (jsx hj hL (k := 1) (by decide) rfl) ?_
  refine j_aload_n C dL_law_809 0 rfl ?_
  refine j_iload_n C dL_law_810 3 rfl ?_
  refine j_iconst C dL_law_811 (v := 2) (by decide) ?_
  refine j_iadd C dL_law_812 ?_
  refine j_sld C dL_law_813 (jsx hj hL (k := 2) (by decide) rfl) ?_
  refine j_aload_n C dL_law_814 0 rfl ?_
  refine j_iload_n C dL_law_815 3 rfl ?_
  refine j_iconst C dL_law_816 (v := 3) (by decide) ?_
  refine j_iadd C dL_law_817 ?_
  refine j_sld C dL_law_818 (jsx hj hL (k := 3) (by decide) rfl) ?_
  refine j_aload_n C dL_law_819 0 rfl ?_
  refine j_iload_n C dL_law_820 3 rfl ?_
  refine j_iconst C dL_law_821 (v := 4) (by decide) ?_
  refine j_iadd C dL_law_822 ?_
  refine j_sld C dL_law_823 (jsx hj hL (k := 4) (by decide) rfl) ?_
  obtain ⟨r, c1, m1, hc, hm, hI2⟩ := h_guest (KV.2.2.2 (Int32.toNatClampNeg (Int32.ofNat j + 1))) (KV.2.2.2 (Int32.toNatClampNeg (Int32.ofNat j + 2))) (KV.2.2.2 (Int32.toNatClampNeg (Int32.ofNat j + 3))) (KV.2.2.2 (Int32.toNatClampNeg (Int32.ofNat j + 4))) c m hI
  refine j_fV1 C (rest := []) (w1 := jw 54 (cellC G nd) adC c) (w2 := jw 15 (cellM G) adM m) (q0 := 0) (ci := 8) (r := (RX8, TX8, 9)) dL_law_824 (m_X8_guest (KV.2.2.2 (Int32.toNatClampNeg (Int32.ofNat j + 1))) (KV.2.2.2 (Int32.toNatClampNeg (Int32.ofNat j + 2))) (KV.2.2.2 (Int32.toNatClampNeg (Int32.ofNat j + 3))) (KV.2.2.2 (Int32.toNatClampNeg (Int32.ofNat j + 4))) c hc) kc_X8_guest w_811 w_812 w_1 w_813 (jw_at (by decide)) rfl rfl jy_X8_guest ⟨⟨Nat.le_of_ble_eq_true rfl, Nat.le_of_ble_eq_true rfl⟩, ⟨rfl, rfl⟩, ⟨Nat.le_of_ble_eq_true rfl, Nat.le_of_ble_eq_true rfl⟩⟩ (Nat.le_of_ble_eq_true rfl) rfl (fun v u hp => ?_)
  obtain ⟨rfl, rfl⟩ := hp
  refine j_aload_n C dL_law_827 2 rfl ?_
  refine j_aload_n C dL_law_828 0 rfl ?_
  refine j_iload_n C dL_law_829 3 rfl ?_
  refine j_iconst C dL_law_830 (v := 1) (by decide) ?_
  refine j_iadd C dL_law_831 ?_
  refine j_sld C dL_law_832 (jsx hj hL (k := 1) (by decide) rfl) ?_
  refine j_aload_n C dL_law_833 0 rfl ?_
  refine j_iload_n C dL_law_834 3 rfl ?_
  refine j_iconst C dL_law_835 (v := 2) (by decide) ?_
  refine j_iadd C dL_law_836 ?_
  refine j_sld C dL_law_837 (jsx hj hL (k := 2) (by decide) rfl) ?_
  refine j_aload_n C dL_law_838 0 rfl ?_
  refine j_iload_n C dL_law_839 3 rfl ?_
  refine j_iconst C dL_law_840 (v := 3) (by decide) ?_
  refine j_iadd C dL_law_841 ?_
  refine j_sld C dL_law_842 (jsx hj hL (k := 3) (by decide) rfl) ?_
  refine j_aload_n C dL_law_843 0 rfl ?_
  refine j_iload_n C dL_law_844 3 rfl ?_
  refine j_iconst C dL_law_845 (v := 4) (by decide) ?_
  refine j_iadd C dL_law_846 ?_
  refine j_sld C dL_law_847 (jsx hj hL (k := 4) (by decide) rfl) ?_
  refine j_fV2 C (rest := [.int r]) (w1 := jw 54 (cellC G nd) adC c1) (w2 := jw 15 (cellM G) adM m) (q0 := 0) (ci := 9) (r := (RX9, TX9, 32)) dL_law_848 (m_X9_guest (KV.2.2.2 (Int32.toNatClampNeg (Int32.ofNat j + 1))) (KV.2.2.2 (Int32.toNatClampNeg (Int32.ofNat j + 2))) (KV.2.2.2 (Int32.toNatClampNeg (Int32.ofNat j + 3))) (KV.2.2.2 (Int32.toNatClampNeg (Int32.ofNat j + 4))) m hm) kc_X9_guest w_1285 w_1286 w_11 w_1287 (jw_at (by decide)) rfl rfl jy_X9_guest ⟨⟨Nat.le_of_ble_eq_true rfl, Nat.le_of_ble_eq_true rfl⟩, ⟨rfl, rfl⟩, ⟨Nat.le_of_ble_eq_true rfl, Nat.le_of_ble_eq_true rfl⟩⟩ (Nat.le_of_ble_eq_true rfl) rfl (fun v u hp => ?_)
  obtain ⟨rfl, rfl⟩ := hp
  refine j_icmp_eq C dL_law_851 (tgt := 1101) (by decide) (fun _ => ?_) (fun cq => absurd rfl cq)
  exact hend c1 m1 hI2
set_option maxHeartbeats 4000000 in
set_option maxRecDepth 100000 in
theorem law_clear {l : Launch} {D : va_G} {G : Nat → ClassId} {KV : jV} {nm : String} {K : Nat → Nat → va_W → Nat → List (Nat × Value) → List Value → Prop} (C : jK l D G KV RL code 4 (some .boolean) room_1 600000 7302250 nm (fun v _ => v = some (.int 1)) K) {nd n j : Nat} {adC adM : Nat → Nat} {Inv : jS → jS → Prop} {c m : jS} (hj : j + 8 ≤ KV.2.2.1) (hL : KV.2.2.1 ≤ 4097) (h_clear : ok_clear nd n Inv) (hI : Inv c m) (hend : ∀ c m : jS, Inv c m → K 69 396127 (jw 54 (cellC G nd) adC c ++ jw 15 (cellM G) adM m) 1101 [(0, .ref KV.2.1), (1, .ref (adC 0)), (2, .ref (adM 0)), (3, .int (Int32.ofNat j))] []) : K 69 396127 (jw 54 (cellC G nd) adC c ++ jw 15 (cellM G) adM m) 856 [(0, .ref KV.2.1), (1, .ref (adC 0)), (2, .ref (adM 0)), (3, .int (Int32.ofNat j))] [] := by
  refine j_aload_n C dL_law_856 1 rfl ?_
  obtain ⟨r, c1, m1, hc, hm, hI2⟩ := h_clear c m hI
  refine j_fV1 C (rest := []) (w1 := jw 54 (cellC G nd) adC c) (w2 := jw 15 (cellM G) adM m) (q0 := 0) (ci := 8) (r := (RX8, TX8, 9)) dL_law_857 (m_X8_clear c hc) kc_X8_clear w_820 w_821 w_1 w_822 (jw_at (by decide)) rfl rfl jy_X8_clear ⟨⟨Nat.le_of_ble_eq_true rfl, Nat.le_of_ble_eq_true rfl⟩, ⟨rfl, rfl⟩, ⟨Nat.le_of_ble_eq_true rfl, Nat.le_of_ble_eq_true rfl⟩⟩ (Nat.le_of_ble_eq_true rfl) rfl (fun v u hp => ?_)
  obtain ⟨rfl, rfl⟩ := hp
  refine j_aload_n C dL_law_860 2 rfl ?_
  refine j_fV2 C (rest := [.int r]) (w1 := jw 54 (cellC G nd) adC c1) (w2 := jw 15 (cellM G) adM m) (q0 := 0) (ci := 9) (r := (RX9, TX9, 32)) dL_law_861 (m_X9_clear m hm) kc_X9_clear w_1289 w_1290 w_11 w_1291 (jw_at (by decide)) rfl rfl jy_X9_clear ⟨⟨Nat.le_of_ble_eq_true rfl, Nat.le_of_ble_eq_true rfl⟩, ⟨rfl, rfl⟩, ⟨Nat.le_of_ble_eq_true rfl, Nat.le_of_ble_eq_true rfl⟩⟩ (Nat.le_of_ble_eq_true rfl) rfl (fun v u hp => ?_)
  obtain ⟨rfl, rfl⟩ := hp
  refine j_icmp_eq C dL_law_864 (tgt := 1101) (by decide) (fun _ => ?_) (fun cq => absurd rfl cq)
  exact hend c1 m1 hI2
set_option maxHeartbeats 4000000 in
set_option maxRecDepth 100000 in
theorem law_earns {l : Launch} {D : va_G} {G : Nat → ClassId} {KV : jV} {nm : String} {K : Nat → Nat → va_W → Nat → List (Nat × Value) → List Value → Prop} (C : jK l D G KV RL code 4 (some .boolean) room_1 600000 7302250 nm (fun v _ => v = some (.int 1)) K) {nd n j : Nat} {adC adM : Nat → Nat} {Inv : jS → jS → Prop} {c m : jS} (hj : j + 8 ≤ KV.2.2.1) (hL : KV.2.2.1 ≤ 4097) (h_earns : ok_earns nd n Inv) (hI : Inv c m) (hend : ∀ c m : jS, Inv c m → K 69 396127 (jw 54 (cellC G nd) adC c ++ jw 15 (cellM G) adM m) 1101 [(0, .ref KV.2.1), (1, .ref (adC 0)), (2, .ref (adM 0)), (3, .int (Int32.ofNat j))] []) : K 69 396127 (jw 54 (cellC G nd) adC c ++ jw 15 (cellM G) adM m) 869 [(0, .ref KV.2.1), (1, .ref (adC 0)), (2, .ref (adM 0)), (3, .int (Int32.ofNat j))] [] := by
  refine j_aload_n C dL_law_869 1 rfl ?_
  refine j_aload_n C dL_law_870 0 rfl ?_
  refine j_iload_n C dL_law_871 3 rfl ?_
  refine j_iconst C dL_law_872 (v := 1) (by decide) ?_
  refine j_iadd C dL_law_873 ?_
  refine j_sld C dL_law_874 (jsx hj hL (k := 1) (by decide) rfl) ?_
  obtain ⟨r, c1, m1, hc, hm, hI2⟩ := h_earns (KV.2.2.2 (Int32.toNatClampNeg (Int32.ofNat j + 1))) c m hI
  refine j_fV1 C (rest := []) (w1 := jw 54 (cellC G nd) adC c) (w2 := jw 15 (cellM G) adM m) (q0 := 0) (ci := 8) (r := (RX8, TX8, 9)) dL_law_875 (m_X8_earns nd n (KV.2.2.2 (Int32.toNatClampNeg (Int32.ofNat j + 1))) c hc) kc_X8_earns w_824 w_825 w_1 w_826 (jw_at (by decide)) rfl rfl jy_X8_earns ⟨⟨Nat.le_of_ble_eq_true rfl, Nat.le_of_ble_eq_true rfl⟩, ⟨rfl, rfl⟩, ⟨Nat.le_of_ble_eq_true rfl, Nat.le_of_ble_eq_true rfl⟩⟩ (Nat.le_of_ble_eq_true rfl) rfl (fun v u hp => ?_)
  obtain ⟨rfl, rfl⟩ := hp
  refine j_aload_n C dL_law_878 2 rfl ?_
  refine j_aload_n C dL_law_879 0 rfl ?_
  refine j_iload_n C dL_law_880 3 rfl ?_
  refine j_iconst C dL_law_881 (v := 1) (by decide) ?_
  refine j_iadd C dL_law_882 ?_
  refine j_sld C dL_law_883 (jsx hj hL (k := 1) (by decide) rfl) ?_
  refine j_fV2 C (rest := [.int r]) (w1 := jw 54 (cellC G nd) adC c1) (w2 := jw 15 (cellM G) adM m) (q0 := 0) (ci := 9) (r := (RX9, TX9, 32)) dL_law_884 (m_X9_earns n (KV.2.2.2 (Int32.toNatClampNeg (Int32.ofNat j + 1))) m hm) kc_X9_earns w_1293 w_1294 w_11 w_1295 (jw_at (by decide)) rfl rfl jy_X9_earns ⟨⟨Nat.le_of_ble_eq_true rfl, Nat.le_of_ble_eq_true rfl⟩, ⟨rfl, rfl⟩, ⟨Nat.le_of_ble_eq_true rfl, Nat.le_of_ble_eq_true rfl⟩⟩ (Nat.le_of_ble_eq_true rfl) rfl (fun v u hp => ?_)
  obtain ⟨rfl, rfl⟩ := hp
  refine j_icmp_eq C dL_law_887 (tgt := 1101) (by decide) (fun _ => ?_) (fun cq => absurd rfl cq)
  exact hend c1 m1 hI2
set_option maxHeartbeats 4000000 in
set_option maxRecDepth 100000 in
theorem law_even {l : Launch} {D : va_G} {G : Nat → ClassId} {KV : jV} {nm : String} {K : Nat → Nat → va_W → Nat → List (Nat × Value) → List Value → Prop} (C : jK l D G KV RL code 4 (some .boolean) room_1 600000 7302250 nm (fun v _ => v = some (.int 1)) K) {nd n j : Nat} {adC adM : Nat → Nat} {Inv : jS → jS → Prop} {c m : jS} (hj : j + 8 ≤ KV.2.2.1) (hL : KV.2.2.1 ≤ 4097) (h_even : ok_even nd n Inv) (hI : Inv c m) (hend : ∀ c m : jS, Inv c m → K 69 396127 (jw 54 (cellC G nd) adC c ++ jw 15 (cellM G) adM m) 1101 [(0, .ref KV.2.1), (1, .ref (adC 0)), (2, .ref (adM 0)), (3, .int (Int32.ofNat j))] []) : K 69 396127 (jw 54 (cellC G nd) adC c ++ jw 15 (cellM G) adM m) 892 [(0, .ref KV.2.1), (1, .ref (adC 0)), (2, .ref (adM 0)), (3, .int (Int32.ofNat j))] [] := by
  refine j_aload_n C dL_law_892 1 rfl ?_
  obtain ⟨r, c1, m1, hc, hm, hI2⟩ := h_even c m hI
  refine j_fV1 C (rest := []) (w1 := jw 54 (cellC G nd) adC c) (w2 := jw 15 (cellM G) adM m) (q0 := 0) (ci := 8) (r := (RX8, TX8, 9)) dL_law_893 (m_X8_even nd n c hc) kc_X8_even w_845 w_846 w_1 w_847 (jw_at (by decide)) rfl rfl jy_X8_even ⟨⟨Nat.le_of_ble_eq_true rfl, Nat.le_of_ble_eq_true rfl⟩, ⟨rfl, rfl⟩, ⟨Nat.le_of_ble_eq_true rfl, Nat.le_of_ble_eq_true rfl⟩⟩ (Nat.le_of_ble_eq_true rfl) rfl (fun v u hp => ?_)
  obtain ⟨rfl, rfl⟩ := hp
  refine j_aload_n C dL_law_896 2 rfl ?_
  refine j_fV2 C (rest := [.int r]) (w1 := jw 54 (cellC G nd) adC c1) (w2 := jw 15 (cellM G) adM m) (q0 := 0) (ci := 9) (r := (RX9, TX9, 32)) dL_law_897 (m_X9_even n m hm) kc_X9_even w_1305 w_1306 w_11 w_1307 (jw_at (by decide)) rfl rfl jy_X9_even ⟨⟨Nat.le_of_ble_eq_true rfl, Nat.le_of_ble_eq_true rfl⟩, ⟨rfl, rfl⟩, ⟨Nat.le_of_ble_eq_true rfl, Nat.le_of_ble_eq_true rfl⟩⟩ (Nat.le_of_ble_eq_true rfl) rfl (fun v u hp => ?_)
  obtain ⟨rfl, rfl⟩ := hp
  refine j_icmp_eq C dL_law_900 (tgt := 1101) (by decide) (fun _ => ?_) (fun cq => absurd rfl cq)
  exact hend c1 m1 hI2
set_option maxHeartbeats 4000000 in
set_option maxRecDepth 100000 in
theorem law_rounds {l : Launch} {D : va_G} {G : Nat → ClassId} {KV : jV} {nm : String} {K : Nat → Nat → va_W → Nat → List (Nat × Value) → List Value → Prop} (C : jK l D G KV RL code 4 (some .boolean) room_1 600000 7302250 nm (fun v _ => v = some (.int 1)) K) {nd n j : Nat} {adC adM : Nat → Nat} {Inv : jS → jS → Prop} {c m : jS} (hj : j + 8 ≤ KV.2.2.1) (hL : KV.2.2.1 ≤ 4097) (h_rounds : ok_rounds nd n Inv) (hI : Inv c m) (hend : ∀ c m : jS, Inv c m → K 69 396127 (jw 54 (cellC G nd) adC c ++ jw 15 (cellM G) adM m) 1101 [(0, .ref KV.2.1), (1, .ref (adC 0)), (2, .ref (adM 0)), (3, .int (Int32.ofNat j))] []) : K 69 396127 (jw 54 (cellC G nd) adC c ++ jw 15 (cellM G) adM m) 905 [(0, .ref KV.2.1), (1, .ref (adC 0)), (2, .ref (adM 0)), (3, .int (Int32.ofNat j))] [] := by
  refine j_aload_n C dL_law_905 1 rfl ?_
  refine j_aload_n C dL_law_906 0 rfl ?_
  refine j_iload_n C dL_law_907 3 rfl ?_
  refine j_iconst C dL_law_908 (v := 1) (by decide) ?_
  refine j_iadd C dL_law_909 ?_
  refine j_sld C dL_law_910 (jsx hj hL (k := 1) (by decide) rfl) ?_
  obtain ⟨r, c1, m1, hc, hm, hI2⟩ := h_rounds (KV.2.2.2 (Int32.toNatClampNeg (Int32.ofNat j + 1))) c m hI
  refine j_fV1 C (rest := []) (w1 := jw 54 (cellC G nd) adC c) (w2 := jw 15 (cellM G) adM m) (q0 := 0) (ci := 8) (r := (RX8, TX8, 9)) dL_law_911 (m_X8_rounds nd n (KV.2.2.2 (Int32.toNatClampNeg (Int32.ofNat j + 1))) c hc) kc_X8_rounds w_857 w_858 w_1 w_859 (jw_at (by decide)) rfl rfl jy_X8_rounds ⟨⟨Nat.le_of_ble_eq_true rfl, Nat.le_of_ble_eq_true rfl⟩, ⟨rfl, rfl⟩, ⟨Nat.le_of_ble_eq_true rfl, Nat.le_of_ble_eq_true rfl⟩⟩ (Nat.le_of_ble_eq_true rfl) rfl (fun v u hp => ?_)
  obtain ⟨rfl, rfl⟩ := hp
  refine j_aload_n C dL_law_914 2 rfl ?_
  refine j_aload_n C dL_law_915 0 rfl ?_
  refine j_iload_n C dL_law_916 3 rfl ?_
  refine j_iconst C dL_law_917 (v := 1) (by decide) ?_
  refine j_iadd C dL_law_918 ?_
  refine j_sld C dL_law_919 (jsx hj hL (k := 1) (by decide) rfl) ?_
  refine j_fV2 C (rest := [.int r]) (w1 := jw 54 (cellC G nd) adC c1) (w2 := jw 15 (cellM G) adM m) (q0 := 0) (ci := 9) (r := (RX9, TX9, 32)) dL_law_920 (m_X9_rounds n (KV.2.2.2 (Int32.toNatClampNeg (Int32.ofNat j + 1))) m hm) kc_X9_rounds w_1313 w_1314 w_11 w_1315 (jw_at (by decide)) rfl rfl jy_X9_rounds ⟨⟨Nat.le_of_ble_eq_true rfl, Nat.le_of_ble_eq_true rfl⟩, ⟨rfl, rfl⟩, ⟨Nat.le_of_ble_eq_true rfl, Nat.le_of_ble_eq_true rfl⟩⟩ (Nat.le_of_ble_eq_true rfl) rfl (fun v u hp => ?_)
  obtain ⟨rfl, rfl⟩ := hp
  refine j_icmp_eq C dL_law_923 (tgt := 1101) (by decide) (fun _ => ?_) (fun cq => absurd rfl cq)
  exact hend c1 m1 hI2
set_option maxHeartbeats 4000000 in
set_option maxRecDepth 100000 in
theorem law_seen {l : Launch} {D : va_G} {G : Nat → ClassId} {KV : jV} {nm : String} {K : Nat → Nat → va_W → Nat → List (Nat × Value) → List Value → Prop} (C : jK l D G KV RL code 4 (some .boolean) room_1 600000 7302250 nm (fun v _ => v = some (.int 1)) K) {nd n j : Nat} {adC adM : Nat → Nat} {Inv : jS → jS → Prop} {c m : jS} (hj : j + 8 ≤ KV.2.2.1) (hL : KV.2.2.1 ≤ 4097) (h_seen : ok_seen nd n Inv) (hI : Inv c m) (hend : ∀ c m : jS, Inv c m → K 69 396127 (jw 54 (cellC G nd) adC c ++ jw 15 (cellM G) adM m) 1101 [(0, .ref KV.2.1), (1, .ref (adC 0)), (2, .ref (adM 0)), (3, .int (Int32.ofNat j))] []) : K 69 396127 (jw 54 (cellC G nd) adC c ++ jw 15 (cellM G) adM m) 928 [(0, .ref KV.2.1), (1, .ref (adC 0)), (2, .ref (adM 0)), (3, .int (Int32.ofNat j))] [] := by
  by_cases hz : (KV.2.2.2 (Int32.toNatClampNeg (Int32.ofNat j + 6))) = 0
  · refine j_aload_n C dL_law_928 1 rfl ?_
    refine j_aload_n C dL_law_929 0 rfl ?_
    refine j_iload_n C dL_law_930 3 rfl ?_
    refine j_iconst C dL_law_931 (v := 1) (by decide) ?_
    refine j_iadd C dL_law_932 ?_
    refine j_sld C dL_law_933 (jsx hj hL (k := 1) (by decide) rfl) ?_
    refine j_aload_n C dL_law_934 0 rfl ?_
    refine j_iload_n C dL_law_935 3 rfl ?_
    refine j_iconst C dL_law_936 (v := 2) (by decide) ?_
    refine j_iadd C dL_law_937 ?_
    refine j_sld C dL_law_938 (jsx hj hL (k := 2) (by decide) rfl) ?_
    refine j_aload_n C dL_law_939 0 rfl ?_
    refine j_iload_n C dL_law_940 3 rfl ?_
    refine j_iconst C dL_law_941 (v := 3) (by decide) ?_
    refine j_iadd C dL_law_942 ?_
    refine j_sld C dL_law_943 (jsx hj hL (k := 3) (by decide) rfl) ?_
    refine j_aload_n C dL_law_944 0 rfl ?_
    refine j_iload_n C dL_law_945 3 rfl ?_
    refine j_iconst C dL_law_946 (v := 4) (by decide) ?_
    refine j_iadd C dL_law_947 ?_
    refine j_sld C dL_law_948 (jsx hj hL (k := 4) (by decide) rfl) ?_
    refine j_aload_n C dL_law_949 0 rfl ?_
    refine j_iload_n C dL_law_950 3 rfl ?_
    refine j_iconst C dL_law_951 (v := 5) (by decide) ?_
    refine j_iadd C dL_law_952 ?_
    refine j_sld C dL_law_953 (jsx hj hL (k := 5) (by decide) rfl) ?_
    refine j_aload_n C dL_law_954 0 rfl ?_
    refine j_iload_n C dL_law_955 3 rfl ?_
    refine j_bipush C dL_law_956 (v := 6) (by decide) ?_
    refine j_iadd C dL_law_958 ?_
    refine j_sld C dL_law_959 (jsx hj hL (k := 6) (by decide) rfl) ?_
    refine j_if_eq C dL_law_960 (tgt := 967) (by decide) (fun _ => ?_) (fun cq => absurd hz cq)
    refine j_iconst C dL_law_967 (v := 0) (by decide) ?_
    obtain ⟨r, c1, m1, hc, hm, hI2⟩ := h_seen (KV.2.2.2 (Int32.toNatClampNeg (Int32.ofNat j + 1))) (KV.2.2.2 (Int32.toNatClampNeg (Int32.ofNat j + 2))) (KV.2.2.2 (Int32.toNatClampNeg (Int32.ofNat j + 3))) (KV.2.2.2 (Int32.toNatClampNeg (Int32.ofNat j + 4))) (KV.2.2.2 (Int32.toNatClampNeg (Int32.ofNat j + 5))) false c m hI
    refine j_fV1 C (rest := []) (w1 := jw 54 (cellC G nd) adC c) (w2 := jw 15 (cellM G) adM m) (q0 := 0) (ci := 8) (r := (RX8, TX8, 9)) dL_law_968 (m_X8_seen (KV.2.2.2 (Int32.toNatClampNeg (Int32.ofNat j + 1))) (KV.2.2.2 (Int32.toNatClampNeg (Int32.ofNat j + 2))) (KV.2.2.2 (Int32.toNatClampNeg (Int32.ofNat j + 3))) (KV.2.2.2 (Int32.toNatClampNeg (Int32.ofNat j + 4))) (KV.2.2.2 (Int32.toNatClampNeg (Int32.ofNat j + 5))) false c hc) kc_X8_seen w_873 w_874 w_1 w_875 (jw_at (by decide)) rfl rfl jy_X8_seen ⟨⟨Nat.le_of_ble_eq_true rfl, Nat.le_of_ble_eq_true rfl⟩, ⟨rfl, rfl⟩, ⟨Nat.le_of_ble_eq_true rfl, Nat.le_of_ble_eq_true rfl⟩⟩ (Nat.le_of_ble_eq_true rfl) rfl (fun v u hp => ?_)
    obtain ⟨rfl, rfl⟩ := hp
    refine j_aload_n C dL_law_971 2 rfl ?_
    refine j_aload_n C dL_law_972 0 rfl ?_
    refine j_iload_n C dL_law_973 3 rfl ?_
    refine j_iconst C dL_law_974 (v := 1) (by decide) ?_
    refine j_iadd C dL_law_975 ?_
    refine j_sld C dL_law_976 (jsx hj hL (k := 1) (by decide) rfl) ?_
    refine j_aload_n C dL_law_977 0 rfl ?_
    refine j_iload_n C dL_law_978 3 rfl ?_
    refine j_iconst C dL_law_979 (v := 2) (by decide) ?_
    refine j_iadd C dL_law_980 ?_
    refine j_sld C dL_law_981 (jsx hj hL (k := 2) (by decide) rfl) ?_
    refine j_aload_n C dL_law_982 0 rfl ?_
    refine j_iload_n C dL_law_983 3 rfl ?_
    refine j_iconst C dL_law_984 (v := 3) (by decide) ?_
    refine j_iadd C dL_law_985 ?_
    refine j_sld C dL_law_986 (jsx hj hL (k := 3) (by decide) rfl) ?_
    refine j_aload_n C dL_law_987 0 rfl ?_
    refine j_iload_n C dL_law_988 3 rfl ?_
    refine j_iconst C dL_law_989 (v := 4) (by decide) ?_
    refine j_iadd C dL_law_990 ?_
    refine j_sld C dL_law_991 (jsx hj hL (k := 4) (by decide) rfl) ?_
    refine j_aload_n C dL_law_992 0 rfl ?_
    refine j_iload_n C dL_law_993 3 rfl ?_
    refine j_iconst C dL_law_994 (v := 5) (by decide) ?_
    refine j_iadd C dL_law_995 ?_
    refine j_sld C dL_law_996 (jsx hj hL (k := 5) (by decide) rfl) ?_
    refine j_aload_n C dL_law_997 0 rfl ?_
    refine j_iload_n C dL_law_998 3 rfl ?_
    refine j_bipush C dL_law_999 (v := 6) (by decide) ?_
    refine j_iadd C dL_law_1001 ?_
    refine j_sld C dL_law_1002 (jsx hj hL (k := 6) (by decide) rfl) ?_
    refine j_if_eq C dL_law_1003 (tgt := 1010) (by decide) (fun _ => ?_) (fun cq => absurd hz cq)
    refine j_iconst C dL_law_1010 (v := 0) (by decide) ?_
    refine j_fV2 C (rest := [.int r]) (w1 := jw 54 (cellC G nd) adC c1) (w2 := jw 15 (cellM G) adM m) (q0 := 0) (ci := 9) (r := (RX9, TX9, 32)) dL_law_1011 (m_X9_seen (KV.2.2.2 (Int32.toNatClampNeg (Int32.ofNat j + 1))) (KV.2.2.2 (Int32.toNatClampNeg (Int32.ofNat j + 2))) (KV.2.2.2 (Int32.toNatClampNeg (Int32.ofNat j + 3))) (KV.2.2.2 (Int32.toNatClampNeg (Int32.ofNat j + 4))) (KV.2.2.2 (Int32.toNatClampNeg (Int32.ofNat j + 5))) false m hm) kc_X9_seen w_1317 w_1318 w_11 w_1319 (jw_at (by decide)) rfl rfl jy_X9_seen ⟨⟨Nat.le_of_ble_eq_true rfl, Nat.le_of_ble_eq_true rfl⟩, ⟨rfl, rfl⟩, ⟨Nat.le_of_ble_eq_true rfl, Nat.le_of_ble_eq_true rfl⟩⟩ (Nat.le_of_ble_eq_true rfl) rfl (fun v u hp => ?_)
    obtain ⟨rfl, rfl⟩ := hp
    refine j_icmp_eq C dL_law_1014 (tgt := 1101) (by decide) (fun _ => ?_) (fun cq => absurd rfl cq)
    exact hend c1 m1 hI2
  · refine j_aload_n C dL_law_928 1 rfl ?_
    refine j_aload_n C dL_law_929 0 rfl ?_
    refine j_iload_n C dL_law_930 3 rfl ?_
    refine j_iconst C dL_law_931 (v := 1) (by decide) ?_
    refine j_iadd C dL_law_932 ?_
    refine j_sld C dL_law_933 (jsx hj hL (k := 1) (by decide) rfl) ?_
    refine j_aload_n C dL_law_934 0 rfl ?_
    refine j_iload_n C dL_law_935 3 rfl ?_
    refine j_iconst C dL_law_936 (v := 2) (by decide) ?_
    refine j_iadd C dL_law_937 ?_
    refine j_sld C dL_law_938 (jsx hj hL (k := 2) (by decide) rfl) ?_
    refine j_aload_n C dL_law_939 0 rfl ?_
    refine j_iload_n C dL_law_940 3 rfl ?_
    refine j_iconst C dL_law_941 (v := 3) (by decide) ?_
    refine j_iadd C dL_law_942 ?_
    refine j_sld C dL_law_943 (jsx hj hL (k := 3) (by decide) rfl) ?_
    refine j_aload_n C dL_law_944 0 rfl ?_
    refine j_iload_n C dL_law_945 3 rfl ?_
    refine j_iconst C dL_law_946 (v := 4) (by decide) ?_
    refine j_iadd C dL_law_947 ?_
    refine j_sld C dL_law_948 (jsx hj hL (k := 4) (by decide) rfl) ?_
    refine j_aload_n C dL_law_949 0 rfl ?_
    refine j_iload_n C dL_law_950 3 rfl ?_
    refine j_iconst C dL_law_951 (v := 5) (by decide) ?_
    refine j_iadd C dL_law_952 ?_
    refine j_sld C dL_law_953 (jsx hj hL (k := 5) (by decide) rfl) ?_
    refine j_aload_n C dL_law_954 0 rfl ?_
    refine j_iload_n C dL_law_955 3 rfl ?_
    refine j_bipush C dL_law_956 (v := 6) (by decide) ?_
    refine j_iadd C dL_law_958 ?_
    refine j_sld C dL_law_959 (jsx hj hL (k := 6) (by decide) rfl) ?_
    refine j_if_eq C dL_law_960 (tgt := 967) (by decide) (fun cq => absurd cq hz) (fun _ => ?_)
    refine j_iconst C dL_law_963 (v := 1) (by decide) ?_
    refine j_goto C dL_law_964 (tgt := 968) (by decide) ?_
    obtain ⟨r, c1, m1, hc, hm, hI2⟩ := h_seen (KV.2.2.2 (Int32.toNatClampNeg (Int32.ofNat j + 1))) (KV.2.2.2 (Int32.toNatClampNeg (Int32.ofNat j + 2))) (KV.2.2.2 (Int32.toNatClampNeg (Int32.ofNat j + 3))) (KV.2.2.2 (Int32.toNatClampNeg (Int32.ofNat j + 4))) (KV.2.2.2 (Int32.toNatClampNeg (Int32.ofNat j + 5))) true c m hI
    refine j_fV1 C (rest := []) (w1 := jw 54 (cellC G nd) adC c) (w2 := jw 15 (cellM G) adM m) (q0 := 0) (ci := 8) (r := (RX8, TX8, 9)) dL_law_968 (m_X8_seen (KV.2.2.2 (Int32.toNatClampNeg (Int32.ofNat j + 1))) (KV.2.2.2 (Int32.toNatClampNeg (Int32.ofNat j + 2))) (KV.2.2.2 (Int32.toNatClampNeg (Int32.ofNat j + 3))) (KV.2.2.2 (Int32.toNatClampNeg (Int32.ofNat j + 4))) (KV.2.2.2 (Int32.toNatClampNeg (Int32.ofNat j + 5))) true c hc) kc_X8_seen w_873 w_874 w_1 w_875 (jw_at (by decide)) rfl rfl jy_X8_seen ⟨⟨Nat.le_of_ble_eq_true rfl, Nat.le_of_ble_eq_true rfl⟩, ⟨rfl, rfl⟩, ⟨Nat.le_of_ble_eq_true rfl, Nat.le_of_ble_eq_true rfl⟩⟩ (Nat.le_of_ble_eq_true rfl) rfl (fun v u hp => ?_)
    obtain ⟨rfl, rfl⟩ := hp
    refine j_aload_n C dL_law_971 2 rfl ?_
    refine j_aload_n C dL_law_972 0 rfl ?_
    refine j_iload_n C dL_law_973 3 rfl ?_
    refine j_iconst C dL_law_974 (v := 1) (by decide) ?_
    refine j_iadd C dL_law_975 ?_
    refine j_sld C dL_law_976 (jsx hj hL (k := 1) (by decide) rfl) ?_
    refine j_aload_n C dL_law_977 0 rfl ?_
    refine j_iload_n C dL_law_978 3 rfl ?_
    refine j_iconst C dL_law_979 (v := 2) (by decide) ?_
    refine j_iadd C dL_law_980 ?_
    refine j_sld C dL_law_981 (jsx hj hL (k := 2) (by decide) rfl) ?_
    refine j_aload_n C dL_law_982 0 rfl ?_
    refine j_iload_n C dL_law_983 3 rfl ?_
    refine j_iconst C dL_law_984 (v := 3) (by decide) ?_
    refine j_iadd C dL_law_985 ?_
    refine j_sld C dL_law_986 (jsx hj hL (k := 3) (by decide) rfl) ?_
    refine j_aload_n C dL_law_987 0 rfl ?_
    refine j_iload_n C dL_law_988 3 rfl ?_
    refine j_iconst C dL_law_989 (v := 4) (by decide) ?_
    refine j_iadd C dL_law_990 ?_
    refine j_sld C dL_law_991 (jsx hj hL (k := 4) (by decide) rfl) ?_
    refine j_aload_n C dL_law_992 0 rfl ?_
    refine j_iload_n C dL_law_993 3 rfl ?_
    refine j_iconst C dL_law_994 (v := 5) (by decide) ?_
    refine j_iadd C dL_law_995 ?_
    refine j_sld C dL_law_996 (jsx hj hL (k := 5) (by decide) rfl) ?_
    refine j_aload_n C dL_law_997 0 rfl ?_
    refine j_iload_n C dL_law_998 3 rfl ?_
    refine j_bipush C dL_law_999 (v := 6) (by decide) ?_
    refine j_iadd C dL_law_1001 ?_
    refine j_sld C dL_law_1002 (jsx hj hL (k := 6) (by decide) rfl) ?_
    refine j_if_eq C dL_law_1003 (tgt := 1010) (by decide) (fun cq => absurd cq hz) (fun _ => ?_)
    refine j_iconst C dL_law_1006 (v := 1) (by decide) ?_
    refine j_goto C dL_law_1007 (tgt := 1011) (by decide) ?_
    refine j_fV2 C (rest := [.int r]) (w1 := jw 54 (cellC G nd) adC c1) (w2 := jw 15 (cellM G) adM m) (q0 := 0) (ci := 9) (r := (RX9, TX9, 32)) dL_law_1011 (m_X9_seen (KV.2.2.2 (Int32.toNatClampNeg (Int32.ofNat j + 1))) (KV.2.2.2 (Int32.toNatClampNeg (Int32.ofNat j + 2))) (KV.2.2.2 (Int32.toNatClampNeg (Int32.ofNat j + 3))) (KV.2.2.2 (Int32.toNatClampNeg (Int32.ofNat j + 4))) (KV.2.2.2 (Int32.toNatClampNeg (Int32.ofNat j + 5))) true m hm) kc_X9_seen w_1317 w_1318 w_11 w_1319 (jw_at (by decide)) rfl rfl jy_X9_seen ⟨⟨Nat.le_of_ble_eq_true rfl, Nat.le_of_ble_eq_true rfl⟩, ⟨rfl, rfl⟩, ⟨Nat.le_of_ble_eq_true rfl, Nat.le_of_ble_eq_true rfl⟩⟩ (Nat.le_of_ble_eq_true rfl) rfl (fun v u hp => ?_)
    obtain ⟨rfl, rfl⟩ := hp
    refine j_icmp_eq C dL_law_1014 (tgt := 1101) (by decide) (fun _ => ?_) (fun cq => absurd rfl cq)
    exact hend c1 m1 hI2
set_option maxHeartbeats 4000000 in
set_option maxRecDepth 100000 in
theorem law_kept {l : Launch} {D : va_G} {G : Nat → ClassId} {KV : jV} {nm : String} {K : Nat → Nat → va_W → Nat → List (Nat × Value) → List Value → Prop} (C : jK l D G KV RL code 4 (some .boolean) room_1 600000 7302250 nm (fun v _ => v = some (.int 1)) K) {nd n j : Nat} {adC adM : Nat → Nat} {Inv : jS → jS → Prop} {c m : jS} (hj : j + 8 ≤ KV.2.2.1) (hL : KV.2.2.1 ≤ 4097) (h_kept : ok_kept nd n Inv) (hI : Inv c m) (hend : ∀ c m : jS, Inv c m → K 69 396127 (jw 54 (cellC G nd) adC c ++ jw 15 (cellM G) adM m) 1101 [(0, .ref KV.2.1), (1, .ref (adC 0)), (2, .ref (adM 0)), (3, .int (Int32.ofNat j))] []) : K 69 396127 (jw 54 (cellC G nd) adC c ++ jw 15 (cellM G) adM m) 1019 [(0, .ref KV.2.1), (1, .ref (adC 0)), (2, .ref (adM 0)), (3, .int (Int32.ofNat j))] [] := by
  refine j_aload_n C dL_law_1019 1 rfl ?_
  refine j_aload_n C dL_law_1020 0 rfl ?_
  refine j_iload_n C dL_law_1021 3 rfl ?_
  refine j_iconst C dL_law_1022 (v := 1) (by decide) ?_
  refine j_iadd C dL_law_1023 ?_
  refine j_sld C dL_law_1024 (jsx hj hL (k := 1) (by decide) rfl) ?_
  refine j_aload_n C dL_law_1025 0 rfl ?_
  refine j_iload_n C dL_law_1026 3 rfl ?_
  refine j_iconst C dL_law_1027 (v := 2) (by decide) ?_
  refine j_iadd C dL_law_1028 ?_
  refine j_sld C dL_law_1029 (jsx hj hL (k := 2) (by decide) rfl) ?_
  obtain ⟨r, c1, m1, hc, hm, hI2⟩ := h_kept (KV.2.2.2 (Int32.toNatClampNeg (Int32.ofNat j + 1))) (KV.2.2.2 (Int32.toNatClampNeg (Int32.ofNat j + 2))) c m hI
  refine j_fV1 C (rest := []) (w1 := jw 54 (cellC G nd) adC c) (w2 := jw 15 (cellM G) adM m) (q0 := 0) (ci := 8) (r := (RX8, TX8, 9)) dL_law_1030 (m_X8_kept n (KV.2.2.2 (Int32.toNatClampNeg (Int32.ofNat j + 1))) (KV.2.2.2 (Int32.toNatClampNeg (Int32.ofNat j + 2))) c hc) kc_X8_kept w_877 w_878 w_1 w_879 (jw_at (by decide)) rfl rfl jy_X8_kept ⟨⟨Nat.le_of_ble_eq_true rfl, Nat.le_of_ble_eq_true rfl⟩, ⟨rfl, rfl⟩, ⟨Nat.le_of_ble_eq_true rfl, Nat.le_of_ble_eq_true rfl⟩⟩ (Nat.le_of_ble_eq_true rfl) rfl (fun v u hp => ?_)
  obtain ⟨rfl, rfl⟩ := hp
  refine j_aload_n C dL_law_1033 2 rfl ?_
  refine j_aload_n C dL_law_1034 0 rfl ?_
  refine j_iload_n C dL_law_1035 3 rfl ?_
  refine j_iconst C dL_law_1036 (v := 1) (by decide) ?_
  refine j_iadd C dL_law_1037 ?_
  refine j_sld C dL_law_1038 (jsx hj hL (k := 1) (by decide) rfl) ?_
  refine j_aload_n C dL_law_1039 0 rfl ?_
  refine j_iload_n C dL_law_1040 3 rfl ?_
  refine j_iconst C dL_law_1041 (v := 2) (by decide) ?_
  refine j_iadd C dL_law_1042 ?_
  refine j_sld C dL_law_1043 (jsx hj hL (k := 2) (by decide) rfl) ?_
  refine j_fV2 C (rest := [.int r]) (w1 := jw 54 (cellC G nd) adC c1) (w2 := jw 15 (cellM G) adM m) (q0 := 0) (ci := 9) (r := (RX9, TX9, 32)) dL_law_1044 (m_X9_kept n (KV.2.2.2 (Int32.toNatClampNeg (Int32.ofNat j + 1))) (KV.2.2.2 (Int32.toNatClampNeg (Int32.ofNat j + 2))) m hm) kc_X9_kept w_1321 w_1322 w_11 w_1323 (jw_at (by decide)) rfl rfl jy_X9_kept ⟨⟨Nat.le_of_ble_eq_true rfl, Nat.le_of_ble_eq_true rfl⟩, ⟨rfl, rfl⟩, ⟨Nat.le_of_ble_eq_true rfl, Nat.le_of_ble_eq_true rfl⟩⟩ (Nat.le_of_ble_eq_true rfl) rfl (fun v u hp => ?_)
  obtain ⟨rfl, rfl⟩ := hp
  refine j_icmp_eq C dL_law_1047 (tgt := 1101) (by decide) (fun _ => ?_) (fun cq => absurd rfl cq)
  exact hend c1 m1 hI2
set_option maxHeartbeats 4000000 in
set_option maxRecDepth 100000 in
theorem law_image {l : Launch} {D : va_G} {G : Nat → ClassId} {KV : jV} {nm : String} {K : Nat → Nat → va_W → Nat → List (Nat × Value) → List Value → Prop} (C : jK l D G KV RL code 4 (some .boolean) room_1 600000 7302250 nm (fun v _ => v = some (.int 1)) K) {nd n j : Nat} {adC adM : Nat → Nat} {Inv : jS → jS → Prop} {c m : jS} (hj : j + 8 ≤ KV.2.2.1) (hL : KV.2.2.1 ≤ 4097) (h_image : ok_image nd n Inv) (hI : Inv c m) (hend : ∀ c m : jS, Inv c m → K 69 396127 (jw 54 (cellC G nd) adC c ++ jw 15 (cellM G) adM m) 1101 [(0, .ref KV.2.1), (1, .ref (adC 0)), (2, .ref (adM 0)), (3, .int (Int32.ofNat j))] []) : K 69 396127 (jw 54 (cellC G nd) adC c ++ jw 15 (cellM G) adM m) 1052 [(0, .ref KV.2.1), (1, .ref (adC 0)), (2, .ref (adM 0)), (3, .int (Int32.ofNat j))] [] := by
  refine j_aload_n C dL_law_1052 1 rfl ?_
  obtain ⟨r, c1, m1, hc, hm, hI2⟩ := h_image c m hI
  refine j_fV1 C (rest := []) (w1 := jw 54 (cellC G nd) adC c) (w2 := jw 15 (cellM G) adM m) (q0 := 0) (ci := 8) (r := (RX8, TX8, 9)) dL_law_1053 (m_X8_image n c hc) kc_X8_image w_885 w_886 w_1 w_887 (jw_at (by decide)) rfl rfl jy_X8_image ⟨⟨Nat.le_of_ble_eq_true rfl, Nat.le_of_ble_eq_true rfl⟩, ⟨rfl, rfl⟩, ⟨Nat.le_of_ble_eq_true rfl, Nat.le_of_ble_eq_true rfl⟩⟩ (Nat.le_of_ble_eq_true rfl) rfl (fun v u hp => ?_)
  obtain ⟨rfl, rfl⟩ := hp
  refine j_aload_n C dL_law_1056 2 rfl ?_
  refine j_fV2 C (rest := [.int r]) (w1 := jw 54 (cellC G nd) adC c1) (w2 := jw 15 (cellM G) adM m) (q0 := 0) (ci := 9) (r := (RX9, TX9, 32)) dL_law_1057 (m_X9_image n m hm) kc_X9_image w_1329 w_1330 w_11 w_1331 (jw_at (by decide)) rfl rfl jy_X9_image ⟨⟨Nat.le_of_ble_eq_true rfl, Nat.le_of_ble_eq_true rfl⟩, ⟨rfl, rfl⟩, ⟨Nat.le_of_ble_eq_true rfl, Nat.le_of_ble_eq_true rfl⟩⟩ (Nat.le_of_ble_eq_true rfl) rfl (fun v u hp => ?_)
  obtain ⟨rfl, rfl⟩ := hp
  refine j_icmp_eq C dL_law_1060 (tgt := 1101) (by decide) (fun _ => ?_) (fun cq => absurd rfl cq)
  exact hend c1 m1 hI2
set_option maxHeartbeats 4000000 in
set_option maxRecDepth 100000 in
theorem law_back {l : Launch} {D : va_G} {G : Nat → ClassId} {KV : jV} {nm : String} {K : Nat → Nat → va_W → Nat → List (Nat × Value) → List Value → Prop} (C : jK l D G KV RL code 4 (some .boolean) room_1 600000 7302250 nm (fun v _ => v = some (.int 1)) K) {nd n j : Nat} {adC adM : Nat → Nat} {Inv : jS → jS → Prop} {c m : jS} (hj : j + 8 ≤ KV.2.2.1) (hL : KV.2.2.1 ≤ 4097) (h_back : ok_back nd n Inv) (hI : Inv c m) (hend : ∀ c m : jS, Inv c m → K 69 396127 (jw 54 (cellC G nd) adC c ++ jw 15 (cellM G) adM m) 1101 [(0, .ref KV.2.1), (1, .ref (adC 0)), (2, .ref (adM 0)), (3, .int (Int32.ofNat j))] []) : K 69 396127 (jw 54 (cellC G nd) adC c ++ jw 15 (cellM G) adM m) 1065 [(0, .ref KV.2.1), (1, .ref (adC 0)), (2, .ref (adM 0)), (3, .int (Int32.ofNat j))] [] := by
  refine j_aload_n C dL_law_1065 1 rfl ?_
  obtain ⟨r, c1, m1, hc, hm, hI2⟩ := h_back c m hI
  refine j_fV1 C (rest := []) (w1 := jw 54 (cellC G nd) adC c) (w2 := jw 15 (cellM G) adM m) (q0 := 0) (ci := 8) (r := (RX8, TX8, 9)) dL_law_1066 (m_X8_back n c hc) kc_X8_back w_898 w_899 w_1 w_900 (jw_at (by decide)) rfl rfl jy_X8_back ⟨⟨Nat.le_of_ble_eq_true rfl, Nat.le_of_ble_eq_true rfl⟩, ⟨rfl, rfl⟩, ⟨Nat.le_of_ble_eq_true rfl, Nat.le_of_ble_eq_true rfl⟩⟩ (Nat.le_of_ble_eq_true rfl) rfl (fun v u hp => ?_)
  obtain ⟨rfl, rfl⟩ := hp
  refine j_aload_n C dL_law_1069 2 rfl ?_
  refine j_fV2 C (rest := [.int r]) (w1 := jw 54 (cellC G nd) adC c1) (w2 := jw 15 (cellM G) adM m) (q0 := 0) (ci := 9) (r := (RX9, TX9, 32)) dL_law_1070 (m_X9_back n m hm) kc_X9_back w_1333 w_1334 w_11 w_1335 (jw_at (by decide)) rfl rfl jy_X9_back ⟨⟨Nat.le_of_ble_eq_true rfl, Nat.le_of_ble_eq_true rfl⟩, ⟨rfl, rfl⟩, ⟨Nat.le_of_ble_eq_true rfl, Nat.le_of_ble_eq_true rfl⟩⟩ (Nat.le_of_ble_eq_true rfl) rfl (fun v u hp => ?_)
  obtain ⟨rfl, rfl⟩ := hp
  refine j_icmp_eq C dL_law_1073 (tgt := 1101) (by decide) (fun _ => ?_) (fun cq => absurd rfl cq)
  exact hend c1 m1 hI2
set_option maxHeartbeats 4000000 in
set_option maxRecDepth 100000 in
theorem law_about {l : Launch} {D : va_G} {G : Nat → ClassId} {KV : jV} {nm : String} {K : Nat → Nat → va_W → Nat → List (Nat × Value) → List Value → Prop} (C : jK l D G KV RL code 4 (some .boolean) room_1 600000 7302250 nm (fun v _ => v = some (.int 1)) K) {nd n j : Nat} {adC adM : Nat → Nat} {Inv : jS → jS → Prop} {c m : jS} (hj : j + 8 ≤ KV.2.2.1) (hL : KV.2.2.1 ≤ 4097) (h_about : ok_about nd n Inv) (hI : Inv c m) (hend : ∀ c m : jS, Inv c m → K 69 396127 (jw 54 (cellC G nd) adC c ++ jw 15 (cellM G) adM m) 1101 [(0, .ref KV.2.1), (1, .ref (adC 0)), (2, .ref (adM 0)), (3, .int (Int32.ofNat j))] []) : K 69 396127 (jw 54 (cellC G nd) adC c ++ jw 15 (cellM G) adM m) 1078 [(0, .ref KV.2.1), (1, .ref (adC 0)), (2, .ref (adM 0)), (3, .int (Int32.ofNat j))] [] := by
  refine j_aload_n C dL_law_1078 1 rfl ?_
  refine j_aload_n C dL_law_1079 0 rfl ?_
  refine j_iload_n C dL_law_1080 3 rfl ?_
  refine j_iconst C dL_law_1081 (v := 1) (by decide) ?_
  refine j_iadd C dL_law_1082 ?_
  refine j_sld C dL_law_1083 (jsx hj hL (k := 1) (by decide) rfl) ?_
  obtain ⟨r, hc, hm, hI2⟩ := h_about (KV.2.2.2 (Int32.toNatClampNeg (Int32.ofNat j + 1))) c m hI
  refine j_fV1 C (rest := []) (w1 := jw 54 (cellC G nd) adC c) (w2 := jw 15 (cellM G) adM m) (q0 := 0) (ci := 8) (r := (RX8, TX8, 9)) dL_law_1084 (m_X8_about (KV.2.2.2 (Int32.toNatClampNeg (Int32.ofNat j + 1))) c hc) kc_X8_about w_902 w_903 w_1 w_904 (jw_at (by decide)) rfl rfl jy_X8_about ⟨⟨Nat.le_of_ble_eq_true rfl, Nat.le_of_ble_eq_true rfl⟩, ⟨rfl, rfl⟩, ⟨Nat.le_of_ble_eq_true rfl, Nat.le_of_ble_eq_true rfl⟩⟩ (Nat.le_of_ble_eq_true rfl) rfl (fun v u hp => ?_)
  obtain ⟨rfl, rfl⟩ := hp
  refine j_aload_n C dL_law_1087 2 rfl ?_
  refine j_aload_n C dL_law_1088 0 rfl ?_
  refine j_iload_n C dL_law_1089 3 rfl ?_
  refine j_iconst C dL_law_1090 (v := 1) (by decide) ?_
  refine j_iadd C dL_law_1091 ?_
  refine j_sld C dL_law_1092 (jsx hj hL (k := 1) (by decide) rfl) ?_
  refine j_fV2 C (rest := [.int r]) (w1 := jw 54 (cellC G nd) adC c) (w2 := jw 15 (cellM G) adM m) (q0 := 0) (ci := 9) (r := (RX9, TX9, 32)) dL_law_1093 (m_X9_about (KV.2.2.2 (Int32.toNatClampNeg (Int32.ofNat j + 1))) m hm) kc_X9_about w_1337 w_1338 w_11 w_1339 (jw_at (by decide)) rfl rfl jy_X9_about ⟨⟨Nat.le_of_ble_eq_true rfl, Nat.le_of_ble_eq_true rfl⟩, ⟨rfl, rfl⟩, ⟨Nat.le_of_ble_eq_true rfl, Nat.le_of_ble_eq_true rfl⟩⟩ (Nat.le_of_ble_eq_true rfl) rfl (fun v u hp => ?_)
  obtain ⟨rfl, rfl⟩ := hp
  refine j_icmp_eq C dL_law_1096 (tgt := 1101) (by decide) (fun _ => ?_) (fun cq => absurd rfl cq)
  exact hend c m hI2
set_option maxHeartbeats 4000000 in
set_option maxRecDepth 100000 in
theorem law_loop {l : Launch} {D : va_G} {G : Nat → ClassId} {KV : jV} {nm : String} {K : Nat → Nat → va_W → Nat → List (Nat × Value) → List Value → Prop} (C : jK l D G KV RL code 4 (some .boolean) room_1 600000 7302250 nm (fun v _ => v = some (.int 1)) K) {nd n : Nat} {adC adM : Nat → Nat} {Inv : jS → jS → Prop} (hL : KV.2.2.1 ≤ 4097) (h_rain : ok_rain nd n Inv) (h_mood : ok_mood nd n Inv) (h_moods : ok_moods nd n Inv) (h_hinge : ok_hinge nd n Inv) (h_feed : ok_feed nd n Inv) (h_end : ok_end nd n Inv) (h_text : ok_text nd n Inv) (h_fault : ok_fault nd n Inv) (h_keep : ok_keep nd n Inv) (h_opens : ok_opens nd n Inv) (h_sets : ok_sets nd n Inv) (h_knock : ok_knock nd n Inv) (h_later : ok_later nd n Inv) (h_played : ok_played nd n Inv) (h_undo : ok_undo nd n Inv) (h_traveller : ok_traveller nd n Inv) (h_way : ok_way nd n Inv) (h_guest : ok_guest nd n Inv) (h_clear : ok_clear nd n Inv) (h_earns : ok_earns nd n Inv) (h_even : ok_even nd n Inv) (h_rounds : ok_rounds nd n Inv) (h_seen : ok_seen nd n Inv) (h_kept : ok_kept nd n Inv) (h_image : ok_image nd n Inv) (h_back : ok_back nd n Inv) (h_about : ok_about nd n Inv) : ∀ (k j : Nat) (c m : jS), 1 ≤ j → j ≤ KV.2.2.1 + 8 → KV.2.2.1 + 1 ≤ j + k → Inv c m → K 69 396127 (jw 54 (cellC G nd) adC c ++ jw 15 (cellM G) adM m) 28 [(0, .ref KV.2.1), (1, .ref (adC 0)), (2, .ref (adM 0)), (3, .int (Int32.ofNat j))] [] := by
  intro k
  induction k with
  | zero =>
    intro j c m h1 h2 h3 hI
    refine j_iload_n C dL_law_28 3 rfl ?_
    refine j_aload_n C dL_law_29 0 rfl ?_
    refine j_slen C dL_law_30 ?_
    refine j_bipush C dL_law_31 (v := 8) (by decide) ?_
    refine j_isub C dL_law_33 ?_
    refine j_icmp_gt C dL_law_34 (tgt := 1107) (by decide) (fun _ => ?_) (fun cq => absurd ((jcond hL (by omega)).mpr (by omega)) cq)
    refine j_iconst C dL_law_1107 (v := 1) (by decide) ?_
    exact j_iret C dL_law_1108 rfl (jb_nar true) (Nat.le_of_ble_eq_true rfl) (Nat.le_of_ble_eq_true rfl) rfl
  | succ k ih =>
    intro j c m h1 h2 h3 hI
    refine j_iload_n C dL_law_28 3 rfl ?_
    refine j_aload_n C dL_law_29 0 rfl ?_
    refine j_slen C dL_law_30 ?_
    refine j_bipush C dL_law_31 (v := 8) (by decide) ?_
    refine j_isub C dL_law_33 ?_
    refine j_icmp_gt C dL_law_34 (tgt := 1107) (by decide) (fun _ => ?_) (fun cq => ?_)
    · refine j_iconst C dL_law_1107 (v := 1) (by decide) ?_
      exact j_iret C dL_law_1108 rfl (jb_nar true) (Nat.le_of_ble_eq_true rfl) (Nat.le_of_ble_eq_true rfl) rfl
    · have hj : j + 8 ≤ KV.2.2.1 := Decidable.byContradiction (fun q => cq ((jcond hL (by omega)).mpr q))
      have hend : ∀ c m : jS, Inv c m → K 69 396127 (jw 54 (cellC G nd) adC c ++ jw 15 (cellM G) adM m) 1101 [(0, .ref KV.2.1), (1, .ref (adC 0)), (2, .ref (adM 0)), (3, .int (Int32.ofNat j))] [] := by
        intro c m hI
        refine j_iinc C dL_law_1101 3 rfl (v := Int32.ofNat (j + 8)) (by rw [show Int32.ofInt 8 = nI 8 from by decide]; exact nI_add j 8) (by decide) rfl ?_
        refine j_goto C dL_law_1104 (tgt := 28) (by decide) ?_
        refine j_loc C [1, 2, 3, 0] rfl ?_
        exact ih (j + 8) c m (by omega) (by omega) (by omega) hI
      refine j_aload_n C dL_law_37 0 rfl ?_
      refine j_iload_n C dL_law_38 3 rfl ?_
      refine j_sld C dL_law_39 (vp_in_nI (n := j) (N := KV.2.2.1) (by omega) (by omega)) ?_
      refine j_bipush C dL_law_40 (v := 31) (by decide) ?_
      refine j_iand C dL_law_42 ?_
      by_cases cs0 : (KV.2.2.2 (Int32.toNatClampNeg (Int32.ofNat j)) &&& 31) = 0
      · refine j_tinE C dL_law_43 cs0 (by decide) (by decide) (off := 121) (by decide) (tgt := 164) (by decide) ?_
        exact law_rain C hj hL h_rain hI hend
      by_cases cs1 : (KV.2.2.2 (Int32.toNatClampNeg (Int32.ofNat j)) &&& 31) = 1
      · refine j_tinE C dL_law_43 cs1 (by decide) (by decide) (off := 154) (by decide) (tgt := 197) (by decide) ?_
        exact law_mood C hj hL h_mood hI hend
      by_cases cs2 : (KV.2.2.2 (Int32.toNatClampNeg (Int32.ofNat j)) &&& 31) = 2
      · refine j_tinE C dL_law_43 cs2 (by decide) (by decide) (off := 187) (by decide) (tgt := 230) (by decide) ?_
        exact law_moods C hj hL h_moods hI hend
      by_cases cs3 : (KV.2.2.2 (Int32.toNatClampNeg (Int32.ofNat j)) &&& 31) = 3
      · refine j_tinE C dL_law_43 cs3 (by decide) (by decide) (off := 210) (by decide) (tgt := 253) (by decide) ?_
        exact law_hinge C hj hL h_hinge hI hend
      by_cases cs4 : (KV.2.2.2 (Int32.toNatClampNeg (Int32.ofNat j)) &&& 31) = 4
      · refine j_tinE C dL_law_43 cs4 (by decide) (by decide) (off := 259) (by decide) (tgt := 302) (by decide) ?_
        exact law_feed C hj hL h_feed hI hend
      by_cases cs5 : (KV.2.2.2 (Int32.toNatClampNeg (Int32.ofNat j)) &&& 31) = 5
      · refine j_tinE C dL_law_43 cs5 (by decide) (by decide) (off := 322) (by decide) (tgt := 365) (by decide) ?_
        exact law_end C hj hL h_end hI hend
      by_cases cs6 : (KV.2.2.2 (Int32.toNatClampNeg (Int32.ofNat j)) &&& 31) = 6
      · refine j_tinE C dL_law_43 cs6 (by decide) (by decide) (off := 345) (by decide) (tgt := 388) (by decide) ?_
        exact law_text C hj hL h_text hI hend
      by_cases cs7 : (KV.2.2.2 (Int32.toNatClampNeg (Int32.ofNat j)) &&& 31) = 7
      · refine j_tinE C dL_law_43 cs7 (by decide) (by decide) (off := 358) (by decide) (tgt := 401) (by decide) ?_
        exact law_fault C hj hL h_fault hI hend
      by_cases cs8 : (KV.2.2.2 (Int32.toNatClampNeg (Int32.ofNat j)) &&& 31) = 8
      · refine j_tinE C dL_law_43 cs8 (by decide) (by decide) (off := 381) (by decide) (tgt := 424) (by decide) ?_
        exact law_keep C hj hL h_keep hI hend
      by_cases cs9 : (KV.2.2.2 (Int32.toNatClampNeg (Int32.ofNat j)) &&& 31) = 9
      · refine j_tinE C dL_law_43 cs9 (by decide) (by decide) (off := 414) (by decide) (tgt := 457) (by decide) ?_
        exact law_opens C hj hL h_opens hI hend
      by_cases cs10 : (KV.2.2.2 (Int32.toNatClampNeg (Int32.ofNat j)) &&& 31) = 10
      · refine j_tinE C dL_law_43 cs10 (by decide) (by decide) (off := 489) (by decide) (tgt := 532) (by decide) ?_
        exact law_sets C hj hL h_sets hI hend
      by_cases cs11 : (KV.2.2.2 (Int32.toNatClampNeg (Int32.ofNat j)) &&& 31) = 11
      · refine j_tinE C dL_law_43 cs11 (by decide) (by decide) (off := 542) (by decide) (tgt := 585) (by decide) ?_
        exact law_knock C hj hL h_knock hI hend
      by_cases cs12 : (KV.2.2.2 (Int32.toNatClampNeg (Int32.ofNat j)) &&& 31) = 12
      · refine j_tinE C dL_law_43 cs12 (by decide) (by decide) (off := 575) (by decide) (tgt := 618) (by decide) ?_
        exact law_later C hj hL h_later hI hend
      by_cases cs13 : (KV.2.2.2 (Int32.toNatClampNeg (Int32.ofNat j)) &&& 31) = 13
      · refine j_tinE C dL_law_43 cs13 (by decide) (by decide) (off := 598) (by decide) (tgt := 641) (by decide) ?_
        exact law_played C hj hL h_played hI hend
      by_cases cs14 : (KV.2.2.2 (Int32.toNatClampNeg (Int32.ofNat j)) &&& 31) = 14
      · refine j_tinE C dL_law_43 cs14 (by decide) (by decide) (off := 621) (by decide) (tgt := 664) (by decide) ?_
        exact law_undo C hj hL h_undo hI hend
      by_cases cs15 : (KV.2.2.2 (Int32.toNatClampNeg (Int32.ofNat j)) &&& 31) = 15
      · refine j_tinE C dL_law_43 cs15 (by decide) (by decide) (off := 634) (by decide) (tgt := 677) (by decide) ?_
        exact law_traveller C hj hL h_traveller hI hend
      by_cases cs16 : (KV.2.2.2 (Int32.toNatClampNeg (Int32.ofNat j)) &&& 31) = 16
      · refine j_tinE C dL_law_43 cs16 (by decide) (by decide) (off := 657) (by decide) (tgt := 700) (by decide) ?_
        exact law_way C hj hL h_way hI hend
      by_cases cs17 : (KV.2.2.2 (Int32.toNatClampNeg (Int32.ofNat j)) &&& 31) = 17
      · refine j_tinE C dL_law_43 cs17 (by decide) (by decide) (off := 760) (by decide) (tgt := 803) (by decide) ?_
        exact law_guest C hj hL h_guest hI hend
      by_cases cs18 : (KV.2.2.2 (Int32.toNatClampNeg (Int32.ofNat j)) &&& 31) = 18
      · refine j_tinE C dL_law_43 cs18 (by decide) (by decide) (off := 813) (by decide) (tgt := 856) (by decide) ?_
        exact law_clear C hj hL h_clear hI hend
      by_cases cs19 : (KV.2.2.2 (Int32.toNatClampNeg (Int32.ofNat j)) &&& 31) = 19
      · refine j_tinE C dL_law_43 cs19 (by decide) (by decide) (off := 826) (by decide) (tgt := 869) (by decide) ?_
        exact law_earns C hj hL h_earns hI hend
      by_cases cs20 : (KV.2.2.2 (Int32.toNatClampNeg (Int32.ofNat j)) &&& 31) = 20
      · refine j_tinE C dL_law_43 cs20 (by decide) (by decide) (off := 849) (by decide) (tgt := 892) (by decide) ?_
        exact law_even C hj hL h_even hI hend
      by_cases cs21 : (KV.2.2.2 (Int32.toNatClampNeg (Int32.ofNat j)) &&& 31) = 21
      · refine j_tinE C dL_law_43 cs21 (by decide) (by decide) (off := 862) (by decide) (tgt := 905) (by decide) ?_
        exact law_rounds C hj hL h_rounds hI hend
      by_cases cs22 : (KV.2.2.2 (Int32.toNatClampNeg (Int32.ofNat j)) &&& 31) = 22
      · refine j_tinE C dL_law_43 cs22 (by decide) (by decide) (off := 885) (by decide) (tgt := 928) (by decide) ?_
        exact law_seen C hj hL h_seen hI hend
      by_cases cs23 : (KV.2.2.2 (Int32.toNatClampNeg (Int32.ofNat j)) &&& 31) = 23
      · refine j_tinE C dL_law_43 cs23 (by decide) (by decide) (off := 976) (by decide) (tgt := 1019) (by decide) ?_
        exact law_kept C hj hL h_kept hI hend
      by_cases cs24 : (KV.2.2.2 (Int32.toNatClampNeg (Int32.ofNat j)) &&& 31) = 24
      · refine j_tinE C dL_law_43 cs24 (by decide) (by decide) (off := 1009) (by decide) (tgt := 1052) (by decide) ?_
        exact law_image C hj hL h_image hI hend
      by_cases cs25 : (KV.2.2.2 (Int32.toNatClampNeg (Int32.ofNat j)) &&& 31) = 25
      · refine j_tinE C dL_law_43 cs25 (by decide) (by decide) (off := 1022) (by decide) (tgt := 1065) (by decide) ?_
        exact law_back C hj hL h_back hI hend
      by_cases cs26 : (KV.2.2.2 (Int32.toNatClampNeg (Int32.ofNat j)) &&& 31) = 26
      · refine j_tinE C dL_law_43 cs26 (by decide) (by decide) (off := 1035) (by decide) (tgt := 1078) (by decide) ?_
        exact law_about C hj hL h_about hI hend
      refine j_tout C dL_law_43 (jtsw (by decide) (by decide) (fun z h1 h2 => ?_)) (tgt := 1101) (by decide) ?_
      · have hz : z = 0 ∨ z = 1 ∨ z = 2 ∨ z = 3 ∨ z = 4 ∨ z = 5 ∨ z = 6 ∨ z = 7 ∨ z = 8 ∨ z = 9 ∨ z = 10 ∨ z = 11 ∨ z = 12 ∨ z = 13 ∨ z = 14 ∨ z = 15 ∨ z = 16 ∨ z = 17 ∨ z = 18 ∨ z = 19 ∨ z = 20 ∨ z = 21 ∨ z = 22 ∨ z = 23 ∨ z = 24 ∨ z = 25 ∨ z = 26 := by omega
        rcases hz with rfl | rfl | rfl | rfl | rfl | rfl | rfl | rfl | rfl | rfl | rfl | rfl | rfl | rfl | rfl | rfl | rfl | rfl | rfl | rfl | rfl | rfl | rfl | rfl | rfl | rfl | rfl
        all_goals first | exact cs0 | exact cs1 | exact cs2 | exact cs3 | exact cs4 | exact cs5 | exact cs6 | exact cs7 | exact cs8 | exact cs9 | exact cs10 | exact cs11 | exact cs12 | exact cs13 | exact cs14 | exact cs15 | exact cs16 | exact cs17 | exact cs18 | exact cs19 | exact cs20 | exact cs21 | exact cs22 | exact cs23 | exact cs24 | exact cs25 | exact cs26
      · exact hend c m hI
def rm_L_cell : Room := { frames := 0, cells := 0, slots := 0, locals := 0 }
def jcell (KV : jV) : Int32 := if Int32.ofNat KV.2.2.1 ≤ 0 then 0 else KV.2.2.2 0
theorem ct_cell {l : Launch} {D : va_G} {G : Nat → ClassId} {KV : jV} {ws : va_W} (hL : KV.2.2.1 ≤ 4097) : jM l D G KV yL_cell cL_cell 2 (some .int) rm_L_cell [.ref KV.2.1, .int 0] ws 0 0 (fun v u => v = some (.int (jcell KV)) ∧ u = ws) := by
  refine jM.of (by decide) (Nat.le_of_ble_eq_true rfl) ?_
  intro K C
  refine j_iload_n C dL_cell_0 1 rfl ?_
  refine j_aload_n C dL_cell_1 0 rfl ?_
  refine j_slen C dL_cell_2 ?_
  refine j_icmp_ge C dL_cell_3 (tgt := 12) (by decide) (fun cq => ?_) (fun cq => ?_)
  · refine j_iconst C dL_cell_12 (v := 0) (by decide) ?_
    exact j_iret C dL_cell_13 rfl rfl (Nat.zero_le _) (Nat.zero_le _) ⟨by rw [jcell, if_pos cq], rfl⟩
  · refine j_aload_n C dL_cell_6 0 rfl ?_
    refine j_iload_n C dL_cell_7 1 rfl ?_
    have hv : vp_in 0 KV.2.2.1 := by
      have h0 : 0 < KV.2.2.1 := by
        rcases Nat.eq_zero_or_pos KV.2.2.1 with q | q
        · rw [q] at cq; exact absurd (by decide) cq
        · exact q
      exact vp_in_nI (n := 0) h0 (by omega)
    refine j_sld C dL_cell_8 hv ?_
    refine j_goto C dL_cell_9 (tgt := 13) (by decide) ?_
    exact j_iret C dL_cell_13 rfl rfl (Nat.zero_le _) (Nat.zero_le _) ⟨by rw [jcell, if_neg cq]; rfl, rfl⟩
set_option maxHeartbeats 4000000 in
set_option maxRecDepth 100000 in
theorem law_body {l : Launch} {D : va_G} {G : Nat → ClassId} {KV : jV} {nm : String} {K : Nat → Nat → va_W → Nat → List (Nat × Value) → List Value → Prop} (C : jK l D G KV RL code 4 (some .boolean) room_1 600000 7302250 nm (fun v _ => v = some (.int 1)) K) {n : Nat} {p : jS} {Inv : jS → jS → Prop} {nd : Nat} (hnd : nd = jnd (jcell KV)) (hL : KV.2.2.1 ≤ 4097) (hp : F_X9_copy_1_2 n (sM0 (jnd (jcell KV))) = some p) (hI : Inv (sC0 nd) p) (h_rain : ok_rain nd n Inv) (h_mood : ok_mood nd n Inv) (h_moods : ok_moods nd n Inv) (h_hinge : ok_hinge nd n Inv) (h_feed : ok_feed nd n Inv) (h_end : ok_end nd n Inv) (h_text : ok_text nd n Inv) (h_fault : ok_fault nd n Inv) (h_keep : ok_keep nd n Inv) (h_opens : ok_opens nd n Inv) (h_sets : ok_sets nd n Inv) (h_knock : ok_knock nd n Inv) (h_later : ok_later nd n Inv) (h_played : ok_played nd n Inv) (h_undo : ok_undo nd n Inv) (h_traveller : ok_traveller nd n Inv) (h_way : ok_way nd n Inv) (h_guest : ok_guest nd n Inv) (h_clear : ok_clear nd n Inv) (h_earns : ok_earns nd n Inv) (h_even : ok_even nd n Inv) (h_rounds : ok_rounds nd n Inv) (h_seen : ok_seen nd n Inv) (h_kept : ok_kept nd n Inv) (h_image : ok_image nd n Inv) (h_back : ok_back nd n Inv) (h_about : ok_about nd n Inv) : K 0 0 [] 0 [(0, .ref KV.2.1)] [] := by
  subst hnd
  refine j_new C (ci := 8) dL_law_0 inX8 tyX8 tyX8_ok w_18 w_19 w_1 rfl (fs := [.int 0, .null, .null, .null, .null, .null, .null, .null, .null]) (fun j hj => by rcases (show j = 0 ∨ j = 1 ∨ j = 2 ∨ j = 3 ∨ j = 4 ∨ j = 5 ∨ j = 6 ∨ j = 7 ∨ j = 8 by omega) with rfl | rfl | rfl | rfl | rfl | rfl | rfl | rfl | rfl <;> rfl) (Nat.le_of_ble_eq_true rfl) (Nat.le_of_ble_eq_true rfl) (fun q => ?_)
  refine j_dup C dL_law_3 rfl ?_
  refine j_aload_n C dL_law_4 0 rfl ?_
  refine j_iconst C dL_law_5 (v := 0) (by decide) ?_
  refine j_cS1 C dL_law_6 (ct_cell hL) kc_L_cell w_910 w_911 w_0 jy_L_cell ⟨⟨Nat.le_of_ble_eq_true rfl, Nat.le_of_ble_eq_true rfl⟩, ⟨rfl, rfl⟩, ⟨Nat.le_of_ble_eq_true rfl, Nat.le_of_ble_eq_true rfl⟩⟩ (Nat.le_of_ble_eq_true rfl) rfl (fun _ _ h => h) ?_
  refine j_fI2 C (cs := 1) (sl := 9) (pc := 9) (rest := [.ref q]) (w1 := []) (w2 := [(q, .inr (8, [.int 0, .null, .null, .null, .null, .null, .null, .null, .null]))]) dL_law_9 (ct_X8_init (jcell KV)) kc_X8_init w_20 w_21 w_1 rfl jy_X8_init ⟨⟨Nat.le_of_ble_eq_true rfl, Nat.le_of_ble_eq_true rfl⟩, ⟨rfl, rfl⟩, ⟨Nat.le_of_ble_eq_true rfl, Nat.le_of_ble_eq_true rfl⟩⟩ (Nat.le_of_ble_eq_true rfl) rfl (fun v u hp => ?_)
  obtain ⟨rfl, adC, rfl, rfl⟩ := hp
  refine j_astore_n C dL_law_12 (by decide) rfl ?_
  refine j_new C (ci := 9) dL_law_13 inX9 tyX9 tyX9_ok w_913 w_914 w_11 rfl (fs := [.null, .null, .int 0, .null, .null, .int 0, .int 0, .int 0, .int 0, .int 0, .int 0, .int 0, .long 0, .int 0, .int 0, .int 0, .int 0, .null, .int 0, .int 0, .int 0, .int 0, .null, .null, .null, .null, .null, .null, .null, .null, .null, .int 0]) (fun j hj => by rcases (show j = 0 ∨ j = 1 ∨ j = 2 ∨ j = 3 ∨ j = 4 ∨ j = 5 ∨ j = 6 ∨ j = 7 ∨ j = 8 ∨ j = 9 ∨ j = 10 ∨ j = 11 ∨ j = 12 ∨ j = 13 ∨ j = 14 ∨ j = 15 ∨ j = 16 ∨ j = 17 ∨ j = 18 ∨ j = 19 ∨ j = 20 ∨ j = 21 ∨ j = 22 ∨ j = 23 ∨ j = 24 ∨ j = 25 ∨ j = 26 ∨ j = 27 ∨ j = 28 ∨ j = 29 ∨ j = 30 ∨ j = 31 by omega) with rfl | rfl | rfl | rfl | rfl | rfl | rfl | rfl | rfl | rfl | rfl | rfl | rfl | rfl | rfl | rfl | rfl | rfl | rfl | rfl | rfl | rfl | rfl | rfl | rfl | rfl | rfl | rfl | rfl | rfl | rfl | rfl <;> rfl) (Nat.le_of_ble_eq_true rfl) (Nat.le_of_ble_eq_true rfl) (fun q2 => ?_)
  refine j_dup C dL_law_16 rfl ?_
  refine j_aload_n C dL_law_17 1 rfl ?_
  refine j_iconst C dL_law_18 (v := 0) (by decide) ?_
  refine j_cS1 C dL_law_19 (ct_cell hL) kc_L_cell w_910 w_911 w_0 jy_L_cell ⟨⟨Nat.le_of_ble_eq_true rfl, Nat.le_of_ble_eq_true rfl⟩, ⟨rfl, rfl⟩, ⟨Nat.le_of_ble_eq_true rfl, Nat.le_of_ble_eq_true rfl⟩⟩ (Nat.le_of_ble_eq_true rfl) rfl (fun _ _ h => h) ?_
  refine j_fI2 C (cs := 55) (sl := 10769) (pc := 22) (rest := [.ref q2]) (w1 := jw 54 (cellC G (jnd (jcell KV))) adC (sC0 (jnd (jcell KV)))) (w2 := [(q2, .inr (9, [.null, .null, .int 0, .null, .null, .int 0, .int 0, .int 0, .int 0, .int 0, .int 0, .int 0, .long 0, .int 0, .int 0, .int 0, .int 0, .null, .int 0, .int 0, .int 0, .int 0, .null, .null, .null, .null, .null, .null, .null, .null, .null, .int 0]))]) dL_law_22 (ct_X9_init n (jcell KV) hp) kc_X9_init w_915 w_916 w_11 rfl jy_X9_init ⟨⟨Nat.le_of_ble_eq_true rfl, Nat.le_of_ble_eq_true rfl⟩, ⟨rfl, rfl⟩, ⟨Nat.le_of_ble_eq_true rfl, Nat.le_of_ble_eq_true rfl⟩⟩ (Nat.le_of_ble_eq_true rfl) rfl (fun v u hp => ?_)
  obtain ⟨rfl, adM, rfl, rfl⟩ := hp
  refine j_astore_n C dL_law_25 (by decide) rfl ?_
  refine j_iconst C dL_law_26 (v := 1) (by decide) ?_
  refine j_istore_n C dL_law_27 (by decide) rfl ?_
  refine j_loc C [3, 2, 1, 0] rfl ?_
  exact law_loop C (adC := adC) (adM := adM) hL h_rain h_mood h_moods h_hinge h_feed h_end h_text h_fault h_keep h_opens h_sets h_knock h_later h_played h_undo h_traveller h_way h_guest h_clear h_earns h_even h_rounds h_seen h_kept h_image h_back h_about (KV.2.2.1 + 1) 1 (sC0 (jnd (jcell KV))) p (by omega) (by omega) (by omega) hI
