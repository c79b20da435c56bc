/-! decode rows of the law (by program: wip/whole/gen_law1.py) -/
theorem dl_910 : decode code 910 = .ok (.iaload, 1) := by decide +kernel
theorem dl_911 : decode code 911 = .ok (.aload_n 0, 1) := by decide +kernel
theorem dl_912 : decode code 912 = .ok (.iload_n 3, 1) := by decide +kernel
theorem dl_913 : decode code 913 = .ok (.iconst 5, 1) := by decide +kernel
theorem dl_914 : decode code 914 = .ok (.iadd, 1) := by decide +kernel
theorem dl_915 : decode code 915 = .ok (.iaload, 1) := by decide +kernel
theorem dl_916 : decode code 916 = .ok (.invokevirtual 98, 3) := by decide +kernel
theorem dl_919 : decode code 919 = .ok (.aload_n 2, 1) := by decide +kernel
theorem dl_920 : decode code 920 = .ok (.aload_n 0, 1) := by decide +kernel
theorem dl_921 : decode code 921 = .ok (.iload_n 3, 1) := by decide +kernel
theorem dl_922 : decode code 922 = .ok (.iconst 1, 1) := by decide +kernel
theorem dl_923 : decode code 923 = .ok (.iadd, 1) := by decide +kernel
theorem dl_924 : decode code 924 = .ok (.iaload, 1) := by decide +kernel
theorem dl_925 : decode code 925 = .ok (.aload_n 0, 1) := by decide +kernel
theorem dl_926 : decode code 926 = .ok (.iload_n 3, 1) := by decide +kernel
theorem dl_927 : decode code 927 = .ok (.iconst 2, 1) := by decide +kernel
theorem dl_928 : decode code 928 = .ok (.iadd, 1) := by decide +kernel
theorem dl_929 : decode code 929 = .ok (.iaload, 1) := by decide +kernel
theorem dl_930 : decode code 930 = .ok (.aload_n 0, 1) := by decide +kernel
theorem dl_931 : decode code 931 = .ok (.iload_n 3, 1) := by decide +kernel
theorem dl_932 : decode code 932 = .ok (.iconst 3, 1) := by decide +kernel
theorem dl_933 : decode code 933 = .ok (.iadd, 1) := by decide +kernel
theorem dl_934 : decode code 934 = .ok (.iaload, 1) := by decide +kernel
theorem dl_935 : decode code 935 = .ok (.aload_n 0, 1) := by decide +kernel
theorem dl_936 : decode code 936 = .ok (.iload_n 3, 1) := by decide +kernel
theorem dl_937 : decode code 937 = .ok (.iconst 4, 1) := by decide +kernel
theorem dl_938 : decode code 938 = .ok (.iadd, 1) := by decide +kernel
theorem dl_939 : decode code 939 = .ok (.iaload, 1) := by decide +kernel
theorem dl_940 : decode code 940 = .ok (.aload_n 0, 1) := by decide +kernel
theorem dl_941 : decode code 941 = .ok (.iload_n 3, 1) := by decide +kernel
theorem dl_942 : decode code 942 = .ok (.iconst 5, 1) := by decide +kernel
theorem dl_943 : decode code 943 = .ok (.iadd, 1) := by decide +kernel
theorem dl_944 : decode code 944 = .ok (.iaload, 1) := by decide +kernel
theorem dl_945 : decode code 945 = .ok (.invokevirtual 101, 3) := by decide +kernel
theorem dl_948 : decode code 948 = .ok (.if_icmp .eq 314, 3) := by decide +kernel
theorem dl_951 : decode code 951 = .ok (.iconst 0, 1) := by decide +kernel
theorem dl_952 : decode code 952 = .ok (.ireturn, 1) := by decide +kernel
theorem dl_953 : decode code 953 = .ok (.aload_n 1, 1) := by decide +kernel
theorem dl_954 : decode code 954 = .ok (.aload_n 0, 1) := by decide +kernel
theorem dl_955 : decode code 955 = .ok (.iload_n 3, 1) := by decide +kernel
theorem dl_956 : decode code 956 = .ok (.iconst 1, 1) := by decide +kernel
theorem dl_957 : decode code 957 = .ok (.iadd, 1) := by decide +kernel
theorem dl_958 : decode code 958 = .ok (.iaload, 1) := by decide +kernel
theorem dl_959 : decode code 959 = .ok (.aload_n 0, 1) := by decide +kernel
theorem dl_960 : decode code 960 = .ok (.iload_n 3, 1) := by decide +kernel
theorem dl_961 : decode code 961 = .ok (.iconst 2, 1) := by decide +kernel
theorem dl_962 : decode code 962 = .ok (.iadd, 1) := by decide +kernel
theorem dl_963 : decode code 963 = .ok (.iaload, 1) := by decide +kernel
theorem dl_964 : decode code 964 = .ok (.aload_n 0, 1) := by decide +kernel
theorem dl_965 : decode code 965 = .ok (.iload_n 3, 1) := by decide +kernel
theorem dl_966 : decode code 966 = .ok (.iconst 3, 1) := by decide +kernel
theorem dl_967 : decode code 967 = .ok (.iadd, 1) := by decide +kernel
theorem dl_968 : decode code 968 = .ok (.iaload, 1) := by decide +kernel
theorem dl_969 : decode code 969 = .ok (.aload_n 0, 1) := by decide +kernel
theorem dl_970 : decode code 970 = .ok (.iload_n 3, 1) := by decide +kernel
theorem dl_971 : decode code 971 = .ok (.iconst 4, 1) := by decide +kernel
theorem dl_972 : decode code 972 = .ok (.iadd, 1) := by decide +kernel
theorem dl_973 : decode code 973 = .ok (.iaload, 1) := by decide +kernel
theorem dl_974 : decode code 974 = .ok (.invokevirtual 102, 3) := by decide +kernel
theorem dl_977 : decode code 977 = .ok (.aload_n 2, 1) := by decide +kernel
theorem dl_978 : decode code 978 = .ok (.aload_n 0, 1) := by decide +kernel
theorem dl_979 : decode code 979 = .ok (.iload_n 3, 1) := by decide +kernel
theorem dl_980 : decode code 980 = .ok (.iconst 1, 1) := by decide +kernel
theorem dl_981 : decode code 981 = .ok (.iadd, 1) := by decide +kernel
theorem dl_982 : decode code 982 = .ok (.iaload, 1) := by decide +kernel
theorem dl_983 : decode code 983 = .ok (.aload_n 0, 1) := by decide +kernel
theorem dl_984 : decode code 984 = .ok (.iload_n 3, 1) := by decide +kernel
theorem dl_985 : decode code 985 = .ok (.iconst 2, 1) := by decide +kernel
theorem dl_986 : decode code 986 = .ok (.iadd, 1) := by decide +kernel
theorem dl_987 : decode code 987 = .ok (.iaload, 1) := by decide +kernel
theorem dl_988 : decode code 988 = .ok (.aload_n 0, 1) := by decide +kernel
theorem dl_989 : decode code 989 = .ok (.iload_n 3, 1) := by decide +kernel
theorem dl_990 : decode code 990 = .ok (.iconst 3, 1) := by decide +kernel
theorem dl_991 : decode code 991 = .ok (.iadd, 1) := by decide +kernel
theorem dl_992 : decode code 992 = .ok (.iaload, 1) := by decide +kernel
theorem dl_993 : decode code 993 = .ok (.aload_n 0, 1) := by decide +kernel
theorem dl_994 : decode code 994 = .ok (.iload_n 3, 1) := by decide +kernel
theorem dl_995 : decode code 995 = .ok (.iconst 4, 1) := by decide +kernel
theorem dl_996 : decode code 996 = .ok (.iadd, 1) := by decide +kernel
theorem dl_997 : decode code 997 = .ok (.iaload, 1) := by decide +kernel
theorem dl_998 : decode code 998 = .ok (.invokevirtual 106, 3) := by decide +kernel
theorem dl_1001 : decode code 1001 = .ok (.if_icmp .eq 261, 3) := by decide +kernel
theorem dl_1004 : decode code 1004 = .ok (.iconst 0, 1) := by decide +kernel
theorem dl_1005 : decode code 1005 = .ok (.ireturn, 1) := by decide +kernel
theorem dl_1006 : decode code 1006 = .ok (.aload_n 1, 1) := by decide +kernel
theorem dl_1007 : decode code 1007 = .ok (.aload_n 0, 1) := by decide +kernel
theorem dl_1008 : decode code 1008 = .ok (.iload_n 3, 1) := by decide +kernel
theorem dl_1009 : decode code 1009 = .ok (.iconst 1, 1) := by decide +kernel
theorem dl_1010 : decode code 1010 = .ok (.iadd, 1) := by decide +kernel
theorem dl_1011 : decode code 1011 = .ok (.iaload, 1) := by decide +kernel
theorem dl_1012 : decode code 1012 = .ok (.invokevirtual 107, 3) := by decide +kernel
theorem dl_1015 : decode code 1015 = .ok (.aload_n 2, 1) := by decide +kernel
theorem dl_1016 : decode code 1016 = .ok (.aload_n 0, 1) := by decide +kernel
theorem dl_1017 : decode code 1017 = .ok (.iload_n 3, 1) := by decide +kernel
theorem dl_1018 : decode code 1018 = .ok (.iconst 1, 1) := by decide +kernel
theorem dl_1019 : decode code 1019 = .ok (.iadd, 1) := by decide +kernel
theorem dl_1020 : decode code 1020 = .ok (.iaload, 1) := by decide +kernel
theorem dl_1021 : decode code 1021 = .ok (.invokevirtual 110, 3) := by decide +kernel
theorem dl_1024 : decode code 1024 = .ok (.if_icmp .eq 238, 3) := by decide +kernel
theorem dl_1027 : decode code 1027 = .ok (.iconst 0, 1) := by decide +kernel
theorem dl_1028 : decode code 1028 = .ok (.ireturn, 1) := by decide +kernel
theorem dl_1029 : decode code 1029 = .ok (.aload_n 1, 1) := by decide +kernel
theorem dl_1030 : decode code 1030 = .ok (.aload_n 0, 1) := by decide +kernel
theorem dl_1031 : decode code 1031 = .ok (.iload_n 3, 1) := by decide +kernel
theorem dl_1032 : decode code 1032 = .ok (.iconst 1, 1) := by decide +kernel
theorem dl_1033 : decode code 1033 = .ok (.iadd, 1) := by decide +kernel
theorem dl_1034 : decode code 1034 = .ok (.iaload, 1) := by decide +kernel
theorem dl_1035 : decode code 1035 = .ok (.aload_n 0, 1) := by decide +kernel
theorem dl_1036 : decode code 1036 = .ok (.iload_n 3, 1) := by decide +kernel
theorem dl_1037 : decode code 1037 = .ok (.iconst 2, 1) := by decide +kernel
theorem dl_1038 : decode code 1038 = .ok (.iadd, 1) := by decide +kernel
theorem dl_1039 : decode code 1039 = .ok (.iaload, 1) := by decide +kernel
theorem dl_1040 : decode code 1040 = .ok (.ifCond .eq 7, 3) := by decide +kernel
theorem dl_1043 : decode code 1043 = .ok (.iconst 1, 1) := by decide +kernel
theorem dl_1044 : decode code 1044 = .ok (.goto 4, 3) := by decide +kernel
theorem dl_1047 : decode code 1047 = .ok (.iconst 0, 1) := by decide +kernel
theorem dl_1048 : decode code 1048 = .ok (.invokevirtual 111, 3) := by decide +kernel
theorem dl_1051 : decode code 1051 = .ok (.aload_n 2, 1) := by decide +kernel
theorem dl_1052 : decode code 1052 = .ok (.aload_n 0, 1) := by decide +kernel
theorem dl_1053 : decode code 1053 = .ok (.iload_n 3, 1) := by decide +kernel
theorem dl_1054 : decode code 1054 = .ok (.iconst 1, 1) := by decide +kernel
theorem dl_1055 : decode code 1055 = .ok (.iadd, 1) := by decide +kernel
theorem dl_1056 : decode code 1056 = .ok (.iaload, 1) := by decide +kernel
theorem dl_1057 : decode code 1057 = .ok (.aload_n 0, 1) := by decide +kernel
theorem dl_1058 : decode code 1058 = .ok (.iload_n 3, 1) := by decide +kernel
theorem dl_1059 : decode code 1059 = .ok (.iconst 2, 1) := by decide +kernel
theorem dl_1060 : decode code 1060 = .ok (.iadd, 1) := by decide +kernel
theorem dl_1061 : decode code 1061 = .ok (.iaload, 1) := by decide +kernel
theorem dl_1062 : decode code 1062 = .ok (.ifCond .eq 7, 3) := by decide +kernel
theorem dl_1065 : decode code 1065 = .ok (.iconst 1, 1) := by decide +kernel
theorem dl_1066 : decode code 1066 = .ok (.goto 4, 3) := by decide +kernel
theorem dl_1069 : decode code 1069 = .ok (.iconst 0, 1) := by decide +kernel
theorem dl_1070 : decode code 1070 = .ok (.invokevirtual 115, 3) := by decide +kernel
theorem dl_1073 : decode code 1073 = .ok (.if_icmp .eq 189, 3) := by decide +kernel
theorem dl_1076 : decode code 1076 = .ok (.iconst 0, 1) := by decide +kernel
theorem dl_1077 : decode code 1077 = .ok (.ireturn, 1) := by decide +kernel
theorem dl_1078 : decode code 1078 = .ok (.aload_n 1, 1) := by decide +kernel
theorem dl_1079 : decode code 1079 = .ok (.aload_n 0, 1) := by decide +kernel
theorem dl_1080 : decode code 1080 = .ok (.iload_n 3, 1) := by decide +kernel
theorem dl_1081 : decode code 1081 = .ok (.iconst 1, 1) := by decide +kernel
theorem dl_1082 : decode code 1082 = .ok (.iadd, 1) := by decide +kernel
theorem dl_1083 : decode code 1083 = .ok (.iaload, 1) := by decide +kernel
theorem dl_1084 : decode code 1084 = .ok (.invokevirtual 116, 3) := by decide +kernel
theorem dl_1087 : decode code 1087 = .ok (.aload_n 2, 1) := by decide +kernel
theorem dl_1088 : decode code 1088 = .ok (.aload_n 0, 1) := by decide +kernel
theorem dl_1089 : decode code 1089 = .ok (.iload_n 3, 1) := by decide +kernel
theorem dl_1090 : decode code 1090 = .ok (.iconst 1, 1) := by decide +kernel
theorem dl_1091 : decode code 1091 = .ok (.iadd, 1) := by decide +kernel
theorem dl_1092 : decode code 1092 = .ok (.iaload, 1) := by decide +kernel
theorem dl_1093 : decode code 1093 = .ok (.invokevirtual 119, 3) := by decide +kernel
