/** The document's constants and rules, written out once more, so that a wrong constant is found. */
abstract class Numbers {
    static final int UNKNOWN = -2;
    static final int OUT_OF_RANGE = -3;
    static final int FULL = -4;
    static final int DUPLICATE = -5;
    static final int REQUIRED = -6;
    static final int NO_PARENT = -7;
    static final int NOT_POSSIBLE = -8;
    static final int NONE = -9;

    static final int RESTRICT = 0;
    static final int NO_ACTION = 1;
    static final int CASCADE = 2;
    static final int SET_NULL = 3;
    static final int SET_DEFAULT = 4;
}
