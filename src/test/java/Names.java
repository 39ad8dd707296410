/** Short names of the predicates, of the answers that are constants, and of the ends of int, for the tests. */
interface Names {
    int BAD_INDEX = -1;
    int BAD_VALUE = -2;
    int NOT_POSSIBLE = -3;
    int FULL = -4;
    int NONE = -5;
    int NO_MODEL = -6;
    int P = 0;
    int Q = 1;
    int R = 2;
    int S = 3;
    int T = 4;
    int U = 5;
    int LOWEST = Integer.MIN_VALUE;
    int HIGHEST = Integer.MAX_VALUE;
}
