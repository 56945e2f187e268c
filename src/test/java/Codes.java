/** The document's error codes, written out once more so that the tests do not lean on the program, and odd numbers. */
interface Codes {
    int NO_SUCH_ELEMENT = -1;
    int BAD_VALUE = -2;
    int FULL = -3;
    int NONE = -4;
    int STATE = -5;
    int TOO_LARGE = -6;
    int EMPTY = -7;
    int WRONG_TYPE = -8;
    int LOWEST = Integer.MIN_VALUE;
    int HIGHEST = Integer.MAX_VALUE;
}
