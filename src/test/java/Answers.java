/** The answers of the document that are no counts. */
interface Answers {
    int NONE = -1000000, BAD = -1000001, STATE = -1000002, FULL = -1000003;
    int NULL = -1000011, PLACE = -1000012, KIND = -1000013, SIZE = -1000014, STORE = -1000015;
    int FAULTY = -1000100;
    int LEAST = Integer.MIN_VALUE, MOST = Integer.MAX_VALUE;
}
