/** One text that is written at three places at once. */
public final class TextReplica {
    private static final int REPLICAS = 3;
    private static final int REPLICA_PAIRS = 9;
    private static final int MOST_CHANGES = 48;

    private static final int DONE = 0;
    private static final int REFUSED = -1;
    private static final int NOT_YET = -2;
    private static final int NO_CHANGE = -1;
    private static final int NO_LETTER = 0;

    // A change is named by its index here: changes are never forgotten, so the index lasts.
    private int made = 0;
    private final int[] originOf = new int[MOST_CHANGES];
    private final int[] numberOf = new int[MOST_CHANGES];
    private final boolean[] isDelete = new boolean[MOST_CHANGES];
    // The change that must be known first: an insert's anchor (or NO_CHANGE), or the insert a delete takes away.
    private final int[] baseOf = new int[MOST_CHANGES];
    private final int[] letterOf = new int[MOST_CHANGES];
    private final int[] stampOf = new int[MOST_CHANGES];

    // All inserts of all origins in the order of the rows. That order hangs on anchors and stamps alone,
    // so the row of each replica is this line without the inserts that the replica doesn't know.
    private int lineLength = 0;
    private final int[] line = new int[MOST_CHANGES];

    // A count tells which changes are known: of each origin a replica always knows the first ones, without
    // gaps, for deliver takes the least number that is missing and sync joins two such beginnings.
    private final int[] knownCount = new int[REPLICA_PAIRS];

    public TextReplica() {
    }

    public int insert(int replica, int place, int letter) {
        if (!isReplica(replica) || made >= MOST_CHANGES) {
            return REFUSED;
        }
        if (place < 0 || place > textLength(replica)) {
            return REFUSED;
        }
        int anchor = place == 0 ? NO_CHANGE : shownInsert(replica, place - 1);
        int stamp = nextStamp(replica);
        int change = makeChange(replica, anchor);
        isDelete[change] = false;
        letterOf[change] = letter;
        stampOf[change] = stamp;
        putInLine(change);
        return textLength(replica);
    }

    public int delete(int replica, int place) {
        if (!isReplica(replica) || made >= MOST_CHANGES) {
            return REFUSED;
        }
        int target = shownInsert(replica, place);
        if (target == NO_CHANGE) {
            return REFUSED;
        }
        int change = makeChange(replica, target);
        isDelete[change] = true;
        return textLength(replica);
    }

    public int deliver(int from, int to) {
        if (!isReplica(from) || !isReplica(to)) {
            return REFUSED;
        }
        int change = firstUnknown(to, from);
        if (change == NO_CHANGE) {
            return REFUSED;
        }
        int base = baseOf[change];
        if (base != NO_CHANGE && !knows(to, base)) {
            return NOT_YET;
        }
        knownCount[to * REPLICAS + from]++;
        return DONE;
    }

    public int sync(int from, int to) {
        if (!isReplica(from) || !isReplica(to)) {
            return REFUSED;
        }
        for (int origin = 0; origin < REPLICAS; origin++) {
            int offered = knownCount[from * REPLICAS + origin];
            if (offered > knownCount[to * REPLICAS + origin]) {
                knownCount[to * REPLICAS + origin] = offered;
            }
        }
        return DONE;
    }

    public int length(int replica) {
        return isReplica(replica) ? textLength(replica) : REFUSED;
    }

    public int letter(int replica, int place) {
        return isReplica(replica) ? shownLetter(replica, place) : NO_LETTER;
    }

    public int row(int replica) {
        if (!isReplica(replica)) {
            return REFUSED;
        }
        int count = 0;
        for (int i = 0; i < lineLength; i++) {
            if (knows(replica, line[i])) {
                count++;
            }
        }
        return count;
    }

    public int known(int replica, int origin) {
        if (!isReplica(replica) || !isReplica(origin)) {
            return REFUSED;
        }
        return knownCount[replica * REPLICAS + origin];
    }

    public int alike(int a, int b) {
        if (!isReplica(a) || !isReplica(b)) {
            return REFUSED;
        }
        int length = textLength(a);
        if (length != textLength(b)) {
            return 0;
        }
        for (int place = 0; place < length; place++) {
            if (shownLetter(a, place) != shownLetter(b, place)) {
                return 0;
            }
        }
        return 1;
    }

    private static boolean isReplica(int number) {
        return number >= 0 && number < REPLICAS;
    }

    private boolean knows(int replica, int change) {
        return numberOf[change] <= knownCount[replica * REPLICAS + originOf[change]];
    }

    private boolean isTakenAway(int replica, int insert) {
        for (int change = 0; change < made; change++) {
            if (isDelete[change] && baseOf[change] == insert && knows(replica, change)) {
                return true;
            }
        }
        return false;
    }

    private boolean shows(int replica, int insert) {
        return knows(replica, insert) && !isTakenAway(replica, insert);
    }

    private int textLength(int replica) {
        int count = 0;
        for (int i = 0; i < lineLength; i++) {
            if (shows(replica, line[i])) {
                count++;
            }
        }
        return count;
    }

    private int shownInsert(int replica, int place) {
        int count = 0;
        for (int i = 0; i < lineLength; i++) {
            if (shows(replica, line[i])) {
                if (count == place) {
                    return line[i];
                }
                count++;
            }
        }
        return NO_CHANGE;
    }

    private int shownLetter(int replica, int place) {
        int insert = shownInsert(replica, place);
        return insert == NO_CHANGE ? NO_LETTER : letterOf[insert];
    }

    private int firstUnknown(int replica, int origin) {
        int number = knownCount[replica * REPLICAS + origin] + 1;
        for (int change = 0; change < made; change++) {
            if (originOf[change] == origin && numberOf[change] == number) {
                return change;
            }
        }
        return NO_CHANGE;
    }

    private int nextStamp(int replica) {
        int greatest = 0;
        for (int i = 0; i < lineLength; i++) {
            int insert = line[i];
            if (knows(replica, insert) && stampOf[insert] > greatest) {
                greatest = stampOf[insert];
            }
        }
        return greatest + 1;
    }

    /** The caller has seen that there is room for one more change. */
    private int makeChange(int origin, int base) {
        int change = made;
        made++;
        // An origin knows all its own changes, so their count is also the newest one's number.
        knownCount[origin * REPLICAS + origin]++;
        originOf[change] = origin;
        numberOf[change] = knownCount[origin * REPLICAS + origin];
        baseOf[change] = base;
        return change;
    }

    private void putInLine(int insert) {
        int at = placeInLine(insert);
        for (int i = lineLength; i > at; i--) {
            line[i] = line[i - 1];
        }
        line[at] = insert;
        lineLength++;
    }

    private int placeInLine(int insert) {
        int at = placeBehind(baseOf[insert]);
        // An insert's stamp is greater than its anchor's. So all that hangs on a greater neighbour is greater
        // too and is passed with it, and what comes behind the anchor's own followers is less and ends the walk.
        while (at < lineLength && hasGreaterStamp(line[at], insert)) {
            at++;
        }
        return at;
    }

    private int placeBehind(int anchor) {
        for (int i = 0; i < lineLength; i++) {
            if (line[i] == anchor) {
                return i + 1;
            }
        }
        return 0;
    }

    private boolean hasGreaterStamp(int insert, int other) {
        if (stampOf[insert] != stampOf[other]) {
            return stampOf[insert] > stampOf[other];
        }
        return originOf[insert] > originOf[other];
    }
}
