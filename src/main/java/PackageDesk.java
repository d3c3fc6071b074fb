/**
 * Chooses versions of packages, puts them in place in a fit order, and keeps
 * what was in place before.
 */
public final class PackageDesk {
    public static final int BAD = -1;
    public static final int EXISTS = -2;
    public static final int FULL = -3;
    public static final int NONE = -4;

    private static final int PACKS = 5;
    private static final int TOP_VERSION = 9;
    private static final int TOP_PATHS = 255;
    private static final int MOST_VERSIONS = 4;
    private static final int MOST_DEMANDS = 3;
    private static final int MOST_WISHES = 4;
    private static final int MOST_KEPT = 6;
    private static final int REUSED = 10;
    private static final int TAKE_AWAY = 100;
    private static final int PUT_IN_PLACE = 200;

    // A version's cell is 10 * pack + version, as the document writes it.
    private static final int CELLS = 50;
    private static final int DEMAND_SLOTS = 150;
    private static final int WISH_SETS = 16;
    private static final int GENERATION_CELLS = 30;
    private static final int MOST_STEPS = 10;

    private final int[] versionCount = new int[PACKS];
    private final boolean[] offered = new boolean[CELLS];
    private final int[] pathsOf = new int[CELLS];
    private final int[] demandCount = new int[CELLS];
    private final boolean[] demandIsNeed = new boolean[DEMAND_SLOTS];
    private final int[] demandOther = new int[DEMAND_SLOTS];
    private final int[] demandRange = new int[DEMAND_SLOTS];

    private final boolean[] wishIsHave = new boolean[MOST_WISHES];
    private final int[] wishPack = new int[MOST_WISHES];
    private final int[] wishRange = new int[MOST_WISHES];
    private int wishCount;

    private final int[] planned = new int[PACKS];
    private boolean hasPlan;
    private final int[] lockedIn = new int[PACKS];
    private boolean hasLock;

    // Generations stand in the order of their numbers, so slot 0 is the oldest.
    private final int[] generationNumber = new int[MOST_KEPT];
    private final int[] generationVersion = new int[GENERATION_CELLS];
    private int keptCount;
    private int currentSlot;
    private int greatestNumber;

    // Working space: nothing in these outlives the call that fills them.
    private final int[] trial = new int[PACKS];
    private final boolean[] metExactly = new boolean[WISH_SETS];
    private final int[] buildsOn = new int[PACKS];
    private final int[] placeOrder = new int[PACKS];
    private final int[] stepCode = new int[MOST_STEPS];

    public PackageDesk() {
        keptCount = 1;
    }

    public int offer(int pack, int version, int paths) {
        if (!isPack(pack) || !isVersion(version) || paths < 0 || paths > TOP_PATHS) {
            return BAD;
        }
        int cell = 10 * pack + version;
        if (offered[cell]) {
            return EXISTS;
        }
        if (versionCount[pack] >= MOST_VERSIONS) {
            return FULL;
        }
        offered[cell] = true;
        pathsOf[cell] = paths;
        demandCount[cell] = 0;
        versionCount[pack]++;
        return versionCount[pack];
    }

    public int withdraw(int pack, int version) {
        if (!isPack(pack) || !isVersion(version)) {
            return BAD;
        }
        int cell = 10 * pack + version;
        if (!offered[cell]) {
            return NONE;
        }
        offered[cell] = false;
        versionCount[pack]--;
        return versionCount[pack];
    }

    public int demand(boolean need, int of, int other, int range) {
        if (!isCell(of) || !isPack(other) || other == of / 10 || !isRange(range)) {
            return BAD;
        }
        if (!offered[of]) {
            return NONE;
        }
        if (demandCount[of] >= MOST_DEMANDS) {
            return FULL;
        }
        int slot = MOST_DEMANDS * of + demandCount[of];
        demandIsNeed[slot] = need;
        demandOther[slot] = other;
        demandRange[slot] = range;
        demandCount[of]++;
        return demandCount[of];
    }

    public int wish(boolean have, int pack, int range) {
        if (!isPack(pack) || !isRange(range)) {
            return BAD;
        }
        if (wishCount >= MOST_WISHES) {
            return FULL;
        }
        wishIsHave[wishCount] = have;
        wishPack[wishCount] = pack;
        wishRange[wishCount] = range;
        wishCount++;
        return wishCount - 1;
    }

    public int unwish(int i) {
        if (i < 0 || i >= wishCount) {
            return BAD;
        }
        for (int to = i; to < wishCount - 1; to++) {
            wishIsHave[to] = wishIsHave[to + 1];
            wishPack[to] = wishPack[to + 1];
            wishRange[to] = wishRange[to + 1];
        }
        wishCount--;
        return wishCount;
    }

    public int solve() {
        int many = countChoices();
        startTrial();
        for (int n = 0; n < many; n++) {
            if (isSolution(trial)) {
                copyChoice(trial, planned);
                hasPlan = true;
                return countGiven(planned);
            }
            nextTrial();
        }
        hasPlan = false;
        return NONE;
    }

    public int chosen(int pack) {
        if (!isPack(pack)) {
            return BAD;
        }
        return hasPlan ? planned[pack] : NONE;
    }

    public int solutions() {
        int found = 0;
        int many = countChoices();
        startTrial();
        for (int n = 0; n < many; n++) {
            if (isSolution(trial)) {
                found++;
            }
            nextTrial();
        }
        return found;
    }

    public int possible(int pack, int version) {
        if (!isPack(pack) || version < 0 || version > TOP_VERSION) {
            return BAD;
        }
        int many = countChoices();
        startTrial();
        for (int n = 0; n < many; n++) {
            if (trial[pack] == version && isSolution(trial)) {
                return 1;
            }
            nextTrial();
        }
        return 0;
    }

    public int blame() {
        noteMetSets();
        int all = (1 << wishCount) - 1;
        if (metExactly[all]) {
            return NONE;
        }
        // Ascending numbers: a later set wins only by having fewer wishes.
        int least = all;
        for (int set = 1; set < all; set++) {
            if (countBits(set) < countBits(least) && !canMeet(set)) {
                least = set;
            }
        }
        return least;
    }

    public int lock() {
        if (!hasPlan) {
            return NONE;
        }
        copyChoice(planned, lockedIn);
        hasLock = true;
        return countGiven(lockedIn);
    }

    public int locked(int pack) {
        if (!isPack(pack)) {
            return BAD;
        }
        return hasLock ? lockedIn[pack] : NONE;
    }

    public int reuse() {
        if (hasLock && isInIndex(lockedIn) && isSolution(lockedIn)) {
            copyChoice(lockedIn, planned);
            hasPlan = true;
            return REUSED;
        }
        return solve();
    }

    public int steps() {
        return hasPlan ? listSteps() : NONE;
    }

    public int step(int i) {
        if (!hasPlan) {
            return NONE;
        }
        int many = listSteps();
        return i >= 0 && i < many ? stepCode[i] : NONE;
    }

    public int apply(int stop) {
        if (!hasPlan) {
            return NONE;
        }
        int many = listSteps();
        if (many == 0) {
            return generationNumber[currentSlot];
        }
        if (stop >= 0 && stop < many) {
            return NONE;
        }
        if (keptCount >= MOST_KEPT) {
            dropGeneration(currentSlot == 0 ? 1 : 0);
        }
        keepPlan();
        return greatestNumber;
    }

    public int current() {
        return generationNumber[currentSlot];
    }

    public int version(int generation, int pack) {
        if (!isPack(pack)) {
            return BAD;
        }
        int slot = slotOf(generation);
        return slot >= 0 ? generationVersion[PACKS * slot + pack] : NONE;
    }

    public int rollback(int generation) {
        int slot = slotOf(generation);
        if (slot < 0) {
            return NONE;
        }
        int differing = 0;
        for (int pack = 0; pack < PACKS; pack++) {
            if (generationVersion[PACKS * slot + pack] != currentVersion(pack)) {
                differing++;
            }
        }
        currentSlot = slot;
        return differing;
    }

    public int collect(int many) {
        if (many < 1 || many > MOST_KEPT) {
            return BAD;
        }
        int before = keptCount;
        // Downwards, so that a drop moves no slot that is still to be looked at.
        for (int slot = before - many - 1; slot >= 0; slot--) {
            if (slot != currentSlot) {
                dropGeneration(slot);
            }
        }
        return before - keptCount;
    }

    private static boolean isPack(int pack) {
        return pack >= 0 && pack < PACKS;
    }

    private static boolean isVersion(int version) {
        return version >= 1 && version <= TOP_VERSION;
    }

    private static boolean isCell(int of) {
        return of >= 0 && of < CELLS && of % 10 != 0;
    }

    private static boolean isRange(int range) {
        int lo = range / 10;
        int hi = range % 10;
        return lo >= 1 && lo <= hi;
    }

    /** None (0) is in no range, since every range starts at 1 or above. */
    private static boolean isInRange(int version, int range) {
        return version >= range / 10 && version <= range % 10;
    }

    private static int countBits(int set) {
        int bits = 0;
        for (int i = 0; i < MOST_WISHES; i++) {
            bits += set >> i & 1;
        }
        return bits;
    }

    private static int countGiven(int[] choice) {
        int given = 0;
        for (int pack = 0; pack < PACKS; pack++) {
            if (choice[pack] != 0) {
                given++;
            }
        }
        return given;
    }

    private static void copyChoice(int[] from, int[] to) {
        for (int pack = 0; pack < PACKS; pack++) {
            to[pack] = from[pack];
        }
    }

    private int countChoices() {
        int many = 1;
        for (int pack = 0; pack < PACKS; pack++) {
            many *= versionCount[pack] + 1;
        }
        return many;
    }

    /** The best choice of all, with which a walk through all choices begins. */
    private void startTrial() {
        for (int pack = 0; pack < PACKS; pack++) {
            trial[pack] = 0;
        }
    }

    /**
     * Moves the trial to the next choice, from better to worse: the last
     * package changes most often, as the first difference decides.
     */
    private void nextTrial() {
        for (int pack = PACKS - 1; pack >= 0; pack--) {
            trial[pack] = nextVersion(pack, trial[pack]);
            if (trial[pack] != 0) {
                return;
            }
        }
    }

    /** The version next worse than this one (0 for none), or none after the worst. */
    private int nextVersion(int pack, int version) {
        int start = version == 0 ? TOP_VERSION : version - 1;
        for (int next = start; next >= 1; next--) {
            if (offered[10 * pack + next]) {
                return next;
            }
        }
        return 0;
    }

    private boolean isInIndex(int[] choice) {
        for (int pack = 0; pack < PACKS; pack++) {
            if (choice[pack] != 0 && !offered[10 * pack + choice[pack]]) {
                return false;
            }
        }
        return true;
    }

    private boolean isSolution(int[] choice) {
        return metWishes(choice) == (1 << wishCount) - 1 && isSound(choice);
    }

    private int metWishes(int[] choice) {
        int met = 0;
        for (int i = 0; i < wishCount; i++) {
            if (isInRange(choice[wishPack[i]], wishRange[i]) == wishIsHave[i]) {
                met |= 1 << i;
            }
        }
        return met;
    }

    private boolean isSound(int[] choice) {
        int taken = 0;
        for (int pack = 0; pack < PACKS; pack++) {
            if (choice[pack] != 0) {
                int cell = 10 * pack + choice[pack];
                if ((taken & pathsOf[cell]) != 0 || !demandsHold(cell, choice)) {
                    return false;
                }
                taken |= pathsOf[cell];
            }
        }
        return true;
    }

    private boolean demandsHold(int cell, int[] choice) {
        for (int i = 0; i < demandCount[cell]; i++) {
            int slot = MOST_DEMANDS * cell + i;
            if (isInRange(choice[demandOther[slot]], demandRange[slot]) != demandIsNeed[slot]) {
                return false;
            }
        }
        return true;
    }

    /** Notes for every set of wishes whether some sound choice meets these and no others. */
    private void noteMetSets() {
        for (int set = 0; set < WISH_SETS; set++) {
            metExactly[set] = false;
        }
        int many = countChoices();
        startTrial();
        for (int n = 0; n < many; n++) {
            int met = metWishes(trial);
            if (!metExactly[met] && isSound(trial)) {
                metExactly[met] = true;
            }
            nextTrial();
        }
    }

    private boolean canMeet(int wishes) {
        for (int set = 0; set < WISH_SETS; set++) {
            if (metExactly[set] && (set & wishes) == wishes) {
                return true;
            }
        }
        return false;
    }

    private int currentVersion(int pack) {
        return generationVersion[PACKS * currentSlot + pack];
    }

    private int listSteps() {
        int many = 0;
        for (int pack = PACKS - 1; pack >= 0; pack--) {
            int old = currentVersion(pack);
            if (old != 0 && old != planned[pack]) {
                stepCode[many] = TAKE_AWAY + 10 * pack + old;
                many++;
            }
        }
        // Packages that stay as they are have no step, but count in the order.
        int ordered = orderPlan();
        for (int i = 0; i < ordered; i++) {
            int pack = placeOrder[i];
            if (planned[pack] != currentVersion(pack)) {
                stepCode[many] = PUT_IN_PLACE + 10 * pack + planned[pack];
                many++;
            }
        }
        return many;
    }

    /** Orders the packages that have a version in the plan; answers how many they are. */
    private int orderPlan() {
        findBuilds();
        int placed = 0;
        int many = 0;
        for (int round = 0; round < PACKS; round++) {
            int group = nextGroup(placed) & ~placed;
            for (int pack = 0; pack < PACKS; pack++) {
                if ((group >> pack & 1) != 0) {
                    placeOrder[many] = pack;
                    many++;
                }
            }
            placed |= group;
        }
        return many;
    }

    /** The set of packages that come next, after those placed; empty if all are. */
    private int nextGroup(int placed) {
        for (int pack = 0; pack < PACKS; pack++) {
            if (planned[pack] != 0 && (placed >> pack & 1) == 0) {
                int group = groupOf(pack);
                // All members of a group build on the same, so one speaks for all.
                if ((buildsOn[pack] & ~(group | placed)) == 0) {
                    return group;
                }
            }
        }
        return 0;
    }

    private int groupOf(int pack) {
        int group = 1 << pack;
        for (int other = 0; other < PACKS; other++) {
            if ((buildsOn[pack] >> other & 1) != 0 && (buildsOn[other] >> pack & 1) != 0) {
                group |= 1 << other;
            }
        }
        return group;
    }

    private void findBuilds() {
        for (int pack = 0; pack < PACKS; pack++) {
            buildsOn[pack] = restsOn(pack);
        }
        // With the middle outermost, one pass finds the ways of any length.
        for (int middle = 0; middle < PACKS; middle++) {
            for (int pack = 0; pack < PACKS; pack++) {
                if ((buildsOn[pack] >> middle & 1) != 0) {
                    buildsOn[pack] |= buildsOn[middle];
                }
            }
        }
    }

    private int restsOn(int pack) {
        int cell = 10 * pack + planned[pack];
        if (planned[pack] == 0 || !offered[cell]) {
            return 0;
        }
        int others = 0;
        for (int i = 0; i < demandCount[cell]; i++) {
            int slot = MOST_DEMANDS * cell + i;
            if (demandIsNeed[slot] && planned[demandOther[slot]] != 0) {
                others |= 1 << demandOther[slot];
            }
        }
        return others;
    }

    private int slotOf(int generation) {
        for (int slot = 0; slot < keptCount; slot++) {
            if (generationNumber[slot] == generation) {
                return slot;
            }
        }
        return -1;
    }

    /** Takes out a generation that is not the current one; later ones move down. */
    private void dropGeneration(int gone) {
        for (int slot = gone; slot < keptCount - 1; slot++) {
            generationNumber[slot] = generationNumber[slot + 1];
            for (int pack = 0; pack < PACKS; pack++) {
                generationVersion[PACKS * slot + pack] = generationVersion[PACKS * (slot + 1) + pack];
            }
        }
        keptCount--;
        if (currentSlot > gone) {
            currentSlot--;
        }
    }

    private void keepPlan() {
        greatestNumber++;
        generationNumber[keptCount] = greatestNumber;
        for (int pack = 0; pack < PACKS; pack++) {
            generationVersion[PACKS * keptCount + pack] = planned[pack];
        }
        currentSlot = keptCount;
        keptCount++;
    }
}
