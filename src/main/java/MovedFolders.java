/**
 * Two trees of folders that went on from one, made one again. Every row is made once, in a
 * constructor, and used again: a call makes no object, so long runs stay small.
 */
public final class MovedFolders {
    public static final int UNKNOWN = -1, OUTSIDE = -2, STATE = -3, FULL = -4, NO = -5, NONE = -6;

    private static final int MOST_SIGNS = 60, LEAST_CODE = 33, MOST_CODE = 126;
    private static final int MOST_FILES = 12, MOST_LETTERS = 3, MOST_PIECES = 6;
    private static final int MOST_ENTRIES = 3 * MOST_FILES, MOST_MOVES = 2 * MOST_FILES;
    private static final int KINDS_OF_PIECE = 10, NO_PIECES = 1;
    private static final int FIRST_LIMIT = 50, WHOLE = 100;
    private static final int STAYED = 0, SAME = 1, LIKE = 2;
    private static final int BY_PLACE = 1, BY_LOSS = 2, BY_CONTENT = 4, BY_MEETING = 8;
    private static final int IMAGES = 2, LEAST_FOUND = 20;

    private final Pad pad = new Pad();
    private final Held held = new Held();
    private final Held imageZero = new Held();
    private final Held imageOne = new Held();
    private final boolean[] kept = new boolean[IMAGES];
    private final Side sideOne = new Side();
    private final Side sideTwo = new Side();
    private final Loops loops = new Loops();
    private final Merge merge = new Merge();
    private boolean fresh = false;

    public MovedFolders() {
    }

    public int say(int sign) {
        if (sign < LEAST_CODE || sign > MOST_CODE) {
            return OUTSIDE;
        }
        return pad.add(sign) ? pad.size() : FULL;
    }

    public int wipe() {
        int before = pad.size();
        pad.clear();
        return before;
    }

    public int fault() {
        return pad.firstWrong();
    }

    public int put(int tree) {
        if (!isTree(tree)) {
            return UNKNOWN;
        }
        if (pad.firstWrong() != NONE) {
            return NO;
        }
        if (!treeOf(tree).lay(pad.readPath(), pad.readContent())) {
            return FULL;
        }
        pad.clear();
        fresh = false;
        return treeOf(tree).size();
    }

    public int drop(int tree, int i) {
        if (!isFile(tree, i)) {
            return UNKNOWN;
        }
        treeOf(tree).remove(i);
        fresh = false;
        return treeOf(tree).size();
    }

    public int file(int tree, int i, int what) {
        if (!isFile(tree, i)) {
            return UNKNOWN;
        }
        switch (what) {
            case 0: return treeOf(tree).pathAt(i);
            case 1: return treeOf(tree).contentAt(i);
            default: return OUTSIDE;
        }
    }

    public int copy(int side) {
        if (!isSide(side)) {
            return UNKNOWN;
        }
        treeOf(side).take(held.base);
        fresh = false;
        return treeOf(side).size();
    }

    public int limit(int percent) {
        if (percent < 1 || percent > WHOLE) {
            return OUTSIDE;
        }
        int before = held.least;
        held.least = percent;
        fresh = false;
        return before;
    }

    public int alike(int tree, int i, int other, int j) {
        if (!isFile(tree, i) || !isFile(other, j)) {
            return UNKNOWN;
        }
        return Pieces.likeness(treeOf(tree).contentAt(i), treeOf(other).contentAt(j));
    }

    public int pair(int side, int i, int what) {
        if (!isSide(side) || !isFile(0, i)) {
            return UNKNOWN;
        }
        refresh();
        switch (what) {
            case 0: return sideOf(side).pairs.mateOf(i);
            case 1: return sideOf(side).pairs.wayOf(i);
            default: return OUTSIDE;
        }
    }

    public int origin(int side, int i) {
        if (!isSide(side) || !isFile(side, i)) {
            return UNKNOWN;
        }
        refresh();
        return sideOf(side).pairs.sourceOf(i);
    }

    public int votes(int side, int folder, int to) {
        if (!isSide(side)) {
            return UNKNOWN;
        }
        if (!Letters.isFolder(folder) || !Letters.isFolder(to) || folder == to) {
            return OUTSIDE;
        }
        refresh();
        return sideOf(side).pairs.countWent(held.base, treeOf(side), folder, to);
    }

    public int moved(int side, int folder, int what) {
        if (!isSide(side)) {
            return UNKNOWN;
        }
        if (!Letters.isFolder(folder) || what < 0 || what > 1) {
            return OUTSIDE;
        }
        refresh();
        Moves moves = sideOf(side).moves;
        int target = moves.targetOf(folder);
        if (what == 0 || target == NONE) {
            return target;
        }
        return moves.goesRound(folder) ? 1 : 0;
    }

    public int dest(int side, int folder) {
        if (!isSide(side)) {
            return UNKNOWN;
        }
        if (!Letters.isFolder(folder)) {
            return OUTSIDE;
        }
        refresh();
        return sideOf(side).moves.follow(folder);
    }

    public int entry(int i, int what) {
        if (what < 0 || what > (i == -1 ? 0 : 3)) {
            return OUTSIDE;
        }
        refresh();
        return i == -1 ? merge.size() : merge.tell(i, what);
    }

    public int clash(int i, int what) {
        if (what < 0 || what > (i == -1 ? 0 : 1)) {
            return OUTSIDE;
        }
        refresh();
        return i == -1 ? merge.clashSize() : merge.tellClash(i, what);
    }

    public int settle() {
        refresh();
        if (merge.clashSize() > 0) {
            return NO;
        }
        if (merge.size() > MOST_FILES) {
            return FULL;
        }
        merge.writeTo(held.base);
        held.one.take(held.base);
        held.two.take(held.base);
        fresh = false;
        return held.base.size();
    }

    public int exchange() {
        Tree former = held.one;
        held.one = held.two;
        held.two = former;
        fresh = false;
        return 1;
    }

    public int image(int k) {
        if (k < 0 || k >= IMAGES) {
            return OUTSIDE;
        }
        imageOf(k).take(held);
        kept[k] = true;
        return 1;
    }

    public int restore(int k) {
        if (k < 0 || k >= IMAGES) {
            return OUTSIDE;
        }
        if (!kept[k]) {
            return STATE;
        }
        held.take(imageOf(k));
        fresh = false;
        return 1;
    }

    public int told(int what) {
        if (what >= LEAST_FOUND) {
            refresh();
        }
        switch (what) {
            case 0: return pad.size();
            case 1: return held.least;
            case 10: return held.base.size();
            case 11: return held.one.size();
            case 12: return held.two.size();
            case 21: return sideOne.pairs.countGone(held.base);
            case 22: return sideTwo.pairs.countGone(held.base);
            case 31: return sideOne.pairs.countNew(held.one);
            case 32: return sideTwo.pairs.countNew(held.two);
            case 41: return sideOne.moves.size();
            case 42: return sideTwo.moves.size();
            default: return OUTSIDE;
        }
    }

    private static boolean isSide(int side) {
        return side == 1 || side == 2;
    }

    private static boolean isTree(int tree) {
        return tree == 0 || isSide(tree);
    }

    private boolean isFile(int tree, int i) {
        return isTree(tree) && treeOf(tree).has(i);
    }

    private Tree treeOf(int tree) {
        return tree == 0 ? held.base : tree == 1 ? held.one : held.two;
    }

    private Side sideOf(int side) {
        return side == 1 ? sideOne : sideTwo;
    }

    private Held imageOf(int k) {
        return k == 0 ? imageZero : imageOne;
    }

    /** Pairs, moves and the merge are found anew only when a tree or the limit has changed. */
    private void refresh() {
        if (fresh) {
            return;
        }
        sideOne.pairs.find(held.base, held.one, held.least);
        sideTwo.pairs.find(held.base, held.two, held.least);
        sideOne.moves.find(held.base, held.one, sideOne.pairs);
        sideTwo.moves.find(held.base, held.two, sideTwo.pairs);
        loops.mark(sideOne.moves, sideTwo.moves);
        merge.make(held, sideOne, sideTwo);
        fresh = true;
    }

    /** FOLDERS and PATHS as numbers. */
    private static final class Letters {
        static boolean isFolder(int folder) {
            if (folder < 0 || folder > 444) {
                return false;
            }
            int first = folder / 100;
            int second = folder / 10 % 10;
            int third = folder % 10;
            if (second > 4 || third > 4) {
                return false;
            }
            return (first != 0 || second == 0) && (second != 0 || third == 0);
        }

        static int folderOf(int path) {
            return path / 10;
        }

        static int nameOf(int path) {
            return path % 10;
        }

        static int lengthOf(int folder) {
            if (folder % 10 != 0) {
                return 3;
            }
            return folder % 100 != 0 ? 2 : folder != 0 ? 1 : 0;
        }

        static int firstOf(int folder, int letters) {
            switch (letters) {
                case 0: return 0;
                case 1: return folder - folder % 100;
                case 2: return folder - folder % 10;
                default: return folder;
            }
        }

        /** Letters that stand from one place on, standing from another one on. */
        static int shift(int letters, int from, int to) {
            int shifted = letters;
            for (int k = from; k < to; k++) {
                shifted /= 10;
            }
            for (int k = to; k < from; k++) {
                shifted *= 10;
            }
            return shifted;
        }
    }

    /** CONTENTS as numbers. */
    private static final class Pieces {
        static int countOf(int content) {
            int count = 0;
            int rest = content;
            for (int k = 0; k < MOST_PIECES; k++) {
                count += rest >= 10 ? 1 : 0;
                rest /= 10;
            }
            return count;
        }

        static int likeness(int content, int other) {
            int more = Math.max(countOf(content), countOf(other));
            if (more == 0) {
                return WHOLE;
            }
            return WHOLE * shared(tally(content), tally(other)) / more;
        }

        /** How often each piece is there, four bits for each, so that no row is needed. */
        private static long tally(int content) {
            long sum = 0;
            int rest = content;
            for (int k = 0; k < MOST_PIECES; k++) {
                sum += rest >= 10 ? 1L << (4 * (rest % 10)) : 0L;
                rest /= 10;
            }
            return sum;
        }

        private static int shared(long tally, long other) {
            int sum = 0;
            for (int piece = 0; piece < KINDS_OF_PIECE; piece++) {
                long often = (tally >> (4 * piece)) & 15L;
                long oftenOther = (other >> (4 * piece)) & 15L;
                sum += (int) Math.min(often, oftenOther);
            }
            return sum;
        }
    }

    /** What becomes of one thing that BASE and both SIDES have. */
    private static final class Three {
        static boolean differ(int old, int one, int two) {
            return one != two && one != old && two != old;
        }

        static int join(int old, int one, int two) {
            if (one == two || two == old) {
                return one;
            }
            return one == old ? two : Math.min(one, two);
        }

        private static boolean sameCount(int old, int one, int two) {
            int count = Pieces.countOf(old);
            return count == Pieces.countOf(one) && count == Pieces.countOf(two);
        }

        static int joinContents(int old, int one, int two) {
            if (!differ(old, one, two) || !sameCount(old, one, two)) {
                return join(old, one, two);
            }
            int count = Pieces.countOf(old);
            int restOld = old;
            int restOne = one;
            int restTwo = two;
            int joined = 0;
            int worth = 1;
            for (int k = 0; k < count; k++) {
                joined += worth * join(restOld % 10, restOne % 10, restTwo % 10);
                restOld /= 10;
                restOne /= 10;
                restTwo /= 10;
                worth *= 10;
            }
            return worth + joined;
        }

        static boolean contentsClash(int old, int one, int two) {
            if (!differ(old, one, two) || !sameCount(old, one, two)) {
                return differ(old, one, two);
            }
            int restOld = old;
            int restOne = one;
            int restTwo = two;
            for (int k = 0; k < MOST_PIECES; k++) {
                if (differ(restOld % 10, restOne % 10, restTwo % 10)) {
                    return true;
                }
                restOld /= 10;
                restOne /= 10;
                restTwo /= 10;
            }
            return false;
        }
    }

    /** The signs that tell a FILE. */
    private static final class Pad {
        private final int[] signs = new int[MOST_SIGNS];
        private int count = 0;

        int size() {
            return count;
        }

        boolean add(int sign) {
            if (count >= MOST_SIGNS) {
                return false;
            }
            signs[count] = sign;
            count++;
            return true;
        }

        void clear() {
            count = 0;
        }

        /** Behind the last sign there is 0, which can stand nowhere: so too few is found as a wrong sign is. */
        private int signAt(int place) {
            return place >= 0 && place < count ? signs[place] : 0;
        }

        private int runOf(int start, int least, int greatest, int most) {
            int length = 0;
            for (int k = 0; k < most; k++) {
                int sign = signAt(start + k);
                if (sign < least || sign > greatest) {
                    return length;
                }
                length++;
            }
            return length;
        }

        private int letters() {
            return runOf(0, 'A', 'D', MOST_LETTERS);
        }

        private int figures() {
            return runOf(letters() + 2, '0', '9', MOST_PIECES);
        }

        int firstWrong() {
            int name = letters();
            if (signAt(name) < 'a' || signAt(name) > 'h') {
                return name;
            }
            if (signAt(name + 1) != '=') {
                return name + 1;
            }
            int end = name + 2 + figures();
            return end < count ? end : NONE;
        }

        int readPath() {
            int letters = letters();
            int folder = 0;
            for (int k = 0; k < letters; k++) {
                folder += Letters.shift(signAt(k) - 'A' + 1, MOST_LETTERS - 1, k);
            }
            return 10 * folder + signAt(letters) - 'a';
        }

        int readContent() {
            int start = letters() + 2;
            int figures = figures();
            int content = NO_PIECES;
            for (int k = 0; k < figures; k++) {
                content = 10 * content + signAt(start + k) - '0';
            }
            return content;
        }
    }

    /** FILES, rising by PATHS. */
    private static final class Tree {
        private final int[] paths = new int[MOST_FILES];
        private final int[] contents = new int[MOST_FILES];
        private int count = 0;

        int size() {
            return count;
        }

        boolean has(int i) {
            return i >= 0 && i < count;
        }

        int pathAt(int i) {
            return has(i) ? paths[i] : NONE;
        }

        int contentAt(int i) {
            return has(i) ? contents[i] : NONE;
        }

        int folderAt(int i) {
            return has(i) ? Letters.folderOf(paths[i]) : NONE;
        }

        int nameAt(int i) {
            return has(i) ? Letters.nameOf(paths[i]) : NONE;
        }

        boolean liesIn(int folder) {
            for (int i = 0; i < count; i++) {
                if (folderAt(i) == folder) {
                    return true;
                }
            }
            return false;
        }

        int find(int path) {
            for (int i = 0; i < count; i++) {
                if (paths[i] == path) {
                    return i;
                }
            }
            return NONE;
        }

        /** False, and nothing is changed, where there is no room. */
        boolean lay(int path, int content) {
            int at = find(path);
            if (at == NONE) {
                if (count >= MOST_FILES) {
                    return false;
                }
                at = openFor(path);
            }
            paths[at] = path;
            contents[at] = content;
            return true;
        }

        private int openFor(int path) {
            int at = count;
            for (int i = count; i > 0 && paths[i - 1] > path; i--) {
                paths[i] = paths[i - 1];
                contents[i] = contents[i - 1];
                at = i - 1;
            }
            count++;
            return at;
        }

        void remove(int i) {
            if (!has(i)) {
                return;
            }
            count--;
            for (int k = i; k < count; k++) {
                paths[k] = paths[k + 1];
                contents[k] = contents[k + 1];
            }
        }

        void clear() {
            count = 0;
        }

        void take(Tree other) {
            for (int i = 0; i < other.count; i++) {
                paths[i] = other.paths[i];
                contents[i] = other.contents[i];
            }
            count = other.count;
        }
    }

    /** All that an IMAGE keeps. */
    private static final class Held {
        final Tree base = new Tree();
        Tree one = new Tree();
        Tree two = new Tree();
        int least = FIRST_LIMIT;

        void take(Held other) {
            base.take(other.base);
            one.take(other.one);
            two.take(other.two);
            least = other.least;
        }
    }

    /** What is found of BASE and one SIDE. */
    private static final class Side {
        final Pairs pairs = new Pairs();
        final Moves moves = new Moves();
    }

    /** Which FILE of BASE is which of the SIDE. */
    private static final class Pairs {
        private final int[] mates = new int[MOST_FILES];
        private final int[] ways = new int[MOST_FILES];
        private final int[] sources = new int[MOST_FILES];
        private final int[] ranks = new int[MOST_FILES * MOST_FILES];

        int mateOf(int i) {
            return i >= 0 && i < MOST_FILES ? mates[i] : NONE;
        }

        int wayOf(int i) {
            return i >= 0 && i < MOST_FILES ? ways[i] : NONE;
        }

        int sourceOf(int j) {
            return j >= 0 && j < MOST_FILES ? sources[j] : NONE;
        }

        int countGone(Tree base) {
            int sum = 0;
            for (int i = 0; i < base.size(); i++) {
                sum += mateOf(i) == NONE ? 1 : 0;
            }
            return sum;
        }

        int countNew(Tree side) {
            int sum = 0;
            for (int j = 0; j < side.size(); j++) {
                sum += sourceOf(j) == NONE ? 1 : 0;
            }
            return sum;
        }

        int countWent(Tree base, Tree side, int folder, int to) {
            int sum = 0;
            for (int i = 0; i < base.size(); i++) {
                int mate = mateOf(i);
                if (mate != NONE && base.folderAt(i) == folder && side.folderAt(mate) == to) {
                    sum++;
                }
            }
            return sum;
        }

        void find(Tree base, Tree side, int least) {
            for (int k = 0; k < MOST_FILES; k++) {
                mates[k] = NONE;
                ways[k] = NONE;
                sources[k] = NONE;
            }
            joinStayed(base, side);
            rankOthers(base, side, least);
            boolean more = true;
            for (int k = 0; k < MOST_FILES && more; k++) {
                more = joinBest(base, side);
            }
        }

        private void join(int i, int j, int way) {
            mates[i] = j;
            ways[i] = way;
            sources[j] = i;
        }

        private void joinStayed(Tree base, Tree side) {
            for (int i = 0; i < base.size(); i++) {
                int j = side.find(base.pathAt(i));
                if (j != NONE) {
                    join(i, j, STAYED);
                }
            }
        }

        private void rankOthers(Tree base, Tree side, int least) {
            for (int i = 0; i < base.size(); i++) {
                for (int j = 0; j < side.size(); j++) {
                    boolean free = mates[i] == NONE && sources[j] == NONE;
                    int rank = free ? rankOf(base.contentAt(i), side.contentAt(j), least) : 0;
                    int sameName = base.nameAt(i) == side.nameAt(j) ? 1 : 0;
                    ranks[i * MOST_FILES + j] = rank == 0 ? 0 : 2 * rank + sameName;
                }
            }
        }

        /** The same CONTENT ranks above every likeness, so that one order serves SAME and LIKE. */
        private static int rankOf(int content, int other, int least) {
            if (content == NO_PIECES || other == NO_PIECES) {
                return 0;
            }
            if (content == other) {
                return WHOLE + 1;
            }
            int likeness = Pieces.likeness(content, other);
            return likeness >= least ? likeness : 0;
        }

        /** Only a higher rank takes the place of the first one found, so the least FILES come first. */
        private boolean joinBest(Tree base, Tree side) {
            int best = 0;
            int bestBase = NONE;
            int bestSide = NONE;
            for (int i = 0; i < base.size(); i++) {
                for (int j = 0; mates[i] == NONE && j < side.size(); j++) {
                    int rank = ranks[i * MOST_FILES + j];
                    if (sources[j] == NONE && rank > best) {
                        best = rank;
                        bestBase = i;
                        bestSide = j;
                    }
                }
            }
            if (best == 0) {
                return false;
            }
            boolean same = base.contentAt(bestBase) == side.contentAt(bestSide);
            join(bestBase, bestSide, same ? SAME : LIKE);
            return true;
        }
    }

    /** The FOLDERS that have MOVED on a SIDE: each has a FILE of BASE, so there are no more of them. */
    private static final class Moves {
        private final int[] starts = new int[MOST_FILES];
        private final int[] targets = new int[MOST_FILES];
        private final boolean[] round = new boolean[MOST_FILES];
        private int count = 0;

        int size() {
            return count;
        }

        int startAt(int k) {
            return k >= 0 && k < count ? starts[k] : NONE;
        }

        int targetAt(int k) {
            return k >= 0 && k < count ? targets[k] : NONE;
        }

        void markRound(int k, boolean isRound) {
            if (k >= 0 && k < count) {
                round[k] = isRound;
            }
        }

        private int placeOf(int folder) {
            for (int k = 0; k < count; k++) {
                if (starts[k] == folder) {
                    return k;
                }
            }
            return NONE;
        }

        int targetOf(int folder) {
            return targetAt(placeOf(folder));
        }

        boolean goesRound(int folder) {
            int place = placeOf(folder);
            return place != NONE && round[place];
        }

        /** DEST. */
        int follow(int folder) {
            int length = Letters.lengthOf(folder);
            for (int left = length; left >= 0; left--) {
                int front = Letters.firstOf(folder, left);
                int place = placeOf(front);
                if (place != NONE && !round[place]) {
                    int start = Letters.lengthOf(targets[place]);
                    boolean tooLong = start + length - left > MOST_LETTERS;
                    return tooLong ? folder : targets[place] + Letters.shift(folder - front, left, start);
                }
            }
            return folder;
        }

        void find(Tree base, Tree side, Pairs pairs) {
            count = 0;
            for (int i = 0; i < base.size(); i++) {
                int folder = base.folderAt(i);
                if (placeOf(folder) == NONE && !side.liesIn(folder)) {
                    add(folder, mostVoted(base, side, pairs, folder));
                }
            }
        }

        private void add(int folder, int target) {
            if (target == NONE || count >= MOST_FILES) {
                return;
            }
            starts[count] = folder;
            targets[count] = target;
            round[count] = false;
            count++;
        }

        /** NONE where there are no VOTES, or two have the most. */
        private static int mostVoted(Tree base, Tree side, Pairs pairs, int folder) {
            int most = 0;
            int target = NONE;
            boolean shared = false;
            for (int i = 0; i < base.size(); i++) {
                int mate = pairs.mateOf(i);
                if (base.folderAt(i) != folder || mate == NONE) {
                    continue;
                }
                int to = side.folderAt(mate);
                int votes = pairs.countWent(base, side, folder, to);
                if (votes > most) {
                    most = votes;
                    target = to;
                    shared = false;
                } else if (votes == most && to != target) {
                    shared = true;
                }
            }
            return shared ? NONE : target;
        }
    }

    /** Which MOVES lead back to where they start. */
    private static final class Loops {
        private final int[] reached = new int[MOST_MOVES + 1];
        private int count = 0;

        void mark(Moves one, Moves two) {
            markThose(one, one, two);
            markThose(two, one, two);
        }

        private void markThose(Moves those, Moves one, Moves two) {
            for (int k = 0; k < those.size(); k++) {
                reachFrom(those.targetAt(k), one, two);
                those.markRound(k, isReached(those.startAt(k)));
            }
        }

        private void reachFrom(int folder, Moves one, Moves two) {
            count = 0;
            add(folder);
            for (int k = 0; k < reached.length && k < count; k++) {
                add(one.targetOf(reached[k]));
                add(two.targetOf(reached[k]));
            }
        }

        private void add(int folder) {
            if (folder != NONE && count < reached.length && !isReached(folder)) {
                reached[count] = folder;
                count++;
            }
        }

        private boolean isReached(int folder) {
            for (int k = 0; k < count; k++) {
                if (reached[k] == folder) {
                    return true;
                }
            }
            return false;
        }
    }

    /** The ENTRIES, in their order, and the CLASHES. */
    private static final class Merge {
        private final int[] paths = new int[MOST_ENTRIES];
        private final int[] contents = new int[MOST_ENTRIES];
        private final int[] causes = new int[MOST_ENTRIES];
        private final int[] sources = new int[MOST_ENTRIES];
        private int count = 0;
        private final int[] clashPaths = new int[MOST_ENTRIES];
        private final int[] clashCauses = new int[MOST_ENTRIES];
        private int clashCount = 0;
        private final int[] goals = new int[MOST_FILES];

        int size() {
            return count;
        }

        int clashSize() {
            return clashCount;
        }

        int tell(int i, int what) {
            if (i < 0 || i >= count) {
                return NONE;
            }
            switch (what) {
                case 0: return paths[i];
                case 1: return contents[i];
                case 2: return causes[i];
                default: return sources[i];
            }
        }

        int tellClash(int i, int what) {
            if (i < 0 || i >= clashCount) {
                return NONE;
            }
            return what == 0 ? clashPaths[i] : clashCauses[i];
        }

        void writeTo(Tree tree) {
            tree.clear();
            for (int i = 0; i < count; i++) {
                tree.lay(paths[i], contents[i]);
            }
        }

        void make(Held held, Side one, Side two) {
            count = 0;
            for (int i = 0; i < held.base.size(); i++) {
                addOld(held, one, two, i);
            }
            findGoals(held, one, two);
            addNewOfOne(held, one, two);
            addNewOfTwo(held.two);
            markMeetings();
            gatherClashes();
        }

        private void addOld(Held held, Side one, Side two, int i) {
            int mateOne = one.pairs.mateOf(i);
            int mateTwo = two.pairs.mateOf(i);
            if (mateOne == NONE && mateTwo == NONE) {
                return;
            }
            int path = held.base.pathAt(i);
            int content = held.base.contentAt(i);
            int pathOne = mateOne == NONE ? path : held.one.pathAt(mateOne);
            int pathTwo = mateTwo == NONE ? path : held.two.pathAt(mateTwo);
            int contentOne = mateOne == NONE ? content : held.one.contentAt(mateOne);
            int contentTwo = mateTwo == NONE ? content : held.two.contentAt(mateTwo);
            int why = 0;
            if (mateOne == NONE || mateTwo == NONE) {
                if (pathOne == pathTwo && contentOne == contentTwo) {
                    return;
                }
                why = BY_LOSS;
            }
            why |= pathsClash(path, pathOne, pathTwo) ? BY_PLACE : 0;
            why |= Three.contentsClash(content, contentOne, contentTwo) ? BY_CONTENT : 0;
            int folder = joinFolders(path, pathOne, pathTwo, one.moves, two.moves);
            int name = Three.join(Letters.nameOf(path), Letters.nameOf(pathOne), Letters.nameOf(pathTwo));
            add(10 * folder + name, Three.joinContents(content, contentOne, contentTwo), why, i);
        }

        private static boolean pathsClash(int path, int pathOne, int pathTwo) {
            return Three.differ(Letters.folderOf(path), Letters.folderOf(pathOne), Letters.folderOf(pathTwo))
                || Three.differ(Letters.nameOf(path), Letters.nameOf(pathOne), Letters.nameOf(pathTwo));
        }

        /** A FOLDER that one SIDE alone chose goes along with what the other SIDE moved. */
        private static int joinFolders(int path, int pathOne, int pathTwo, Moves movesOne, Moves movesTwo) {
            int old = Letters.folderOf(path);
            int one = Letters.folderOf(pathOne);
            int two = Letters.folderOf(pathTwo);
            if (one != two && one == old) {
                return movesOne.follow(two);
            }
            if (one != two && two == old) {
                return movesTwo.follow(one);
            }
            return Three.join(old, one, two);
        }

        private static int newPath(int path, Moves other) {
            return 10 * other.follow(Letters.folderOf(path)) + Letters.nameOf(path);
        }

        private void findGoals(Held held, Side one, Side two) {
            for (int j = 0; j < held.two.size(); j++) {
                boolean isNew = two.pairs.sourceOf(j) == NONE;
                goals[j] = isNew ? newPath(held.two.pathAt(j), one.moves) : NONE;
            }
        }

        private void addNewOfOne(Held held, Side one, Side two) {
            for (int i = 0; i < held.one.size(); i++) {
                if (one.pairs.sourceOf(i) == NONE) {
                    int path = newPath(held.one.pathAt(i), two.moves);
                    int content = held.one.contentAt(i);
                    takeSame(held.two, path, content);
                    add(path, content, 0, 100 + i);
                }
            }
        }

        private void takeSame(Tree two, int path, int content) {
            for (int j = 0; j < two.size(); j++) {
                if (goals[j] == path && two.contentAt(j) == content) {
                    goals[j] = NONE;
                    return;
                }
            }
        }

        private void addNewOfTwo(Tree two) {
            for (int j = 0; j < two.size(); j++) {
                if (goals[j] != NONE) {
                    add(goals[j], two.contentAt(j), 0, 200 + j);
                }
            }
        }

        private void add(int path, int content, int why, int source) {
            if (count >= MOST_ENTRIES) {
                return;
            }
            int at = count;
            for (int i = count; i > 0 && isBehind(i - 1, path, content, why, source); i--) {
                paths[i] = paths[i - 1];
                contents[i] = contents[i - 1];
                causes[i] = causes[i - 1];
                sources[i] = sources[i - 1];
                at = i - 1;
            }
            paths[at] = path;
            contents[at] = content;
            causes[at] = why;
            sources[at] = source;
            count++;
        }

        private boolean isBehind(int i, int path, int content, int why, int source) {
            if (paths[i] != path) {
                return paths[i] > path;
            }
            if (contents[i] != content) {
                return contents[i] > content;
            }
            return causes[i] != why ? causes[i] > why : sources[i] > source;
        }

        /** All at one PATH get it alike, so the order by CAUSES stays. */
        private void markMeetings() {
            for (int i = 1; i < count; i++) {
                if (paths[i - 1] == paths[i]) {
                    causes[i - 1] |= BY_MEETING;
                    causes[i] |= BY_MEETING;
                }
            }
        }

        private void gatherClashes() {
            clashCount = 0;
            for (int i = 0; i < count; i++) {
                if (causes[i] == 0) {
                    continue;
                }
                if (clashCount == 0 || clashPaths[clashCount - 1] != paths[i]) {
                    clashPaths[clashCount] = paths[i];
                    clashCauses[clashCount] = 0;
                    clashCount++;
                }
                clashCauses[clashCount - 1] |= causes[i];
            }
        }
    }
}
