import java.util.Arrays;

/** Two stores of versions on disks that may crash, with packs, references, walks, sweeping and a line between them. */
public final class PackSpring {
    public static final int NONE = -1;
    public static final int CONTENT = 0, FOLDER = 1, VERSION = 2, TAG = 3;
    public static final int LOOSE = 1, PACKED = 2, PROMISED = 4;

    private static final int MOST_TOLD = 100;
    private static final int MOST_NUMBERS = 12;
    private static final int GREATEST_NUMBER = 9999;
    private static final int GREATEST_IN_CONTENT = 99;
    private static final int GREATEST_LABEL = 9;
    private static final int MOST_LINKS = 6;
    private static final int SUMS = 89;
    private static final int REFS = 6;
    private static final int MOST_DEEDS = 30;
    private static final int ALL_DEEDS = 1073741823;
    private static final int MOST_PACKS = 20;
    private static final int MOST_CHOSEN = 4;
    private static final int MOST_LOGGED = 512;
    private static final int MOST_TICKS = 100;
    private static final int LOG_TICKS = 20;
    private static final int WRITTEN_TICKS = 10;
    private static final int GREATEST_WINDOW = 8;
    private static final int GREATEST_DEPTH = 8;
    private static final int GREATEST_LIMIT = 20;
    private static final int LINE_WINDOW = 4;
    private static final int LINE_DEPTH = 4;

    private final Book book = new Book();
    private final Store first = new Store();
    private final Store second = new Store();
    private final Reach reached = new Reach(book);
    private final Walker walker = new Walker(book);
    private final Packer packer = new Packer(book);
    private final Courier courier = new Courier(book);
    private final boolean[] picked = new boolean[MOST_TOLD];
    private final boolean[] offered = new boolean[MOST_TOLD];
    private final int[] draft = new int[MOST_NUMBERS];
    private final int[] row = new int[MOST_NUMBERS];
    private int drafted;
    private int today;
    private boolean isUp;

    public PackSpring() {
        isUp = true;
    }

    // ---- objects

    public int put(int number) throws IllegalArgumentException, IllegalStateException {
        if (number < 0 || number > GREATEST_NUMBER) {
            throw new IllegalArgumentException("number out of its range");
        }
        if (drafted < 0 || drafted >= MOST_NUMBERS) {
            throw new IllegalStateException("the draft is full");
        }
        draft[drafted] = number;
        drafted++;
        return drafted;
    }

    public int clear() {
        int had = drafted;
        drafted = 0;
        return had;
    }

    public int content(int store) throws IndexOutOfBoundsException, IllegalArgumentException, IllegalStateException {
        Store into = storeAt(store);
        if (!isContentBody()) {
            throw new IllegalArgumentException("no body of a CONTENT");
        }
        int name = tell(into, CONTENT, draft, drafted);
        drafted = 0;
        return name;
    }

    public int folder(int store) throws IndexOutOfBoundsException, IllegalArgumentException, IllegalStateException {
        Store into = storeAt(store);
        if (!isFolderBody()) {
            throw new IllegalArgumentException("no body of a FOLDER");
        }
        if (!areEntriesKnown(into)) {
            throw new IllegalStateException("an entry is neither there nor promised");
        }
        int name = tell(into, FOLDER, draft, drafted);
        drafted = 0;
        return name;
    }

    public int version(int store, int folder, int date, int one, int other)
            throws IndexOutOfBoundsException, IllegalArgumentException, IllegalStateException {
        Store into = storeAt(store);
        int root = objectAt(folder);
        int mother = objectOrNone(one);
        int father = objectOrNone(other);
        if (book.kindOf(root) != FOLDER || date < 0 || date > GREATEST_NUMBER) {
            throw new IllegalArgumentException("no FOLDER, or date out of its range");
        }
        if (!isVersionOrNone(mother) || !isVersionOrNone(father)
                || (father != NONE && (mother == NONE || mother == father))) {
            throw new IllegalArgumentException("no such parents");
        }
        if (!into.disk.isThere(root) || (mother != NONE && !into.disk.isThere(mother))
                || (father != NONE && !into.disk.isThere(father))) {
            throw new IllegalStateException("the folder or a parent is not there");
        }
        row[0] = folder;
        row[1] = date;
        row[2] = one;
        row[3] = other;
        return tell(into, VERSION, row, mother == NONE ? 2 : father == NONE ? 3 : 4);
    }

    public int tag(int store, int version)
            throws IndexOutOfBoundsException, IllegalArgumentException, IllegalStateException {
        Store into = storeAt(store);
        int at = objectAt(version);
        if (book.kindOf(at) != VERSION) {
            throw new IllegalArgumentException("no VERSION");
        }
        if (!into.disk.isThere(at)) {
            throw new IllegalStateException("the VERSION is not there");
        }
        row[0] = version;
        return tell(into, TAG, row, 1);
    }

    public int told() {
        return book.count;
    }

    public int kind(int name) throws IndexOutOfBoundsException {
        return book.kindOf(objectAt(name));
    }

    public int length(int name) throws IndexOutOfBoundsException {
        return book.lengthOf(objectAt(name));
    }

    public int part(int name, int place) throws IndexOutOfBoundsException {
        return numberAt(objectAt(name), place);
    }

    public int read(int store, int name, int place) throws IndexOutOfBoundsException, IllegalStateException {
        Store from = storeAt(store);
        int at = objectAt(name);
        int number = numberAt(at, place);
        if (from.disk.isGood(at)) {
            return number;
        }
        boolean isOverLine = from.disk.notes.promised[at] && !from.disk.isThere(at);
        if (!isOverLine || !isUp || !otherThan(store).disk.isGood(at)) {
            throw new IllegalStateException("no good copy, and none over the line");
        }
        from.write(at, today);
        return number;
    }

    public int where(int store, int name) throws IndexOutOfBoundsException {
        Disk disk = storeAt(store).disk;
        int at = objectAt(name);
        return (disk.loose[at] != Disk.ABSENT ? LOOSE : 0) + (disk.hasEntry(at) ? PACKED : 0)
                + (disk.notes.promised[at] ? PROMISED : 0);
    }

    // ---- disks and time

    public int sync(int store) throws IndexOutOfBoundsException {
        return storeAt(store).disk.keepAll();
    }

    public int unsynced(int store) throws IndexOutOfBoundsException {
        return storeAt(store).disk.deeds;
    }

    public int crash(int store, int deeds) throws IndexOutOfBoundsException, IllegalArgumentException {
        Store fallen = storeAt(store);
        if (deeds < 0 || deeds > ALL_DEEDS) {
            throw new IllegalArgumentException("deeds out of their range");
        }
        return fallen.fall(deeds);
    }

    public int tick(int ticks) throws IllegalArgumentException {
        if (ticks < 1 || ticks > MOST_TICKS) {
            throw new IllegalArgumentException("ticks out of their range");
        }
        today += ticks;
        return today;
    }

    // ---- references

    public int expect(int store, int ref, int old, int now) throws IndexOutOfBoundsException, IllegalArgumentException {
        Store in = storeAt(store);
        checkRef(ref);
        int before = objectOrNone(old);
        int after = objectOrNone(now);
        int kind = book.kindOf(after);
        if (after != NONE && kind != VERSION && kind != TAG) {
            throw new IllegalArgumentException("neither a VERSION nor a TAG");
        }
        if (in.isExpected[ref]) {
            throw new IllegalArgumentException("the reference is in the transaction already");
        }
        in.isExpected[ref] = true;
        in.olds[ref] = before;
        in.nexts[ref] = after;
        in.expected++;
        return in.expected;
    }

    public boolean commit(int store) throws IndexOutOfBoundsException, IllegalStateException {
        Store in = storeAt(store);
        if (in.expected == 0) {
            throw new IllegalStateException("the transaction is empty");
        }
        boolean isMet = in.isAsExpected();
        if (isMet && !areNextsWhole(in)) {
            throw new IllegalStateException("what a reference is to become is not whole");
        }
        if (isMet) {
            in.moveRefs(today);
        }
        in.dropTransaction();
        return isMet;
    }

    public int ref(int store, int ref) throws IndexOutOfBoundsException {
        Store in = storeAt(store);
        checkRef(ref);
        return book.nameOf(in.disk.notes.refs[ref]);
    }

    public int logs(int store) throws IndexOutOfBoundsException {
        return storeAt(store).disk.notes.logged;
    }

    public boolean isWhole(int store, int name) throws IndexOutOfBoundsException {
        Store in = storeAt(store);
        return isWholeIn(in, objectAt(name));
    }

    public boolean isShallow(int store, int name) throws IndexOutOfBoundsException {
        Store in = storeAt(store);
        return in.disk.notes.shallow[objectAt(name)];
    }

    // ---- walks and what is reached

    public int replace(int store, int name, int by)
            throws IndexOutOfBoundsException, IllegalArgumentException, IllegalStateException {
        Store in = storeAt(store);
        int at = objectAt(name);
        int next = objectOrNone(by);
        if (book.kindOf(at) != VERSION || !isVersionOrNone(next) || at == next) {
            throw new IllegalArgumentException("no VERSION, or both are the same");
        }
        if (next != NONE && !isWholeIn(in, next)) {
            throw new IllegalStateException("what it would be replaced by is not whole");
        }
        Notes notes = in.disk.notes;
        int old = notes.replaced[at];
        notes.replaced[at] = next;
        if (!walker.countGenerations(notes, false)) {
            notes.replaced[at] = old;
            throw new IllegalStateException("a VERSION would come from itself");
        }
        in.disk.addNote();
        return book.nameOf(old);
    }

    public int walk(int store, int want, int hide) throws IndexOutOfBoundsException, IllegalArgumentException {
        Store in = storeAt(store);
        int start = objectAt(want);
        int hidden = objectOrNone(hide);
        if (book.kindOf(start) != VERSION || !isVersionOrNone(hidden)) {
            throw new IllegalArgumentException("no VERSION");
        }
        walker.go(in.disk.notes, start, hidden);
        return walker.walked;
    }

    public int walkAt(int place) throws IndexOutOfBoundsException {
        if (place < 0 || place >= walker.walked) {
            throw new IndexOutOfBoundsException("no such place of the walk");
        }
        return book.nameOf(walker.found[place]);
    }

    public int choose(int store, int name)
            throws IndexOutOfBoundsException, IllegalArgumentException, IllegalStateException {
        Store in = storeAt(store);
        int at = objectAt(name);
        if (book.kindOf(at) != VERSION) {
            throw new IllegalArgumentException("no VERSION");
        }
        if (in.choice.count >= MOST_CHOSEN || in.choice.indexOf(at) != NONE || !isWholeIn(in, at)) {
            throw new IllegalStateException("not whole, chosen already, or 4 are chosen");
        }
        reached.wipe();
        reached.mark(at);
        reached.spread(in.disk.notes);
        in.choice.keep(at, reached.marks);
        return in.choice.count;
    }

    public int chosen(int store) throws IndexOutOfBoundsException {
        return storeAt(store).choice.count;
    }

    public int reach(int store, int name) throws IndexOutOfBoundsException {
        Store in = storeAt(store);
        int at = objectAt(name);
        reached.wipe();
        reached.mark(at);
        reached.spreadByChoice(in.disk.notes, in.choice);
        return reached.countMarks();
    }

    public int reachByRounds(int store, int name) throws IndexOutOfBoundsException {
        Store in = storeAt(store);
        int at = objectAt(name);
        reached.wipe();
        reached.mark(at);
        reached.spreadByRounds(in.disk.notes);
        return reached.countMarks();
    }

    // ---- packs and sweeping

    public int pack(int store, int window, int depth)
            throws IndexOutOfBoundsException, IllegalArgumentException, IllegalStateException {
        Store in = storeAt(store);
        if (window < 0 || window > GREATEST_WINDOW || depth < 0 || depth > GREATEST_DEPTH) {
            throw new IllegalArgumentException("window or depth out of its range");
        }
        boolean hasSome = false;
        for (int at = 0; at < book.count; at++) {
            picked[at] = in.disk.loose[at] == Disk.GOOD && !in.disk.hasGoodEntry(at);
            offered[at] = false;
            hasSome = hasSome || picked[at];
        }
        if (!hasSome) {
            return NONE;
        }
        if (in.disk.made >= MOST_PACKS) {
            throw new IllegalStateException("20 packs were made");
        }
        Pack made = new Pack();
        packer.fill(made, picked, offered, window, depth);
        return in.disk.addPack(made);
    }

    public int packs(int store) throws IndexOutOfBoundsException {
        return storeAt(store).disk.countPacks();
    }

    public int entries(int store, int pack) throws IndexOutOfBoundsException {
        return packAt(store, pack).count;
    }

    public int size(int store, int pack) throws IndexOutOfBoundsException {
        return packAt(store, pack).sizes;
    }

    public int base(int store, int pack, int place) throws IndexOutOfBoundsException {
        Pack in = packAt(store, pack);
        if (place < 0 || place >= in.count) {
            throw new IndexOutOfBoundsException("no such entry");
        }
        return book.nameOf(in.objectOf(in.bases[place]));
    }

    public boolean pin(int store, int name) throws IndexOutOfBoundsException {
        Store in = storeAt(store);
        int at = objectAt(name);
        in.pins[at] = !in.pins[at];
        return in.pins[at];
    }

    public int sweep(int store) throws IndexOutOfBoundsException {
        Store in = storeAt(store);
        reached.wipe();
        in.markRoots(reached, today);
        reached.spread(in.disk.notes);
        return sweepLoose(in.disk) + sweepPacks(in.disk);
    }

    // ---- the line

    public boolean line() {
        isUp = !isUp;
        return isUp;
    }

    public int fetch(int from, int ref, int limit, boolean isHalf)
            throws IndexOutOfBoundsException, IllegalArgumentException, IllegalStateException {
        Store source = storeAt(from);
        checkRef(ref);
        if (limit < 0 || limit > GREATEST_LIMIT) {
            throw new IllegalArgumentException("limit out of its range");
        }
        planSending(from, ref, limit, isHalf);
        return send(source, otherThan(from), ref);
    }

    public int push(int from, int ref) throws IndexOutOfBoundsException, IllegalStateException {
        Store source = storeAt(from);
        checkRef(ref);
        planSending(from, ref, 0, false);
        int version = book.versionOf(otherThan(from).disk.notes.refs[ref]);
        if (version != NONE && !courier.wanted.marks[version]) {
            throw new IllegalStateException("the version of the other reference is not wanted");
        }
        return send(source, otherThan(from), ref);
    }

    // ---- what is spoiled and missing

    public int spoil(int store, int name) throws IndexOutOfBoundsException, IllegalStateException {
        Disk disk = storeAt(store).disk;
        int at = objectAt(name);
        if (disk.loose[at] == Disk.GOOD) {
            disk.spoilLoose(at);
            return NONE;
        }
        int number = disk.lastPackToSpoil(at);
        if (number == NONE) {
            throw new IllegalStateException("no copy that is not spoiled");
        }
        disk.spoilEntry(number, at);
        return number;
    }

    public int missing(int store) throws IndexOutOfBoundsException {
        Store in = storeAt(store);
        markMissing(in);
        return reached.countMarks();
    }

    public int missingAt(int store, int place) throws IndexOutOfBoundsException {
        Store in = storeAt(store);
        markMissing(in);
        int seen = 0;
        for (int k = 0; k < book.count; k++) {
            int at = book.byName[k];
            if (!reached.marks[at]) {
                continue;
            }
            if (seen == place) {
                return book.nameOf(at);
            }
            seen++;
        }
        throw new IndexOutOfBoundsException("not so many are missing");
    }

    public int mend(int store) throws IndexOutOfBoundsException, IllegalStateException {
        Store in = storeAt(store);
        if (!isUp) {
            throw new IllegalStateException("the line is down");
        }
        Store helper = otherThan(store);
        markMissing(in);
        int written = 0;
        for (int k = 0; k < book.count; k++) {
            int at = book.byName[k];
            if (reached.marks[at] && helper.disk.isGood(at)) {
                in.write(at, today);
                written++;
            }
        }
        return written;
    }

    // ---- what the calls share

    private Store storeAt(int store) throws IndexOutOfBoundsException {
        if (store != 0 && store != 1) {
            throw new IndexOutOfBoundsException("no such store");
        }
        return store == 0 ? first : second;
    }

    private Store otherThan(int store) {
        return store == 0 ? second : first;
    }

    private int objectAt(int name) throws IndexOutOfBoundsException {
        int at = book.find(name);
        if (at == NONE) {
            throw new IndexOutOfBoundsException("no such object");
        }
        return at;
    }

    private int objectOrNone(int name) throws IndexOutOfBoundsException {
        return name == NONE ? NONE : objectAt(name);
    }

    private void checkRef(int ref) throws IndexOutOfBoundsException {
        if (ref < 0 || ref >= REFS) {
            throw new IndexOutOfBoundsException("no such reference");
        }
    }

    private Pack packAt(int store, int number) throws IndexOutOfBoundsException {
        Pack pack = storeAt(store).disk.packIn(number);
        if (pack == null) {
            throw new IndexOutOfBoundsException("no such pack by now");
        }
        return pack;
    }

    private int numberAt(int at, int place) throws IndexOutOfBoundsException {
        if (place < 0 || place >= book.lengthOf(at)) {
            throw new IndexOutOfBoundsException("no such place of the body");
        }
        return book.numberOf(at, place);
    }

    private boolean isVersionOrNone(int at) {
        return at == NONE || book.kindOf(at) == VERSION;
    }

    private boolean isContentBody() {
        for (int k = 0; k < drafted; k++) {
            if (draft[k] > GREATEST_IN_CONTENT) {
                return false;
            }
        }
        return true;
    }

    private boolean isFolderBody() {
        if (drafted % 2 != 0) {
            return false;
        }
        int last = NONE;
        for (int k = 0; k + 1 < drafted; k += 2) {
            int kind = book.kindOf(book.find(draft[k + 1]));
            if (draft[k] <= last || draft[k] > GREATEST_LABEL || (kind != CONTENT && kind != FOLDER)) {
                return false;
            }
            last = draft[k];
        }
        return true;
    }

    private boolean areEntriesKnown(Store in) {
        for (int k = 1; k < drafted; k += 2) {
            int at = book.find(draft[k]);
            if (at == NONE || !in.disk.isKnown(at)) {
                return false;
            }
        }
        return true;
    }

    private int tell(Store into, int kind, int[] body, int length) throws IllegalStateException {
        int at = book.findBody(kind, body, length);
        if (at == NONE && book.count >= MOST_TOLD) {
            throw new IllegalStateException("100 objects were told");
        }
        if (at == NONE) {
            at = book.add(kind, body, length);
        }
        into.write(at, today);
        return book.nameOf(at);
    }

    private boolean isWholeIn(Store in, int at) {
        reached.wipe();
        reached.mark(at);
        reached.spread(in.disk.notes);
        for (int k = 0; k < book.count; k++) {
            if (reached.marks[k] && !in.disk.isKnown(k)) {
                return false;
            }
        }
        return true;
    }

    private boolean areNextsWhole(Store in) {
        for (int ref = 0; ref < REFS; ref++) {
            if (in.isExpected[ref] && in.nexts[ref] != NONE && !isWholeIn(in, in.nexts[ref])) {
                return false;
            }
        }
        return true;
    }

    private int sweepLoose(Disk disk) {
        int unlinked = 0;
        for (int k = 0; k < book.count; k++) {
            int at = book.byName[k];
            if (disk.loose[at] != Disk.ABSENT && (!reached.marks[at] || disk.hasGoodEntry(at))) {
                disk.unlinkLoose(at);
                unlinked++;
            }
        }
        return unlinked;
    }

    private int sweepPacks(Disk disk) {
        int unlinked = 0;
        for (int number = 0; number < disk.made; number++) {
            Pack pack = disk.packIn(number);
            if (pack != null && !pack.holdsOneOf(reached.marks)) {
                disk.unlinkPack(number);
                unlinked++;
            }
        }
        return unlinked;
    }

    private void markMissing(Store in) {
        reached.wipe();
        in.markRefs(reached);
        reached.spread(in.disk.notes);
        for (int at = 0; at < book.count; at++) {
            boolean isPromisedOnly = in.disk.notes.promised[at] && !in.disk.isThere(at);
            reached.marks[at] = reached.marks[at] && !isPromisedOnly && !in.disk.isGood(at);
        }
    }

    private void planSending(int from, int ref, int limit, boolean isHalf) throws IllegalStateException {
        Store source = storeAt(from);
        Store target = otherThan(from);
        if (!isUp || ref < 0 || ref >= REFS || source.disk.notes.refs[ref] == NONE) {
            throw new IllegalStateException("the line is down, or the reference is NONE");
        }
        courier.plan(source, target, source.disk.notes.refs[ref], limit, isHalf);
        if (!courier.canSend(source.disk)) {
            throw new IllegalStateException("something that is to be sent has no good copy");
        }
        if (courier.sentCount > 0 && target.disk.made >= MOST_PACKS) {
            throw new IllegalStateException("20 packs were made");
        }
    }

    private int send(Store source, Store target, int ref) {
        if (courier.sentCount > 0) {
            Pack made = new Pack();
            courier.markOffered(target.disk, offered);
            packer.fill(made, courier.sent, offered, LINE_WINDOW, LINE_DEPTH);
            target.disk.addPack(made);
        }
        target.moveRef(ref, source.disk.notes.refs[ref], today);
        if (courier.tellShallow(target.disk.notes)) {
            target.choice.count = 0;
        }
        courier.tellPromised(target.disk);
        target.disk.addNote();
        return courier.sentCount;
    }

    // ---- the classes inside

    /** All objects that were told; one is known inside by how many were told ahead of it. */
    private static final class Book {
        final int[] kinds = new int[MOST_TOLD];
        final int[] names = new int[MOST_TOLD];
        final int[] lengths = new int[MOST_TOLD];
        final int[] numbers = new int[MOST_TOLD * MOST_NUMBERS];
        final int[] links = new int[MOST_TOLD * MOST_LINKS];
        final int[] linkCounts = new int[MOST_TOLD];
        final int[] byName = new int[MOST_TOLD];
        int count;

        boolean isTold(int at) {
            return at >= 0 && at < count && at < MOST_TOLD;
        }

        int find(int name) {
            for (int at = 0; at < count; at++) {
                if (names[at] == name) {
                    return at;
                }
            }
            return NONE;
        }

        int kindOf(int at) {
            return isTold(at) ? kinds[at] : NONE;
        }

        int nameOf(int at) {
            return isTold(at) ? names[at] : NONE;
        }

        int lengthOf(int at) {
            return isTold(at) ? lengths[at] : 0;
        }

        int numberOf(int at, int place) {
            return isTold(at) && place >= 0 && place < lengths[at] ? numbers[at * MOST_NUMBERS + place] : NONE;
        }

        /** What an object names, always told ahead of it: of a VERSION first its folder, then its parents. */
        int linkOf(int at, int k) {
            return isTold(at) && k >= 0 && k < linkCounts[at] ? links[at * MOST_LINKS + k] : NONE;
        }

        int linksOf(int at) {
            return isTold(at) ? linkCounts[at] : 0;
        }

        int parentsOf(int at) {
            return kindOf(at) == VERSION ? linksOf(at) - 1 : 0;
        }

        /** The VERSION of what a reference names; NONE of NONE. */
        int versionOf(int at) {
            return kindOf(at) == TAG ? linkOf(at, 0) : at;
        }

        int findBody(int kind, int[] body, int length) {
            for (int at = 0; at < count; at++) {
                if (kinds[at] == kind && lengths[at] == length && hasBody(at, body, length)) {
                    return at;
                }
            }
            return NONE;
        }

        boolean hasBody(int at, int[] body, int length) {
            for (int k = 0; k < length && k < body.length; k++) {
                if (numberOf(at, k) != body[k]) {
                    return false;
                }
            }
            return true;
        }

        int add(int kind, int[] body, int length) {
            if (count >= MOST_TOLD || length > MOST_NUMBERS || length > body.length) {
                return NONE;
            }
            int at = count;
            kinds[at] = kind;
            lengths[at] = length;
            for (int k = 0; k < length; k++) {
                numbers[at * MOST_NUMBERS + k] = body[k];
            }
            addLinks(at);
            names[at] = newName(kind, body, length);
            count++;
            addByName(at);
            return at;
        }

        int newName(int kind, int[] body, int length) {
            int sum = 31 * kind;
            for (int k = 0; k < length && k < body.length; k++) {
                sum += (k + 1) * body[k];
            }
            sum = sum % SUMS;
            int others = 0;
            for (int at = 0; at < count; at++) {
                if (names[at] / 100 == sum) {
                    others++;
                }
            }
            return 100 * sum + others;
        }

        void addLinks(int at) {
            linkCounts[at] = 0;
            for (int k = 0; k < lengths[at]; k++) {
                if (isLinkPlace(kinds[at], k)) {
                    addLink(at, find(numbers[at * MOST_NUMBERS + k]));
                }
            }
        }

        static boolean isLinkPlace(int kind, int place) {
            return (kind == FOLDER && place % 2 == 1) || (kind == VERSION && place != 1) || kind == TAG;
        }

        void addLink(int at, int to) {
            if (to != NONE && linkCounts[at] < MOST_LINKS) {
                links[at * MOST_LINKS + linkCounts[at]] = to;
                linkCounts[at]++;
            }
        }

        void addByName(int at) {
            int place = count - 1;
            for (; place > 0 && names[byName[place - 1]] > names[at]; place--) {
                byName[place] = byName[place - 1];
            }
            byName[place] = at;
        }
    }

    /** What NOTEs tell; kept as a whole after each of them, as a crash cuts NOTEs off only from behind. */
    private static final class Notes {
        final int[] refs = new int[REFS];
        final int[] replaced = new int[MOST_TOLD];
        final boolean[] shallow = new boolean[MOST_TOLD];
        final boolean[] promised = new boolean[MOST_TOLD];
        int logged;

        Notes() {
            Arrays.fill(refs, NONE);
            Arrays.fill(replaced, NONE);
        }

        void take(Notes from) {
            for (int ref = 0; ref < REFS; ref++) {
                refs[ref] = from.refs[ref];
            }
            for (int at = 0; at < MOST_TOLD; at++) {
                replaced[at] = from.replaced[at];
                shallow[at] = from.shallow[at];
                promised[at] = from.promised[at];
            }
            logged = from.logged;
        }
    }

    /** A pack: entries in their order; a base always stands ahead of what has it. */
    private static final class Pack {
        final int[] objects = new int[MOST_TOLD];
        final int[] bases = new int[MOST_TOLD];
        final int[] depths = new int[MOST_TOLD];
        final int[] places = new int[MOST_TOLD];
        final boolean[] isSpoilt = new boolean[MOST_TOLD];
        int count;
        int sizes;

        Pack() {
            Arrays.fill(places, NONE);
        }

        int placeOf(int at) {
            return at >= 0 && at < MOST_TOLD ? places[at] : NONE;
        }

        int objectOf(int place) {
            return place >= 0 && place < count ? objects[place] : NONE;
        }

        /** The depth of an entry; -1 of none, so that one more is 0. */
        int depthOf(int place) {
            return place >= 0 && place < count ? depths[place] : -1;
        }

        /** Adds an entry, with the place of its base or NONE; answers its place. */
        int addEntry(int at, int base, int size) {
            if (at < 0 || at >= MOST_TOLD || count >= MOST_TOLD) {
                return NONE;
            }
            objects[count] = at;
            bases[count] = base;
            depths[count] = depthOf(base) + 1;
            places[at] = count;
            sizes += size;
            count++;
            return count - 1;
        }

        boolean hasSpoilt(int at) {
            int place = placeOf(at);
            return place != NONE && isSpoilt[place];
        }

        boolean hasGood(int at) {
            int place = placeOf(at);
            if (place == NONE) {
                return false;
            }
            for (int steps = 0; steps < MOST_TOLD && place >= 0 && place < count; steps++) {
                if (isSpoilt[place]) {
                    return false;
                }
                place = bases[place];
            }
            return true;
        }

        boolean holdsOneOf(boolean[] marks) {
            for (int place = 0; place < count; place++) {
                if (objects[place] < marks.length && marks[objects[place]]) {
                    return true;
                }
            }
            return false;
        }
    }

    /** What is on a disk as it is seen, what of it is kept for sure, and the deeds between both. */
    private static final class Disk {
        static final int ABSENT = 0, GOOD = 1, SPOILT = 2;
        static final int WRITE = 0, PACK = 1, UNLINK_LOOSE = 2, UNLINK_PACK = 3, NOTE = 4;

        final int[] loose = new int[MOST_TOLD];
        final int[] keptLoose = new int[MOST_TOLD];
        final Pack[] allPacks = new Pack[MOST_PACKS];
        final boolean[] isIn = new boolean[MOST_PACKS];
        final boolean[] isKeptIn = new boolean[MOST_PACKS];
        int made;
        final Notes notes = new Notes();
        final Notes keptNotes = new Notes();
        final int[] acts = new int[MOST_DEEDS];
        final int[] things = new int[MOST_DEEDS];
        final boolean[] isSpoilt = new boolean[MOST_DEEDS];
        final Notes[] noted = new Notes[MOST_DEEDS];
        int deeds;

        Pack packIn(int number) {
            return number >= 0 && number < MOST_PACKS && isIn[number] ? allPacks[number] : null;
        }

        int countPacks() {
            int packs = 0;
            for (int number = 0; number < MOST_PACKS; number++) {
                packs += isIn[number] ? 1 : 0;
            }
            return packs;
        }

        boolean hasEntry(int at) {
            for (int number = 0; number < made; number++) {
                Pack pack = packIn(number);
                if (pack != null && pack.placeOf(at) != NONE) {
                    return true;
                }
            }
            return false;
        }

        boolean hasGoodEntry(int at) {
            for (int number = 0; number < made; number++) {
                Pack pack = packIn(number);
                if (pack != null && pack.hasGood(at)) {
                    return true;
                }
            }
            return false;
        }

        boolean isThere(int at) {
            return loose[at] != ABSENT || hasEntry(at);
        }

        boolean isGood(int at) {
            return loose[at] == GOOD || hasGoodEntry(at);
        }

        boolean isKnown(int at) {
            return notes.promised[at] || isThere(at);
        }

        void addDeed(int act, int thing) {
            if (deeds >= MOST_DEEDS) {
                keep(ALL_DEEDS);
            }
            acts[deeds] = act;
            things[deeds] = thing;
            isSpoilt[deeds] = false;
            deeds++;
        }

        void writeLoose(int at) {
            addDeed(WRITE, at);
            loose[at] = GOOD;
        }

        int addPack(Pack pack) {
            int number = made;
            if (number >= MOST_PACKS) {
                return NONE;
            }
            addDeed(PACK, number);
            allPacks[number] = pack;
            isIn[number] = true;
            made++;
            return number;
        }

        void unlinkLoose(int at) {
            addDeed(UNLINK_LOOSE, at);
            loose[at] = ABSENT;
        }

        void unlinkPack(int number) {
            addDeed(UNLINK_PACK, number);
            isIn[number] = false;
        }

        /** Makes a NOTE of what the notes have become. */
        void addNote() {
            addDeed(NOTE, NONE);
            Notes after = noted[deeds - 1];
            if (after == null) {
                after = new Notes();
                noted[deeds - 1] = after;
            }
            after.take(notes);
        }

        /** Spoils the copy itself: the one of its latest WRITE, or the one that was kept before all deeds. */
        void spoilLoose(int at) {
            loose[at] = SPOILT;
            for (int k = deeds - 1; k >= 0; k--) {
                if (acts[k] == WRITE && things[k] == at) {
                    isSpoilt[k] = true;
                    return;
                }
            }
            keptLoose[at] = SPOILT;
        }

        int lastPackToSpoil(int at) {
            for (int number = made - 1; number >= 0; number--) {
                Pack pack = packIn(number);
                if (pack != null && pack.placeOf(at) != NONE && !pack.hasSpoilt(at)) {
                    return number;
                }
            }
            return NONE;
        }

        void spoilEntry(int number, int at) {
            Pack pack = packIn(number);
            if (pack != null && pack.placeOf(at) != NONE) {
                pack.isSpoilt[pack.placeOf(at)] = true;
            }
        }

        int keepAll() {
            int had = deeds;
            keep(ALL_DEEDS);
            return had;
        }

        /** Lets the disk do the deeds that it would do and may do; answers how many are not done. */
        int loseBut(int would) {
            int had = deeds;
            int done = keep(would);
            for (int at = 0; at < MOST_TOLD; at++) {
                loose[at] = keptLoose[at];
            }
            for (int number = 0; number < MOST_PACKS; number++) {
                isIn[number] = isKeptIn[number];
            }
            notes.take(keptNotes);
            return had - done;
        }

        int keep(int would) {
            int done = 0;
            Notes last = null;
            for (int k = 0; k < deeds; k++) {
                boolean isFree = acts[k] == WRITE || acts[k] == PACK;
                if ((would >> k & 1) == 1 && (isFree || done == k)) {
                    done++;
                    keepDeed(k);
                    last = acts[k] == NOTE ? noted[k] : last;
                }
            }
            if (last != null) {
                keptNotes.take(last);
            }
            deeds = 0;
            return done;
        }

        void keepDeed(int k) {
            int thing = things[k];
            if (acts[k] == WRITE) {
                keptLoose[thing] = isSpoilt[k] ? SPOILT : GOOD;
            } else if (acts[k] == UNLINK_LOOSE) {
                keptLoose[thing] = ABSENT;
            } else if (acts[k] == PACK || acts[k] == UNLINK_PACK) {
                isKeptIn[thing] = acts[k] == PACK;
            }
        }
    }

    /** The VERSIONs that are chosen in a store, and what each of them reaches there. */
    private static final class Choice {
        final int[] ones = new int[MOST_CHOSEN];
        final boolean[] kept = new boolean[MOST_CHOSEN * MOST_TOLD];
        int count;

        int indexOf(int at) {
            for (int k = 0; k < count; k++) {
                if (ones[k] == at) {
                    return k;
                }
            }
            return NONE;
        }

        void keep(int at, boolean[] marks) {
            if (count >= MOST_CHOSEN) {
                return;
            }
            ones[count] = at;
            for (int k = 0; k < MOST_TOLD && k < marks.length; k++) {
                kept[count * MOST_TOLD + k] = marks[k];
            }
            count++;
        }

        /** Marks what is kept for an object; answers whether something is. */
        boolean markKept(int at, boolean[] marks) {
            int index = indexOf(at);
            if (index == NONE) {
                return false;
            }
            for (int k = 0; k < MOST_TOLD && k < marks.length; k++) {
                marks[k] = marks[k] || kept[index * MOST_TOLD + k];
            }
            return true;
        }
    }

    /** A store: its disk, and what a crash takes or leaves beside it. */
    private static final class Store {
        final Disk disk = new Disk();
        final Choice choice = new Choice();
        final int[] written = new int[MOST_TOLD];
        final boolean[] pins = new boolean[MOST_TOLD];
        final boolean[] isExpected = new boolean[REFS];
        final int[] olds = new int[REFS];
        final int[] nexts = new int[REFS];
        int expected;
        final int[] logOlds = new int[MOST_LOGGED];
        final int[] logNexts = new int[MOST_LOGGED];
        final int[] logTicks = new int[MOST_LOGGED];

        Store() {
            Arrays.fill(written, NONE);
        }

        void write(int at, int tick) {
            written[at] = tick;
            if (!disk.isGood(at)) {
                disk.writeLoose(at);
            }
        }

        int fall(int would) {
            for (int at = 0; at < MOST_TOLD; at++) {
                pins[at] = false;
            }
            choice.count = 0;
            dropTransaction();
            return disk.loseBut(would);
        }

        void dropTransaction() {
            for (int ref = 0; ref < REFS; ref++) {
                isExpected[ref] = false;
            }
            expected = 0;
        }

        boolean isAsExpected() {
            for (int ref = 0; ref < REFS; ref++) {
                if (isExpected[ref] && disk.notes.refs[ref] != olds[ref]) {
                    return false;
                }
            }
            return true;
        }

        void moveRefs(int tick) {
            for (int ref = 0; ref < REFS; ref++) {
                if (isExpected[ref]) {
                    moveRef(ref, nexts[ref], tick);
                }
            }
            disk.addNote();
        }

        void moveRef(int ref, int next, int tick) {
            Notes notes = disk.notes;
            int old = notes.refs[ref];
            if (old == next) {
                return;
            }
            notes.refs[ref] = next;
            int entry = notes.logged;
            if (entry >= 0 && entry < MOST_LOGGED) {
                logOlds[entry] = old;
                logNexts[entry] = next;
                logTicks[entry] = tick;
            }
            notes.logged++;
        }

        void markRefs(Reach reached) {
            for (int ref = 0; ref < REFS; ref++) {
                reached.mark(disk.notes.refs[ref]);
            }
        }

        void markRoots(Reach reached, int tick) {
            markRefs(reached);
            for (int entry = 0; entry < disk.notes.logged && entry < MOST_LOGGED; entry++) {
                if (tick - logTicks[entry] < LOG_TICKS) {
                    reached.mark(logOlds[entry]);
                    reached.mark(logNexts[entry]);
                }
            }
            for (int at = 0; at < MOST_TOLD; at++) {
                int by = disk.notes.replaced[at];
                boolean isYoung = written[at] != NONE && tick - written[at] < WRITTEN_TICKS && disk.isThere(at);
                if (pins[at] || by != NONE || isYoung) {
                    reached.mark(at);
                }
                reached.mark(by);
            }
        }
    }

    /** Marks of what is reached. As links go to what was told earlier, one way down over all objects is enough. */
    private static final class Reach {
        final Book book;
        final boolean[] marks = new boolean[MOST_TOLD];

        Reach(Book book) {
            this.book = book;
        }

        void wipe() {
            for (int at = 0; at < MOST_TOLD; at++) {
                marks[at] = false;
            }
        }

        void mark(int at) {
            if (at >= 0 && at < MOST_TOLD) {
                marks[at] = true;
            }
        }

        int countMarks() {
            int marked = 0;
            for (int at = 0; at < MOST_TOLD; at++) {
                marked += marks[at] ? 1 : 0;
            }
            return marked;
        }

        void markLinks(Notes notes, int at) {
            int links = notes.shallow[at] ? 1 : book.linksOf(at);
            for (int k = 0; k < links; k++) {
                mark(book.linkOf(at, k));
            }
        }

        void spread(Notes notes) {
            for (int at = book.count - 1; at >= 0; at--) {
                if (marks[at]) {
                    markLinks(notes, at);
                }
            }
        }

        void spreadByChoice(Notes notes, Choice choice) {
            for (int at = book.count - 1; at >= 0; at--) {
                if (marks[at] && !choice.markKept(at, marks)) {
                    markLinks(notes, at);
                }
            }
        }

        void spreadByRounds(Notes notes) {
            int before = NONE;
            int after = countMarks();
            for (int round = 0; round <= MOST_TOLD && before != after; round++) {
                for (int at = 0; at < book.count; at++) {
                    if (marks[at]) {
                        markLinks(notes, at);
                    }
                }
                before = after;
                after = countMarks();
            }
        }
    }

    /** Walks over VERSIONs as they are seen, which may go to later ones too; so it goes by rounds. */
    private static final class Walker {
        final Book book;
        final int[] generations = new int[MOST_TOLD];
        final boolean[] comes = new boolean[MOST_TOLD];
        final boolean[] hides = new boolean[MOST_TOLD];
        final int[] found = new int[MOST_TOLD];
        int walked;

        Walker(Book book) {
            this.book = book;
        }

        void go(Notes notes, int want, int hide) {
            countGenerations(notes, true);
            markComing(notes, want, comes);
            markComing(notes, hide, hides);
            walked = 0;
            for (int at = 0; at < book.count; at++) {
                if (comes[at] && !hides[at]) {
                    addFound(notes, at);
                }
            }
        }

        void addFound(Notes notes, int at) {
            int place = walked;
            for (; place > 0 && isAhead(notes, at, found[place - 1]); place--) {
                found[place] = found[place - 1];
            }
            found[place] = at;
            walked++;
        }

        boolean isAhead(Notes notes, int one, int other) {
            if (generations[one] != generations[other]) {
                return generations[one] > generations[other];
            }
            int date = book.numberOf(seenAs(notes, one), 1);
            int otherDate = book.numberOf(seenAs(notes, other), 1);
            return date != otherDate ? date > otherDate : book.nameOf(one) < book.nameOf(other);
        }

        int seenAs(Notes notes, int at) {
            int by = notes.replaced[at];
            return by == NONE ? at : by;
        }

        int seenParents(Notes notes, int at, boolean heedsShallow) {
            int seen = seenAs(notes, at);
            return heedsShallow && notes.shallow[seen] ? 0 : book.parentsOf(seen);
        }

        int seenParent(Notes notes, int at, int k) {
            return book.linkOf(seenAs(notes, at), k + 1);
        }

        void markComing(Notes notes, int start, boolean[] marks) {
            for (int at = 0; at < MOST_TOLD; at++) {
                marks[at] = at == start;
            }
            boolean hasMore = true;
            for (int round = 0; round <= MOST_TOLD && hasMore; round++) {
                hasMore = false;
                for (int at = book.count - 1; at >= 0; at--) {
                    hasMore = (marks[at] && markParents(notes, at, marks)) || hasMore;
                }
            }
        }

        boolean markParents(Notes notes, int at, boolean[] marks) {
            boolean isNew = false;
            int parents = seenParents(notes, at, true);
            for (int k = 0; k < parents; k++) {
                int parent = seenParent(notes, at, k);
                if (parent != NONE && !marks[parent]) {
                    marks[parent] = true;
                    isNew = true;
                }
            }
            return isNew;
        }

        /** Counts the generations; answers false if they never settle, as some VERSION comes from itself. */
        boolean countGenerations(Notes notes, boolean heedsShallow) {
            Arrays.fill(generations, 1);
            for (int round = 0; round <= MOST_TOLD; round++) {
                boolean isSettled = true;
                for (int at = 0; at < book.count; at++) {
                    isSettled = !raiseGeneration(notes, at, heedsShallow) && isSettled;
                }
                if (isSettled) {
                    return true;
                }
            }
            return false;
        }

        boolean raiseGeneration(Notes notes, int at, boolean heedsShallow) {
            boolean isRaised = false;
            int parents = seenParents(notes, at, heedsShallow);
            for (int k = 0; k < parents; k++) {
                int parent = seenParent(notes, at, k);
                if (parent != NONE && generations[at] <= generations[parent]) {
                    generations[at] = generations[parent] + 1;
                    isRaised = true;
                }
            }
            return isRaised;
        }
    }

    /** Puts objects into a new pack, each as it is or as a change against a base. */
    private static final class Packer {
        final Book book;
        final int[] order = new int[MOST_TOLD];
        int ordered;

        Packer(Book book) {
            this.book = book;
        }

        /** Fills a pack with what is picked; bases come from its last entries, or from what is offered. */
        void fill(Pack pack, boolean[] picked, boolean[] offered, int window, int depth) {
            ordered = 0;
            for (int k = 0; k < book.count; k++) {
                int at = book.byName[k];
                if (picked[at]) {
                    addOrdered(at);
                }
            }
            for (int k = 0; k < ordered; k++) {
                putIn(pack, order[k], offered, window, depth);
            }
        }

        void addOrdered(int at) {
            int place = ordered;
            for (; place > 0 && isAhead(at, order[place - 1]); place--) {
                order[place] = order[place - 1];
            }
            order[place] = at;
            ordered++;
        }

        boolean isAhead(int one, int other) {
            int kind = book.kindOf(one);
            int otherKind = book.kindOf(other);
            return kind != otherKind ? kind < otherKind : book.lengthOf(one) > book.lengthOf(other);
        }

        void putIn(Pack pack, int at, boolean[] offered, int window, int depth) {
            int least = book.lengthOf(at);
            int base = NONE;
            for (int place = pack.count - 1; place >= 0 && place >= pack.count - window; place--) {
                if (pack.depthOf(place) < depth && sizeWith(at, pack.objectOf(place)) < least) {
                    least = sizeWith(at, pack.objectOf(place));
                    base = place;
                }
            }
            int taken = NONE;
            for (int k = 0; k < book.count && depth > 0; k++) {
                int other = book.byName[k];
                if (offered[other] && sizeWith(at, other) < least) {
                    least = sizeWith(at, other);
                    taken = other;
                }
            }
            pack.addEntry(at, taken == NONE ? base : placeOrNew(pack, taken), least);
        }

        int placeOrNew(Pack pack, int at) {
            int place = pack.placeOf(at);
            return place == NONE ? pack.addEntry(at, NONE, book.lengthOf(at)) : place;
        }

        /** The size of an entry with a base; of another kind, one that is never less than without. */
        int sizeWith(int at, int base) {
            int length = book.lengthOf(at);
            if (book.kindOf(at) != book.kindOf(base)) {
                return length;
            }
            int baseLength = book.lengthOf(base);
            int most = length < baseLength ? length : baseLength;
            int head = 0;
            while (head < most && book.numberOf(at, head) == book.numberOf(base, head)) {
                head++;
            }
            int tail = 0;
            while (tail < most - head
                    && book.numberOf(at, length - 1 - tail) == book.numberOf(base, baseLength - 1 - tail)) {
                tail++;
            }
            return 2 + length - head - tail;
        }
    }

    /** Tells what is to go over the line, and what the other store is to note of that. */
    private static final class Courier {
        final Book book;
        final Reach wanted;
        final Reach had;
        final boolean[] sent = new boolean[MOST_TOLD];
        final int[] steps = new int[MOST_TOLD];
        int sentCount;

        Courier(Book book) {
            this.book = book;
            wanted = new Reach(book);
            had = new Reach(book);
        }

        void plan(Store source, Store target, int tip, int limit, boolean isHalf) {
            markWanted(source.disk.notes, tip, limit);
            had.wipe();
            target.markRefs(had);
            had.spread(target.disk.notes);
            sentCount = 0;
            for (int at = 0; at < book.count; at++) {
                had.marks[at] = had.marks[at] && target.disk.isThere(at);
                boolean isLeftOut = book.kindOf(at) == CONTENT
                        && (isHalf || (source.disk.notes.promised[at] && !source.disk.isThere(at)));
                sent[at] = wanted.marks[at] && !had.marks[at] && !isLeftOut;
                sentCount += sent[at] ? 1 : 0;
            }
        }

        /** Goes down once: all children of a VERSION were told after it, so its steps are the fewest by then. */
        void markWanted(Notes notes, int tip, int limit) {
            wanted.wipe();
            wanted.mark(tip);
            Arrays.fill(steps, MOST_TOLD);
            int start = book.versionOf(tip);
            if (start >= 0 && start < MOST_TOLD) {
                steps[start] = 0;
            }
            int fewer = limit == 0 ? MOST_TOLD : limit;
            for (int at = book.count - 1; at >= 0; at--) {
                if (book.kindOf(at) == VERSION && steps[at] < fewer) {
                    wanted.mark(at);
                    wanted.mark(book.linkOf(at, 0));
                    stepToParents(notes, at);
                } else if (book.kindOf(at) == FOLDER && wanted.marks[at]) {
                    wanted.markLinks(notes, at);
                }
            }
        }

        void stepToParents(Notes notes, int at) {
            int parents = notes.shallow[at] ? 0 : book.parentsOf(at);
            for (int k = 0; k < parents; k++) {
                int parent = book.linkOf(at, k + 1);
                if (parent != NONE && steps[at] + 1 < steps[parent]) {
                    steps[parent] = steps[at] + 1;
                }
            }
        }

        boolean canSend(Disk disk) {
            for (int at = 0; at < book.count; at++) {
                if (sent[at] && !disk.isGood(at)) {
                    return false;
                }
            }
            return true;
        }

        void markOffered(Disk disk, boolean[] offered) {
            for (int at = 0; at < book.count && at < offered.length; at++) {
                offered[at] = had.marks[at] && disk.isGood(at);
            }
        }

        /** Tells which wanted VERSIONs are shallow; answers whether one was otherwise. */
        boolean tellShallow(Notes notes) {
            boolean isOther = false;
            for (int at = 0; at < book.count; at++) {
                if (book.kindOf(at) == VERSION && wanted.marks[at]) {
                    boolean isCut = lacksParent(at);
                    isOther = isOther || notes.shallow[at] != isCut;
                    notes.shallow[at] = isCut;
                }
            }
            return isOther;
        }

        boolean lacksParent(int at) {
            for (int k = 1; k <= book.parentsOf(at); k++) {
                int parent = book.linkOf(at, k);
                if (parent != NONE && !wanted.marks[parent] && !had.marks[parent]) {
                    return true;
                }
            }
            return false;
        }

        void tellPromised(Disk disk) {
            for (int at = 0; at < book.count; at++) {
                boolean isLeftOut = book.kindOf(at) == CONTENT && wanted.marks[at] && !sent[at];
                if (isLeftOut && !disk.isThere(at)) {
                    disk.notes.promised[at] = true;
                }
            }
        }
    }
}
