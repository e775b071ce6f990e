import java.util.Arrays;

/**
 * A register of births, baptisms, weddings and deaths: what its entries say, who of those named in
 * them is one person, which days the entries can have, and who is kin to whom.
 *
 * <p>Words in capitals (ENTRY, MENTION, PERSON, STEP and so on) are those of the document.
 */
public final class Parishbook {
    private static final int NONE = -1;
    private static final int REFUSED = -9;
    private static final int NOT_POSSIBLE = -99999;

    private static final int BIRTH = 0;
    private static final int BAPTISM = 1;
    private static final int WEDDING = 2;
    private static final int DEATH = 3;

    private static final int NEW = 0;
    private static final int OLD = 1;
    private static final int LADY = 2;

    private static final int MALE = 1;
    private static final int FEMALE = 2;

    private static final int ROLES = 3;
    private static final int LAST_AGE = 99;
    private static final int LAST_REASON = 9;
    private static final int LAST_LETTER = 26;
    private static final int LAST_NUMBER = 4095;
    private static final int LAST_LEAST = 40000;
    private static final int LAST_GAP = 999;
    private static final int FIRST_YEAR = 1600;
    private static final int LAST_YEAR = 1800;

    private static final int MAX_ENTRIES = 10;
    private static final int MAX_MENTIONS = 24;
    private static final int MAX_SAYINGS = 12;
    private static final int MAX_PAIRS = 4;
    private static final int MAX_TOLD = 6;
    private static final int MAX_NICKS = 6;
    private static final int MAX_STEPS = 8;

    /** The value of a SAYING that PARTS; one that JOINS has its REASON. */
    private static final int PARTED = -1;

    /** No row of births is longer than this: each PERSON stands in it once. */
    private static final int MAX_DEPTH = 40;

    private final Register now = new Register();
    private final History history = new History();
    private final Slip slip = new Slip();
    private final Persons persons = new Persons();
    private final Days days = new Days();
    private final Clash clashing = new Clash(true);
    private final Clash wronging = new Clash(false);
    private final Kin kin = new Kin();
    private final StringBuilder text = new StringBuilder();
    private int penName = 0;
    private int refusals = 0;
    private int knocks = 0;

    /** Creates a register without entries. */
    public Parishbook() {
    }

    // ---- days, names

    public int day(int style, int d, int m, int y) throws IllegalArgumentException {
        needStyle(style, LADY);
        return Calendar.dayOf(style, d, m, y);
    }

    public String date(int style, int day) throws IllegalArgumentException {
        needStyle(style, LADY);
        needDay(day);
        int date = Calendar.dateOf(style, day);
        text.setLength(0);
        text.append(Calendar.dayIn(date)).append('.');
        text.append(Calendar.monthIn(date)).append('.');
        text.append(Calendar.yearIn(date));
        return text.toString();
    }

    public int feast(int style, int which, int year) throws IllegalArgumentException {
        needStyle(style, OLD);
        if (which < 0 || which > 6) {
            throw new IllegalArgumentException("no such feast");
        }
        needYear(year);
        return Calendar.feastOf(style, which, year);
    }

    public int type(int sign) throws IllegalArgumentException, IllegalStateException {
        if (sign < 0 || sign > Slip.LAST_SIGN) {
            throw new IllegalArgumentException("no such sign");
        }
        if (slip.isFull()) {
            throw new IllegalStateException("the slip is full");
        }
        return slip.write(sign);
    }

    public int wipe() {
        return slip.clear();
    }

    public int fault() {
        return slip.firstFault();
    }

    public int told() {
        return slip.tells();
    }

    public int pen(int a, int b, int c, int d, int e, int f) throws IllegalArgumentException {
        needLetter(a, LAST_LETTER);
        needLetter(b, a);
        needLetter(c, b);
        needLetter(d, c);
        needLetter(e, d);
        needLetter(f, e);
        int name = Name.spelled(Name.spelled(Name.spelled(0, f), e), d);
        penName = Name.spelled(Name.spelled(Name.spelled(name, c), b), a);
        return Name.letterCount(penName);
    }

    public String key() {
        writeKey();
        return text.toString();
    }

    // ---- entries

    public int enter(int kind, int from, int to, int book)
            throws IllegalArgumentException, IllegalStateException {
        if (kind < BIRTH || kind > DEATH) {
            throw new IllegalArgumentException("no such kind");
        }
        needSpan(from, to);
        needBook(book);
        if (now.entryCount >= MAX_ENTRIES) {
            throw new IllegalStateException("there are 10 entries");
        }
        step();
        return now.addEntry(kind, from, to, book);
    }

    public int mention(int entry, int role)
            throws IndexOutOfBoundsException, IllegalArgumentException, IllegalStateException {
        needEntry(entry);
        if (!now.isRole(entry, role)) {
            throw new IllegalArgumentException("the entry has no such role");
        }
        needOpen(entry);
        if (now.heldBy(entry, role) != NONE || now.mentionCount >= MAX_MENTIONS) {
            throw new IllegalStateException("no room for a mention there");
        }
        step();
        return now.addMention(entry, role, penName);
    }

    public int put(int entry, int from, int to)
            throws IndexOutOfBoundsException, IllegalArgumentException, IllegalStateException {
        needEntry(entry);
        needSpan(from, to);
        needOpen(entry);
        step();
        int before = at(now.tos, entry) - at(now.froms, entry);
        store(now.froms, entry, from);
        store(now.tos, entry, to);
        return to - from - before;
    }

    public int age(int entry, int years)
            throws IndexOutOfBoundsException, IllegalArgumentException, IllegalStateException {
        needEntry(entry);
        int kind = now.kindOf(entry);
        if (kind == BIRTH || kind == BAPTISM || years < NONE || years > LAST_AGE) {
            throw new IllegalArgumentException("no such age");
        }
        needOpen(entry);
        step();
        int before = at(now.ages, entry);
        store(now.ages, entry, years);
        return before;
    }

    public int close(int entry) throws IndexOutOfBoundsException {
        needEntry(entry);
        step();
        int before = at(now.closed, entry);
        store(now.closed, entry, 1);
        return 1 - before;
    }

    public int twins(int entry, int other)
            throws IndexOutOfBoundsException, IllegalArgumentException, IllegalStateException {
        needEntry(entry);
        needEntry(other);
        if (entry == other || now.kindOf(entry) != BIRTH || now.kindOf(other) != BIRTH) {
            throw new IllegalArgumentException("not two births");
        }
        needUnpaired(now.twinPairs, entry, other);
        step();
        return now.twinPairs.add(entry, other, 0);
    }

    public int same(int entry, int other)
            throws IndexOutOfBoundsException, IllegalArgumentException, IllegalStateException {
        needEntry(entry);
        needEntry(other);
        if (now.kindOf(entry) != now.kindOf(other) || at(now.books, entry) == at(now.books, other)) {
            throw new IllegalArgumentException("not of one kind and of both books");
        }
        needUnpaired(now.samePairs, entry, other);
        step();
        return now.samePairs.add(entry, other, 0);
    }

    public int demand(int first, int second, int least)
            throws IndexOutOfBoundsException, IllegalArgumentException, IllegalStateException {
        needEntry(first);
        needEntry(second);
        if (first == second || least < -LAST_LEAST || least > LAST_LEAST) {
            throw new IllegalArgumentException("no such demand");
        }
        if (now.toldDemands.isFull()) {
            throw new IllegalStateException("there are 6 demands");
        }
        step();
        return now.toldDemands.add(first, second, least);
    }

    public int undemand(int nth) throws IndexOutOfBoundsException {
        if (nth < 0 || nth >= now.toldDemands.size) {
            throw new IndexOutOfBoundsException("no such demand");
        }
        step();
        now.toldDemands.drop(nth);
        return now.toldDemands.size;
    }

    // ---- sayings

    public int join(int mention, int other, int reason)
            throws IndexOutOfBoundsException, IllegalArgumentException, IllegalStateException {
        needMention(mention);
        needMention(other);
        if (mention == other || reason < 0 || reason > LAST_REASON) {
            throw new IllegalArgumentException("not two mentions, or no such reason");
        }
        if (now.sayings.isFull() || now.isSaid(mention, other, true)) {
            throw new IllegalStateException("there are 12 sayings, or this is one");
        }
        if (!settled().canBeOne(now, mention, other)) {
            return refuse();
        }
        step();
        now.say(mention, other, reason);
        return settled().of(mention);
    }

    public int part(int mention, int other)
            throws IndexOutOfBoundsException, IllegalArgumentException, IllegalStateException {
        needMention(mention);
        needMention(other);
        if (mention == other) {
            throw new IllegalArgumentException("not two mentions");
        }
        if (now.sayings.isFull() || now.isSaid(mention, other, false)) {
            throw new IllegalStateException("there are 12 sayings, or this is one");
        }
        if (settled().of(mention) == settled().of(other)) {
            return refuse();
        }
        step();
        now.say(mention, other, PARTED);
        return now.sayings.size;
    }

    public int unsay(int nth) throws IndexOutOfBoundsException {
        needSaying(nth);
        step();
        now.sayings.drop(nth);
        return settled().size();
    }

    public int nick(int mention, int other)
            throws IndexOutOfBoundsException, IllegalStateException {
        needMention(mention);
        needMention(other);
        if (now.nickPairs.isFull()) {
            throw new IllegalStateException("there are 6 pairs");
        }
        int one = Name.keyOf(at(now.names, mention));
        int two = Name.keyOf(at(now.names, other));
        if (one == Name.NO_KEY || two == Name.NO_KEY || one == two || now.nickPairs.holds(one, two)) {
            return refuse();
        }
        step();
        return now.nickPairs.add(one, two, 0);
    }

    public int match(int kind, int role, int otherKind, int otherRole, int least)
            throws IllegalArgumentException {
        needSort(kind, role);
        needSort(otherKind, otherRole);
        int sort = kind * ROLES + role;
        int otherSort = otherKind * ROLES + otherRole;
        if (sort == otherSort || least < 1 || least > 3) {
            throw new IllegalArgumentException("no such match");
        }
        step();
        int joined = 0;
        boolean isMore = true;
        while (joined < MAX_SAYINGS && isMore && !now.sayings.isFull()) {
            settled();
            isMore = isNextJoined(sort, otherSort, least);
            joined += isMore ? 1 : 0;
        }
        return joined;
    }

    // ---- steps back

    public int undo() throws IllegalStateException {
        if (history.size == 0) {
            throw new IllegalStateException("no step is kept");
        }
        history.takeBack(now);
        forget();
        return history.size;
    }

    public int knock() {
        knocks++;
        return knocks;
    }

    // ---- who is who

    public int person(int mention) throws IndexOutOfBoundsException {
        needMention(mention);
        return settled().of(mention);
    }

    public int likeness(int mention, int other) throws IndexOutOfBoundsException {
        needMention(mention);
        needMention(other);
        return now.likenessOf(mention, other);
    }

    public String saying(int nth) throws IndexOutOfBoundsException {
        needSaying(nth);
        writeSaying(nth);
        return text.toString();
    }

    public String mentions(int mention) throws IndexOutOfBoundsException {
        needMention(mention);
        int person = settled().of(mention);
        text.setLength(0);
        for (int i = 0; i < now.mentionCount; i++) {
            if (persons.of(i) == person) {
                writeNext(i);
            }
        }
        return text.toString();
    }

    // ---- what can be true

    public int bound(int entry, boolean isLatest) throws IndexOutOfBoundsException {
        needEntry(entry);
        return reckoned().limitOf(entry, isLatest);
    }

    public int apart(int first, int second) throws IndexOutOfBoundsException {
        needEntry(first);
        needEntry(second);
        return reckoned().isPossible ? days.apartAtLeast(first, second) : NOT_POSSIBLE;
    }

    public String clash(boolean isClash) {
        reckoned();
        writeClash(isClash);
        return text.toString();
    }

    // ---- kin

    public int degree(int mention, int other, boolean isRoman) throws IndexOutOfBoundsException {
        needMention(mention);
        needMention(other);
        return traced().degreeOf(persons.of(mention), persons.of(other), isRoman);
    }

    public String bars(int mention, int other) throws IndexOutOfBoundsException {
        needMention(mention);
        needMention(other);
        traced();
        writeBars(persons.of(mention), persons.of(other));
        return text.toString();
    }

    public int leave(int mention, int other) throws IndexOutOfBoundsException {
        needMention(mention);
        needMention(other);
        traced();
        return leaveOf(persons.of(mention), persons.of(other));
    }

    public String common(int mention, int other) throws IndexOutOfBoundsException {
        needMention(mention);
        needMention(other);
        traced();
        writeCommon(persons.of(mention), persons.of(other));
        return text.toString();
    }

    public String line(int mention, boolean isFather) throws IndexOutOfBoundsException {
        needMention(mention);
        traced();
        writeLine(persons.of(mention), isFather);
        return text.toString();
    }

    public int forebear(int mention, int number)
            throws IndexOutOfBoundsException, IllegalArgumentException {
        needMention(mention);
        if (number < 1 || number > LAST_NUMBER) {
            throw new IllegalArgumentException("no such number");
        }
        return traced().numbered(persons.of(mention), number);
    }

    public int number(int mention, int other) throws IndexOutOfBoundsException {
        needMention(mention);
        needMention(other);
        traced().giveNumbers(persons.of(mention));
        return at(kin.numbers, persons.of(other));
    }

    public String letters(int mention, int other) throws IndexOutOfBoundsException {
        needMention(mention);
        needMention(other);
        text.setLength(0);
        traced().writeLetters(text, now, persons.of(mention), persons.of(other));
        return text.toString();
    }

    public String tree(int mention) throws IndexOutOfBoundsException {
        needMention(mention);
        traced();
        writeTree(persons.of(mention));
        return text.toString();
    }

    public int loops(int mention) throws IndexOutOfBoundsException {
        needMention(mention);
        return traced().loopCount(persons.of(mention));
    }

    public int alive(int mention, int day) throws IndexOutOfBoundsException, IllegalArgumentException {
        needMention(mention);
        needDay(day);
        return reckoned().isPossible ? aliveOn(persons.of(mention), day) : NONE;
    }

    public String household(int entry, int year)
            throws IndexOutOfBoundsException, IllegalArgumentException {
        needEntry(entry);
        if (now.kindOf(entry) != WEDDING) {
            throw new IllegalArgumentException("no wedding");
        }
        needYear(year);
        traced();
        if (!reckoned().isPossible) {
            return "-";
        }
        writeHousehold(entry, Calendar.dayOf(NEW, 1, 7, year));
        return text.toString();
    }

    public String gap(int book, int least) throws IllegalArgumentException {
        needBook(book);
        if (least < 1 || least > LAST_GAP) {
            throw new IllegalArgumentException("no such length of a gap");
        }
        writeGap(book, least);
        return text.toString();
    }

    // ---- what there is

    public int ofEntry(int entry, int what) throws IndexOutOfBoundsException, IllegalArgumentException {
        needEntry(entry);
        switch (what) {
            case 0: return now.kindOf(entry);
            case 1: return at(now.froms, entry);
            case 2: return at(now.tos, entry);
            case 3: return at(now.books, entry);
            case 4: return at(now.ages, entry);
            case 5: return at(now.closed, entry);
            case 6: return now.mentionsIn(entry);
            case 7: return now.heldBy(entry, 0);
            case 8: return now.heldBy(entry, 1);
            case 9: return now.heldBy(entry, 2);
            default: throw new IllegalArgumentException("no such thing of an entry");
        }
    }

    public int ofMention(int mention, int what)
            throws IndexOutOfBoundsException, IllegalArgumentException {
        needMention(mention);
        if (what < 0 || what > 8) {
            throw new IllegalArgumentException("no such thing of a mention");
        }
        int person = settled().of(mention);
        switch (what) {
            case 0: return at(now.mentionEntries, mention);
            case 1: return at(now.mentionRoles, mention);
            case 2: return person;
            case 3: return persons.sexOf(person);
            case 4: return traced().fatherOf(person);
            case 5: return traced().motherOf(person);
            case 6: return traced().childCount(person);
            case 7: return persons.mentionsOf(person);
            default: return Name.letterCount(at(now.names, mention));
        }
    }

    public int house(int what) throws IllegalArgumentException {
        switch (what) {
            case 0: return now.entryCount;
            case 1: return now.mentionCount;
            case 2: return settled().size();
            case 3: return now.sayings.size;
            case 4: return now.toldDemands.size;
            case 5: return reckoned().isPossible ? 1 : 0;
            case 6: return history.size;
            case 7: return refusals;
            case 8: return knocks;
            case 9: return now.twinPairs.size;
            case 10: return now.samePairs.size;
            case 11: return now.nickPairs.size;
            default: throw new IllegalArgumentException("no such thing of the house");
        }
    }

    public boolean isSound() {
        reckoned();
        traced();
        sought(true);
        return areDaysSound() && persons.areSound(now) && kin.areNumbersSound()
                && kin.arePartsSound() && Calendar.isSoundByThousands();
    }

    public long digest() {
        reckoned();
        traced();
        long d = 6511;
        for (int what = 0; what <= 11; what++) {
            d = mixed(d, house(what));
        }
        d = mixedMentions(mixedEntries(d));
        writeClash(true);
        d = mixed(d, text.length());
        writeClash(false);
        d = mixed(d, text.length());
        d = mixedPairs(d);
        for (int nth = 0; nth < now.sayings.size; nth++) {
            writeSaying(nth);
            d = mixed(d, text.length());
        }
        d = mixed(d, fault());
        writeKey();
        d = mixed(d, text.length());
        return mixed(d, isSound() ? 1 : 0);
    }

    // ---- what the calls ask of their arguments

    private static void needStyle(int style, int last) throws IllegalArgumentException {
        if (style < NEW || style > last) {
            throw new IllegalArgumentException("no such style");
        }
    }

    private static void needDay(int day) throws IllegalArgumentException {
        if (!Calendar.isDay(day)) {
            throw new IllegalArgumentException("no day of the register");
        }
    }

    private static void needSpan(int from, int to) throws IllegalArgumentException {
        needDay(from);
        needDay(to);
        if (to < from) {
            throw new IllegalArgumentException("the span ends ahead of its begin");
        }
    }

    private static void needYear(int year) throws IllegalArgumentException {
        if (year < FIRST_YEAR || year > LAST_YEAR) {
            throw new IllegalArgumentException("no year of the register");
        }
    }

    private static void needBook(int book) throws IllegalArgumentException {
        if (book < 0 || book > 1) {
            throw new IllegalArgumentException("no such book");
        }
    }

    private static void needLetter(int letter, int ahead) throws IllegalArgumentException {
        if (letter < 0 || letter > LAST_LETTER || (letter > 0 && ahead == 0)) {
            throw new IllegalArgumentException("no letter, or one behind none");
        }
    }

    private static void needSort(int kind, int role) throws IllegalArgumentException {
        if (kind < BIRTH || kind > DEATH || role < 0 || role >= ROLES) {
            throw new IllegalArgumentException("no such kind or role");
        }
    }

    private void needEntry(int entry) throws IndexOutOfBoundsException {
        if (entry < 0 || entry >= now.entryCount) {
            throw new IndexOutOfBoundsException("no such entry");
        }
    }

    private void needMention(int mention) throws IndexOutOfBoundsException {
        if (mention < 0 || mention >= now.mentionCount) {
            throw new IndexOutOfBoundsException("no such mention");
        }
    }

    private void needSaying(int nth) throws IndexOutOfBoundsException {
        if (nth < 0 || nth >= now.sayings.size) {
            throw new IndexOutOfBoundsException("no such saying");
        }
    }

    private void needOpen(int entry) throws IllegalStateException {
        if (at(now.closed, entry) == 1) {
            throw new IllegalStateException("the entry is closed");
        }
    }

    private void needUnpaired(Pairs pairs, int entry, int other) throws IllegalStateException {
        if (pairs.isFull() || now.twinPairs.holds(entry, other) || now.samePairs.holds(entry, other)) {
            throw new IllegalStateException("there are 4 pairs, or these are one");
        }
    }

    // ---- what is kept and what is worked out of it: the methods of the face call settled(), reckoned()
    // or traced() before they use persons, days or kin; the private methods take these as they are

    private int refuse() {
        refusals++;
        return REFUSED;
    }

    /** Keeps the state ahead of a STEP; what was worked out of that state is stale by it. */
    private void step() {
        history.keep(now);
        forget();
    }

    private void forget() {
        persons.isFresh = false;
        days.isFresh = false;
        clashing.isFresh = false;
        wronging.isFresh = false;
        kin.isFresh = false;
    }

    private Persons settled() {
        if (!persons.isFresh) {
            persons.settle(now);
        }
        return persons;
    }

    private Days reckoned() {
        if (!days.isFresh) {
            days.reckon(now, settled());
        }
        return days;
    }

    private Kin traced() {
        if (!kin.isFresh) {
            kin.trace(now, settled());
        }
        return kin;
    }

    private Clash sought(boolean isClash) {
        Clash clash = isClash ? clashing : wronging;
        if (!clash.isFresh) {
            clash.seek(now, days);
        }
        return clash;
    }

    // ---- matching

    /** Joins the best pair of two sorts; false if there is none. */
    private boolean isNextJoined(int sort, int otherSort, int least) {
        for (int like = 3; like >= least; like--) {
            for (int i = 0; i < now.mentionCount; i++) {
                for (int j = 0; j < now.mentionCount; j++) {
                    if (now.sortOf(i) == sort && now.sortOf(j) == otherSort
                            && now.likenessOf(i, j) == like && isMatch(i, j, sort, otherSort)) {
                        now.say(i, j, 0);
                        forget();
                        return true;
                    }
                }
            }
        }
        return false;
    }

    private boolean isMatch(int i, int j, int sort, int otherSort) {
        int one = persons.of(i);
        int two = persons.of(j);
        return one != two && !persons.hasSort(now, one, otherSort) && !persons.hasSort(now, two, sort)
                && persons.canBeOne(now, i, j);
    }

    // ---- who was alive, households, gaps

    private int aliveOn(int person, int day) {
        boolean isBornSurely = false;
        boolean isDeadLater = false;
        for (int e = 0; e < now.entryCount; e++) {
            if (persons.of(now.heldBy(e, 0)) != person) {
                continue;
            }
            int earliest = days.limitOf(e, false);
            int latest = days.limitOf(e, true);
            if (now.kindOf(e) == BIRTH) {
                if (earliest > day) {
                    return 0;
                }
                isBornSurely = isBornSurely || latest <= day;
            }
            if (now.kindOf(e) == DEATH) {
                if (latest < day) {
                    return 0;
                }
                isDeadLater = isDeadLater || earliest >= day;
            }
        }
        return isBornSurely && isDeadLater ? 2 : 1;
    }

    private void writeHousehold(int entry, int day) {
        int groom = persons.of(now.heldBy(entry, 0));
        int bride = persons.of(now.heldBy(entry, 1));
        text.setLength(0);
        writeIfAlive(groom, day);
        writeIfAlive(bride, day);
        for (int p = 0; p < now.mentionCount; p++) {
            if (persons.of(p) == p && kin.isChild(p, groom) && kin.isChild(p, bride)
                    && !persons.isWed(now, p)) {
                writeIfAlive(p, day);
            }
        }
    }

    private void writeIfAlive(int person, int day) {
        if (person != NONE && aliveOn(person, day) > 0) {
            writeNext(person);
        }
    }

    private void writeGap(int book, int least) {
        text.setLength(0);
        int month = monthBehind(book, NONE);
        for (int i = 0; i < MAX_ENTRIES && month != NONE; i++) {
            int next = monthBehind(book, month);
            int count = next - month - 1;
            if (next != NONE && count >= least) {
                text.append((month + 1) / 12).append('-').append((month + 1) % 12 + 1);
                text.append(' ').append(count);
                return;
            }
            month = next;
        }
    }

    /** The first month behind a month that has a FROM of the BOOK, as a number; NONE without. */
    private int monthBehind(int book, int month) {
        int best = NONE;
        for (int e = 0; e < now.entryCount; e++) {
            int date = Calendar.dateOf(NEW, at(now.froms, e));
            int own = Calendar.yearIn(date) * 12 + Calendar.monthIn(date) - 1;
            if (at(now.books, e) == book && own > month && (best == NONE || own < best)) {
                best = own;
            }
        }
        return best;
    }

    // ---- bars

    private int leaveOf(int one, int two) {
        int sex = persons.sexOf(one);
        if (one == two || (sex != 0 && sex == persons.sexOf(two)) || kin.isLine(one, two)) {
            return 2;
        }
        int blood = kin.bloodBar(one, two);
        int spouses = kin.spouseBar(now, persons, one, two);
        if (blood == 1 || blood == 2 || spouses == 1) {
            return 2;
        }
        return blood > 0 || spouses > 0 || kin.isGodkin(now, persons, one, two) ? 1 : 0;
    }

    private void writeBars(int one, int two) {
        text.setLength(0);
        int blood = kin.bloodBar(one, two);
        int spouses = kin.spouseBar(now, persons, one, two);
        if (kin.isLine(one, two)) {
            text.append('L');
        } else if (blood > 0) {
            text.append('K').append(blood);
        }
        if (spouses > 0) {
            writeSpace();
            text.append('A').append(spouses);
        }
        if (kin.isGodkin(now, persons, one, two)) {
            writeSpace();
            text.append('S');
        }
        if (text.length() == 0) {
            text.append('-');
        }
    }

    // ---- texts: each of these leaves its text in the builder

    private void writeSpace() {
        if (text.length() > 0) {
            text.append(' ');
        }
    }

    private void writeNext(int number) {
        writeSpace();
        text.append(number);
    }

    private void writeKey() {
        text.setLength(0);
        int key = Name.keyOf(penName);
        if (key == Name.NO_KEY) {
            text.append('+');
            return;
        }
        text.append(key);
        if (text.length() > 0) {
            text.deleteCharAt(0);
        }
    }

    private void writeSaying(int nth) {
        Pairs sayings = now.sayings;
        int reason = at(sayings.values, nth);
        text.setLength(0);
        text.append(at(sayings.firsts, nth)).append(reason == PARTED ? '#' : '=');
        text.append(at(sayings.seconds, nth));
        if (reason != PARTED) {
            text.append(':').append(reason);
        }
    }

    private void writeClash(boolean isClash) {
        Clash clash = sought(isClash);
        text.setLength(0);
        for (int i = 0; i < clash.size; i++) {
            writeNext(at(clash.chosen, i));
        }
        if (clash.size == 0) {
            text.append('-');
        }
    }

    private void writeCommon(int one, int two) {
        int top = kin.partOf(one, two);
        int bottom = Kin.WHOLE;
        text.setLength(0);
        while (top > 0 && top % 2 == 0 && bottom > 1) {
            top = top / 2;
            bottom = bottom / 2;
        }
        text.append(top);
        if (top > 0) {
            text.append('/').append(bottom);
        }
    }

    private void writeLine(int person, boolean isFather) {
        text.setLength(0);
        text.append(person);
        int next = kin.parentOf(person, isFather);
        for (int i = 0; i < MAX_MENTIONS && next != NONE; i++) {
            text.append('<').append(next);
            next = kin.parentOf(next, isFather);
        }
    }

    private void writeTree(int person) {
        text.setLength(0);
        kin.tellTree(text, person);
    }

    // ---- isSound() and digest()

    private boolean areDaysSound() {
        if (days.isPossible) {
            return days.areHeldBy(days.earliest) && days.areHeldBy(days.latest);
        }
        return clashing.isTight(now, days);
    }

    private static long mixed(long d, int value) {
        return d * 31 + value;
    }

    private long mixedEntries(long start) {
        long d = start;
        for (int e = 0; e < now.entryCount; e++) {
            for (int what = 0; what <= 9; what++) {
                d = mixed(d, ofEntry(e, what));
            }
            d = mixed(d, days.limitOf(e, false));
            d = mixed(d, days.limitOf(e, true));
        }
        return d;
    }

    private long mixedMentions(long start) {
        long d = start;
        for (int m = 0; m < now.mentionCount; m++) {
            for (int what = 0; what <= 8; what++) {
                d = mixed(d, ofMention(m, what));
            }
            int person = persons.of(m);
            d = mixed(d, kin.loopCount(person));
            writeTree(person);
            d = mixed(d, text.length());
            writeLine(person, true);
            d = mixed(d, text.length());
        }
        return d;
    }

    private long mixedPairs(long start) {
        long d = start;
        for (int i = 0; i < now.mentionCount; i++) {
            for (int j = i + 1; j < now.mentionCount; j++) {
                int one = persons.of(i);
                int two = persons.of(j);
                d = mixed(d, kin.degreeOf(one, two, true));
                d = mixed(d, kin.degreeOf(one, two, false));
                d = mixed(d, leaveOf(one, two));
                writeCommon(one, two);
                d = mixed(d, text.length());
                d = mixed(d, now.likenessOf(i, j));
            }
        }
        return d;
    }

    // ---- rows of numbers

    /** What stands at a place of a row; NONE if the row has no such place. */
    private static int at(int[] row, int place) {
        return place >= 0 && place < row.length ? row[place] : NONE;
    }

    private static void store(int[] row, int place, int value) {
        if (place >= 0 && place < row.length) {
            row[place] = value;
        }
    }

    private static void copyRow(int[] from, int[] to) {
        for (int i = 0; i < from.length && i < to.length; i++) {
            to[i] = from[i];
        }
    }

    /** A square of numbers; NONE is read outside of it. */
    private static final class Table {
        private final int side;
        private final int[] cells;

        Table(int side) {
            this.side = Math.max(0, Math.min(side, MAX_MENTIONS));
            this.cells = new int[this.side * this.side];
        }

        void fill(int value) {
            Arrays.fill(cells, value);
        }

        int get(int row, int column) {
            int place = row * side + column;
            return column >= 0 && column < side && place >= 0 && place < cells.length ? cells[place] : NONE;
        }

        void set(int row, int column, int value) {
            int place = row * side + column;
            if (column >= 0 && column < side && place >= 0 && place < cells.length) {
                cells[place] = value;
            }
        }

        void raise(int row, int column, int value) {
            int place = row * side + column;
            if (column >= 0 && column < side && place >= 0 && place < cells.length && value > cells[place]) {
                cells[place] = value;
            }
        }
    }

    /** The three STYLES of telling a DAY. A date is one number here, so that none needs an object. */
    private static final class Calendar {
        private static final int LAST_DAY = 73413;
        private static final int[] LENGTHS = {31, 28, 31, 30, 31, 30, 31, 31, 30, 31, 30, 31};
        private static final int[] STARTS = {0, 31, 59, 90, 120, 151, 181, 212, 243, 273, 304, 334};

        static boolean isDay(int day) {
            return day >= 0 && day <= LAST_DAY;
        }

        static int dayIn(int date) {
            return date % 32;
        }

        static int monthIn(int date) {
            return date / 32 % 16;
        }

        static int yearIn(int date) {
            return date / 512;
        }

        static int dayOf(int style, int d, int m, int y) {
            if (y < FIRST_YEAR - 1 || y > LAST_YEAR || m < 1 || m > 12 || d < 1) {
                return NONE;
            }
            int year = style == LADY && isAheadOfLadyDay(d, m) ? y + 1 : y;
            int length = at(LENGTHS, m - 1) + (m == 2 && isLeap(style, year) ? 1 : 0);
            if (d > length) {
                return NONE;
            }
            int day = yearStart(style, year) + monthStart(style, year, m) + d - 1;
            return isDay(day) ? day : NONE;
        }

        /** The date of a DAY: year, month and day, packed for dayIn(), monthIn() and yearIn(). */
        static int dateOf(int style, int day) {
            int year = FIRST_YEAR - 1 + day / 366;
            while (year < LAST_YEAR && yearStart(style, year + 1) <= day) {
                year++;
            }
            int rest = day - yearStart(style, year);
            int m = 12;
            while (m > 1 && monthStart(style, year, m) > rest) {
                m--;
            }
            int d = rest - monthStart(style, year, m) + 1;
            int shown = style == LADY && isAheadOfLadyDay(d, m) ? year - 1 : year;
            return shown * 512 + m * 32 + d;
        }

        static int feastOf(int style, int which, int year) {
            switch (which) {
                case 3: return dayOf(style, 2, 2, year);
                case 4: return dayOf(style, 25, 3, year);
                case 5: return dayOf(style, 11, 11, year);
                case 6: return dayOf(style, 25, 12, year);
                default: break;
            }
            int sum = style == OLD ? oldEaster(year) : newEaster(year);
            int easter = dayOf(style, sum % 31 + 1, sum / 31, year);
            int day = easter + (which == 1 ? 39 : 0) + (which == 2 ? 49 : 0);
            return easter != NONE && isDay(day) ? day : NONE;
        }

        static boolean isSoundByThousands() {
            for (int style = NEW; style <= LADY; style++) {
                for (int day = 0; day <= LAST_DAY; day += 1000) {
                    int date = dateOf(style, day);
                    if (dayOf(style, dayIn(date), monthIn(date), yearIn(date)) != day) {
                        return false;
                    }
                }
            }
            return true;
        }

        private static boolean isAheadOfLadyDay(int d, int m) {
            return m < 3 || (m == 3 && d < 25);
        }

        private static boolean isLeap(int style, int year) {
            return year % 4 == 0 && (style != NEW || year % 100 != 0 || year % 400 == 0);
        }

        /** The number of the first day of a year, counted from DAY 0 (below 0 ahead of it). */
        private static int yearStart(int style, int year) {
            int years = year - FIRST_YEAR;
            int start = 365 * years + (years + 3) / 4;
            return style == NEW ? start - (years + 99) / 100 + (years + 399) / 400 : start + 10;
        }

        private static int monthStart(int style, int year, int m) {
            return at(STARTS, m - 1) + (m > 2 && isLeap(style, year) ? 1 : 0);
        }

        private static int oldEaster(int year) {
            int d = (19 * (year % 19) + 15) % 30;
            int e = (2 * (year % 4) + 4 * (year % 7) - d + 34) % 7;
            return d + e + 114;
        }

        private static int newEaster(int year) {
            int a = year % 19;
            int b = year / 100;
            int c = year % 100;
            int h = (19 * a + b - b / 4 - (b - (b + 8) / 25 + 1) / 3 + 15) % 30;
            int l = (32 + 2 * (b % 4) + 2 * (c / 4) - h - c % 4) % 7;
            int m = (a + 11 * h + 22 * l) / 451;
            return h + l - 7 * m + 114;
        }
    }

    /** The SLIP on which a date is typed, sign by sign. */
    private static final class Slip {
        private static final int LAST_SIGN = 13;
        private static final int LAST_DIGIT = 9;
        private static final int DOT = 10;
        private static final int FIRST_STYLE = 11;
        private static final int NO_DATE = 99;

        private final int[] signs = new int[14];
        private int size = 0;

        boolean isFull() {
            return size >= signs.length;
        }

        int write(int sign) {
            store(signs, size, sign);
            size++;
            return size;
        }

        int clear() {
            int before = size;
            size = 0;
            return before;
        }

        int firstFault() {
            int place = formFault();
            if (place != NONE) {
                return place;
            }
            return dayByForm() == NONE ? NO_DATE : NONE;
        }

        int tells() {
            return formFault() == NONE ? dayByForm() : NONE;
        }

        /** A sign that is missing faults where it should stand, and that is how many signs there are. */
        private int formFault() {
            int place = 0;
            for (int part = 0; part < 2; part++) {
                if (!isDigit(place)) {
                    return place;
                }
                place += isDigit(place + 1) ? 2 : 1;
                if (signAt(place) != DOT) {
                    return place;
                }
                place++;
            }
            for (int digit = 0; digit < 4; digit++) {
                if (!isDigit(place)) {
                    return place;
                }
                place++;
            }
            if (signAt(place) < FIRST_STYLE) {
                return place;
            }
            place++;
            return place < size ? place : NONE;
        }

        /** The DAY of a slip of the right form; NONE if it is no date of one. */
        private int dayByForm() {
            int d = 0;
            int m = 0;
            int number = 0;
            int style = NEW;
            for (int i = 0; i < size; i++) {
                int sign = signAt(i);
                if (sign <= LAST_DIGIT) {
                    number = number * 10 + sign;
                } else if (sign == DOT) {
                    d = m;
                    m = number;
                    number = 0;
                } else {
                    style = sign - FIRST_STYLE;
                }
            }
            return Calendar.dayOf(style, d, m, number);
        }

        private boolean isDigit(int place) {
            int sign = signAt(place);
            return sign >= 0 && sign <= LAST_DIGIT;
        }

        private int signAt(int place) {
            return place < size ? at(signs, place) : NONE;
        }
    }

    /** NAMES as one number each: a letter is a digit to the base 27, the first one the lowest. */
    private static final class Name {
        /** A KEY is its digits with a 1 ahead, so that a 0 in front is not lost; this one has none. */
        private static final int NO_KEY = 1;
        private static final int BASE = 27;
        private static final int MAX_LETTERS = 6;
        private static final int END_OF_KEY = 10000;
        /** By letters a to z; the place 0 stands for no letter. */
        private static final int[] SOUNDS = {
            0, 0, 1, 3, 5, 0, 2, 3, 0, 0, 3, 3, 6, 7, 7, 0, 1, 3, 8, 4, 5, 0, 2, 2, 3, 0, 4
        };

        static int spelled(int behind, int letter) {
            return behind * BASE + letter;
        }

        static int letterCount(int name) {
            int count = 0;
            for (int rest = name; rest > 0 && count < MAX_LETTERS; rest = rest / BASE) {
                count++;
            }
            return count;
        }

        static int keyOf(int name) {
            if (name <= 0) {
                return NO_KEY;
            }
            int sound = at(SOUNDS, name % BASE);
            int key = NO_KEY * 10 + sound;
            for (int rest = name / BASE; rest > 0 && key < END_OF_KEY; rest = rest / BASE) {
                int next = at(SOUNDS, rest % BASE);
                if (next != 0 && next != sound) {
                    key = key * 10 + next;
                }
                sound = next;
            }
            return key;
        }
    }

    /** Rows of two numbers each, with a value, in the order in which they came. */
    private static final class Pairs {
        final int[] firsts;
        final int[] seconds;
        final int[] values;
        int size = 0;

        Pairs(int limit) {
            int length = Math.max(0, limit);
            firsts = new int[length];
            seconds = new int[length];
            values = new int[length];
        }

        boolean isFull() {
            return size >= firsts.length;
        }

        int add(int first, int second, int value) {
            store(firsts, size, first);
            store(seconds, size, second);
            store(values, size, value);
            size++;
            return size;
        }

        void drop(int nth) {
            for (int i = nth; i < size - 1; i++) {
                store(firsts, i, at(firsts, i + 1));
                store(seconds, i, at(seconds, i + 1));
                store(values, i, at(values, i + 1));
            }
            size--;
        }

        boolean isOf(int nth, int one, int two) {
            int first = at(firsts, nth);
            int second = at(seconds, nth);
            return (first == one && second == two) || (first == two && second == one);
        }

        boolean holds(int one, int two) {
            for (int i = 0; i < size && i < firsts.length && i < seconds.length; i++) {
                if ((firsts[i] == one && seconds[i] == two) || (firsts[i] == two && seconds[i] == one)) {
                    return true;
                }
            }
            return false;
        }

        void take(Pairs from) {
            copyRow(from.firsts, firsts);
            copyRow(from.seconds, seconds);
            copyRow(from.values, values);
            size = from.size;
        }
    }

    /** What the register says itself; all that a STEP can change. */
    private static final class Register {
        int entryCount = 0;
        final int[] kinds = new int[MAX_ENTRIES];
        final int[] froms = new int[MAX_ENTRIES];
        final int[] tos = new int[MAX_ENTRIES];
        final int[] books = new int[MAX_ENTRIES];
        final int[] ages = new int[MAX_ENTRIES];
        final int[] closed = new int[MAX_ENTRIES];
        /** The MENTION of each ENTRY and ROLE, or NONE. */
        final int[] held = new int[MAX_ENTRIES * ROLES];
        int mentionCount = 0;
        final int[] mentionEntries = new int[MAX_MENTIONS];
        final int[] mentionRoles = new int[MAX_MENTIONS];
        final int[] names = new int[MAX_MENTIONS];
        final Pairs sayings = new Pairs(MAX_SAYINGS);
        final Pairs twinPairs = new Pairs(MAX_PAIRS);
        final Pairs samePairs = new Pairs(MAX_PAIRS);
        final Pairs toldDemands = new Pairs(MAX_TOLD);
        final Pairs nickPairs = new Pairs(MAX_NICKS);

        void take(Register from) {
            entryCount = from.entryCount;
            copyRow(from.kinds, kinds);
            copyRow(from.froms, froms);
            copyRow(from.tos, tos);
            copyRow(from.books, books);
            copyRow(from.ages, ages);
            copyRow(from.closed, closed);
            copyRow(from.held, held);
            mentionCount = from.mentionCount;
            copyRow(from.mentionEntries, mentionEntries);
            copyRow(from.mentionRoles, mentionRoles);
            copyRow(from.names, names);
            sayings.take(from.sayings);
            twinPairs.take(from.twinPairs);
            samePairs.take(from.samePairs);
            toldDemands.take(from.toldDemands);
            nickPairs.take(from.nickPairs);
        }

        int addEntry(int kind, int from, int to, int book) {
            int entry = entryCount;
            store(kinds, entry, kind);
            store(froms, entry, from);
            store(tos, entry, to);
            store(books, entry, book);
            store(ages, entry, NONE);
            store(closed, entry, 0);
            for (int role = 0; role < ROLES; role++) {
                store(held, entry * ROLES + role, NONE);
            }
            entryCount++;
            return entry;
        }

        int addMention(int entry, int role, int name) {
            int mention = mentionCount;
            store(mentionEntries, mention, entry);
            store(mentionRoles, mention, role);
            store(names, mention, name);
            store(held, entry * ROLES + role, mention);
            mentionCount++;
            return mention;
        }

        void say(int mention, int other, int reason) {
            sayings.add(Math.min(mention, other), Math.max(mention, other), reason);
        }

        boolean isSaid(int mention, int other, boolean isJoined) {
            for (int i = 0; i < sayings.size; i++) {
                if (isJoined != (at(sayings.values, i) == PARTED) && sayings.isOf(i, mention, other)) {
                    return true;
                }
            }
            return false;
        }

        int kindOf(int entry) {
            return entry >= 0 && entry < kinds.length ? kinds[entry] : NONE;
        }

        boolean isRole(int entry, int role) {
            return role >= 0 && role < ROLES && (kindOf(entry) != DEATH || role < 2);
        }

        /** The MENTION of an ENTRY in a ROLE, or NONE. */
        int heldBy(int entry, int role) {
            int place = entry * ROLES + role;
            boolean isThere = entry >= 0 && entry < entryCount && role >= 0 && role < ROLES;
            return isThere && place >= 0 && place < held.length ? held[place] : NONE;
        }

        int mentionsIn(int entry) {
            int count = 0;
            for (int role = 0; role < ROLES; role++) {
                count += heldBy(entry, role) == NONE ? 0 : 1;
            }
            return count;
        }

        /** KIND and ROLE of a MENTION in one number. */
        int sortOf(int mention) {
            return kindOf(at(mentionEntries, mention)) * ROLES + at(mentionRoles, mention);
        }

        int sexOf(int mention) {
            int kind = kindOf(at(mentionEntries, mention));
            int role = at(mentionRoles, mention);
            if (kind == WEDDING) {
                return role == 0 ? MALE : role == 1 ? FEMALE : 0;
            }
            return kind == DEATH ? 0 : role;
        }

        int likenessOf(int mention, int other) {
            int one = at(names, mention);
            int two = at(names, other);
            if (one == 0 || two == 0) {
                return 0;
            }
            if (one == two) {
                return 3;
            }
            int oneKey = Name.keyOf(one);
            int twoKey = Name.keyOf(two);
            return oneKey == twoKey ? 2 : nickPairs.holds(oneKey, twoKey) ? 1 : 0;
        }

        /** The order by the smaller FROM, then the smaller number. */
        boolean isAhead(int entry, int other) {
            int from = at(froms, entry);
            int otherFrom = at(froms, other);
            return from < otherFrom || (from == otherFrom && entry < other);
        }
    }

    /** The states ahead of the STEPS that are kept, in a ring. */
    private static final class History {
        private final Register[] kept = new Register[MAX_STEPS];
        private int next = 0;
        int size = 0;

        History() {
            for (int i = 0; i < kept.length; i++) {
                kept[i] = new Register();
            }
        }

        void keep(Register now) {
            Register place = placeOf(next);
            if (place != null) {
                place.take(now);
            }
            next = (next + 1) % MAX_STEPS;
            size = Math.min(MAX_STEPS, size + 1);
        }

        void takeBack(Register now) {
            next = (next + MAX_STEPS - 1) % MAX_STEPS;
            size = Math.max(0, size - 1);
            Register place = placeOf(next);
            if (place != null) {
                now.take(place);
            }
        }

        private Register placeOf(int i) {
            return i >= 0 && i < kept.length ? kept[i] : null;
        }
    }

    /** Who is one PERSON by the SAYINGS, and whether SAYINGS CONTRADICT. */
    private static final class Persons {
        boolean isFresh = false;
        private int mentionCount = 0;
        private final int[] owners = new int[MAX_MENTIONS];
        private final int[] sexes = new int[MAX_MENTIONS];
        private final int[] trial = new int[MAX_MENTIONS];
        private final int[] open = new int[MAX_ENTRIES];

        void settle(Register now) {
            mentionCount = now.mentionCount;
            gather(now, owners, false);
            Arrays.fill(sexes, 0);
            for (int i = 0; i < mentionCount; i++) {
                if (now.sexOf(i) != 0) {
                    store(sexes, at(owners, i), now.sexOf(i));
                }
            }
            isFresh = true;
        }

        /** The PERSON of a MENTION; NONE of none. */
        int of(int mention) {
            return mention < mentionCount ? at(owners, mention) : NONE;
        }

        int sexOf(int person) {
            return at(sexes, person);
        }

        int size() {
            int count = 0;
            for (int i = 0; i < mentionCount; i++) {
                count += at(owners, i) == i ? 1 : 0;
            }
            return count;
        }

        int mentionsOf(int person) {
            int count = 0;
            for (int i = 0; i < mentionCount; i++) {
                count += at(owners, i) == person ? 1 : 0;
            }
            return count;
        }

        boolean hasSort(Register now, int person, int sort) {
            for (int i = 0; i < mentionCount; i++) {
                if (at(owners, i) == person && now.sortOf(i) == sort) {
                    return true;
                }
            }
            return false;
        }

        boolean isWed(Register now, int person) {
            return hasSort(now, person, WEDDING * ROLES) || hasSort(now, person, WEDDING * ROLES + 1);
        }

        /** Whether two MENTIONS can be JOINED without that SAYINGS CONTRADICT. */
        boolean canBeOne(Register now, int mention, int other) {
            if (of(mention) == of(other)) {
                return true;
            }
            copyRow(owners, trial);
            unite(trial, of(mention), of(other));
            return !isContradiction(now, trial);
        }

        boolean areSound(Register now) {
            gather(now, trial, true);
            for (int i = 0; i < mentionCount; i++) {
                if (at(trial, i) != at(owners, i)) {
                    return false;
                }
            }
            return !isContradiction(now, owners);
        }

        private void gather(Register now, int[] row, boolean isBackwards) {
            for (int i = 0; i < row.length; i++) {
                row[i] = i;
            }
            Pairs sayings = now.sayings;
            for (int i = 0; i < sayings.size; i++) {
                int nth = isBackwards ? sayings.size - 1 - i : i;
                if (at(sayings.values, nth) != PARTED) {
                    unite(row, at(row, at(sayings.firsts, nth)), at(row, at(sayings.seconds, nth)));
                }
            }
        }

        /** Makes one PERSON of two. */
        private static void unite(int[] row, int one, int two) {
            int smaller = Math.min(one, two);
            int greater = Math.max(one, two);
            for (int i = 0; i < row.length; i++) {
                if (row[i] == greater) {
                    row[i] = smaller;
                }
            }
        }

        private boolean isContradiction(Register now, int[] row) {
            for (int i = 0; i < now.sayings.size; i++) {
                int one = at(row, at(now.sayings.firsts, i));
                int two = at(row, at(now.sayings.seconds, i));
                if (one == two && at(now.sayings.values, i) == PARTED) {
                    return true;
                }
            }
            for (int i = 0; i < now.mentionCount; i++) {
                for (int j = i + 1; j < now.mentionCount; j++) {
                    if (at(row, i) == at(row, j) && areUnlike(now, i, j)) {
                        return true;
                    }
                }
            }
            return isRound(now, row);
        }

        /** Whether two MENTIONS can not be of one PERSON, whatever is said of others. */
        private static boolean areUnlike(Register now, int i, int j) {
            int entry = at(now.mentionEntries, i);
            int other = at(now.mentionEntries, j);
            if (entry == other || now.sexOf(i) + now.sexOf(j) == MALE + FEMALE) {
                return true;
            }
            int sort = now.sortOf(i);
            boolean isOnce = sort == BIRTH * ROLES || sort == BAPTISM * ROLES || sort == DEATH * ROLES;
            return isOnce && sort == now.sortOf(j) && !now.samePairs.holds(entry, other);
        }

        /**
         * Whether one comes from a PERSON back to it by BIRTHS: a BIRTH is closed as soon as none of
         * its parents is a child in an open one; those that stay open lead round.
         */
        private boolean isRound(Register now, int[] row) {
            int left = 0;
            for (int e = 0; e < now.entryCount; e++) {
                boolean isBirth = now.kindOf(e) == BIRTH && now.heldBy(e, 0) != NONE;
                store(open, e, isBirth ? 1 : 0);
                left += isBirth ? 1 : 0;
            }
            for (int round = 0; round < MAX_ENTRIES && left > 0; round++) {
                for (int e = 0; e < now.entryCount; e++) {
                    if (at(open, e) == 1 && !isOpenChild(now, row, now.heldBy(e, 1))
                            && !isOpenChild(now, row, now.heldBy(e, 2))) {
                        store(open, e, 0);
                        left--;
                    }
                }
            }
            return left > 0;
        }

        private boolean isOpenChild(Register now, int[] row, int mention) {
            if (mention == NONE) {
                return false;
            }
            for (int e = 0; e < now.entryCount; e++) {
                if (at(open, e) == 1 && at(row, now.heldBy(e, 0)) == at(row, mention)) {
                    return true;
                }
            }
            return false;
        }
    }

    /** What all DEMANDS ask, whether they can hold, and on which days. */
    private static final class Days {
        /** Below all that a DEMAND can ask. */
        private static final int FREE = -1000000000;

        boolean isFresh = false;
        boolean isPossible = true;
        /** By two ENTRIES: how much the second day less the first is at least, by the strongest DEMAND. */
        private final Table least = new Table(MAX_ENTRIES);
        /** The same in a row, without what is FREE, as that is gone through so often. */
        final Pairs asked = new Pairs(MAX_ENTRIES * MAX_ENTRIES);
        /** By two ENTRIES, by all DEMANDS and SPANS. */
        private final Table apart = new Table(MAX_ENTRIES);
        final int[] earliest = new int[MAX_ENTRIES];
        final int[] latest = new int[MAX_ENTRIES];

        void reckon(Register now, Persons persons) {
            int count = now.entryCount;
            gather(now, persons);
            listAsked(count);
            begin(now);
            isPossible = true;
            for (int k = 0; k < count && isPossible; k++) {
                goThrough(k, count);
                isPossible = !isLoop(count);
            }
            if (isPossible) {
                limit(now);
            }
            isFresh = true;
        }

        int limitOf(int entry, boolean isLatest) {
            return isPossible ? at(isLatest ? latest : earliest, entry) : NONE;
        }

        int apartAtLeast(int first, int second) {
            return apart.get(first, second);
        }

        /** Whether days, one for each ENTRY, hold all DEMANDS. */
        boolean areHeldBy(int[] row) {
            for (int i = 0; i < asked.size; i++) {
                int apart = at(row, at(asked.seconds, i)) - at(row, at(asked.firsts, i));
                if (apart < at(asked.values, i)) {
                    return false;
                }
            }
            return true;
        }

        private void gather(Register now, Persons persons) {
            least.fill(FREE);
            for (int i = 0; i < now.mentionCount; i++) {
                for (int j = 0; j < now.mentionCount; j++) {
                    if (i != j && persons.of(i) == persons.of(j)) {
                        gatherOfTwo(now, i, j);
                        gatherOfAge(now, i, j);
                        gatherOfWidows(now, persons, i, j);
                    }
                }
            }
            gatherOfPairs(now.twinPairs, -1);
            gatherOfPairs(now.samePairs, 0);
            Pairs told = now.toldDemands;
            for (int i = 0; i < told.size; i++) {
                least.raise(at(told.firsts, i), at(told.seconds, i), at(told.values, i));
            }
        }

        private void listAsked(int count) {
            asked.size = 0;
            for (int e = 0; e < count; e++) {
                for (int f = 0; f < count; f++) {
                    if (least.get(e, f) != FREE) {
                        asked.add(e, f, least.get(e, f));
                    }
                }
            }
        }

        /** Two SPANS alone tell already how far their days are apart at least. */
        private void begin(Register now) {
            for (int e = 0; e < now.entryCount; e++) {
                for (int f = 0; f < now.entryCount; f++) {
                    int bySpans = e == f ? 0 : at(now.froms, f) - at(now.tos, e);
                    apart.set(e, f, Math.max(bySpans, least.get(e, f)));
                }
            }
        }

        private void goThrough(int k, int count) {
            for (int e = 0; e < count; e++) {
                for (int f = 0; f < count; f++) {
                    apart.raise(e, f, apart.get(e, k) + apart.get(k, f));
                }
            }
        }

        private boolean isLoop(int count) {
            for (int e = 0; e < count; e++) {
                if (apart.get(e, e) > 0) {
                    return true;
                }
            }
            return false;
        }

        private void limit(Register now) {
            for (int e = 0; e < now.entryCount; e++) {
                int first = at(now.froms, e);
                int last = at(now.tos, e);
                for (int f = 0; f < now.entryCount; f++) {
                    first = Math.max(first, at(now.froms, f) + apart.get(f, e));
                    last = Math.min(last, at(now.tos, f) - apart.get(e, f));
                }
                store(earliest, e, first);
                store(latest, e, last);
            }
        }

        /** What two MENTIONS of one PERSON ask for their ENTRIES, the first one's rule looked at. */
        private void gatherOfTwo(Register now, int i, int j) {
            int e = at(now.mentionEntries, i);
            int f = at(now.mentionEntries, j);
            switch (now.sortOf(i)) {
                case BIRTH * ROLES:
                    gatherOfBorn(e, f, now.sortOf(j));
                    break;
                case BIRTH * ROLES + 2:
                    if (now.sortOf(j) == BIRTH * ROLES + 2 && now.isAhead(e, f)
                            && !now.twinPairs.holds(e, f) && !now.samePairs.holds(e, f)) {
                        least.raise(e, f, 270);
                    }
                    break;
                case BAPTISM * ROLES:
                    if (now.sortOf(j) == DEATH * ROLES) {
                        least.raise(e, f, 0);
                    }
                    break;
                case DEATH * ROLES:
                    gatherOfDead(e, f, now.sortOf(j));
                    break;
                default:
                    break;
            }
        }

        /** What a BIRTH b of a PERSON asks of another ENTRY f of it. */
        private void gatherOfBorn(int b, int f, int sort) {
            switch (sort) {
                case BIRTH * ROLES + 1:
                    least.raise(b, f, 5110);
                    break;
                case BIRTH * ROLES + 2:
                    least.raise(b, f, 4380);
                    least.raise(f, b, -20075);
                    break;
                case BAPTISM * ROLES:
                case DEATH * ROLES:
                    least.raise(b, f, 0);
                    break;
                case BAPTISM * ROLES + 1:
                case BAPTISM * ROLES + 2:
                    least.raise(b, f, 2555);
                    break;
                case WEDDING * ROLES:
                case WEDDING * ROLES + 1:
                    least.raise(b, f, 5110);
                    break;
                default:
                    break;
            }
        }

        /** An AGE is of the ROLE 0; only WEDDINGS and DEATHS can have one. */
        private void gatherOfAge(Register now, int i, int j) {
            int b = at(now.mentionEntries, i);
            int e = at(now.mentionEntries, j);
            int years = at(now.ages, e);
            if (now.sortOf(i) == BIRTH * ROLES && at(now.mentionRoles, j) == 0 && years != NONE) {
                least.raise(b, e, 365 * years);
                least.raise(e, b, -366 * (years + 1));
            }
        }

        /** What a DEATH d of a PERSON asks of another ENTRY f of it. */
        private void gatherOfDead(int d, int f, int sort) {
            switch (sort) {
                case BIRTH * ROLES + 1:
                    least.raise(f, d, -300);
                    break;
                case BIRTH * ROLES + 2:
                case WEDDING * ROLES:
                case WEDDING * ROLES + 1:
                    least.raise(f, d, 0);
                    break;
                default:
                    break;
            }
        }

        /** With two MENTIONS in WEDDINGS: no second WEDDING ahead of a DEATH of the first spouse. */
        private void gatherOfWidows(Register now, Persons persons, int i, int j) {
            int v = at(now.mentionEntries, i);
            int w = at(now.mentionEntries, j);
            boolean areWeddings = now.kindOf(v) == WEDDING && now.kindOf(w) == WEDDING
                    && at(now.mentionRoles, i) < 2 && at(now.mentionRoles, j) < 2;
            if (!areWeddings || !now.isAhead(v, w) || now.samePairs.holds(v, w)) {
                return;
            }
            int spouse = persons.of(now.heldBy(v, 1 - at(now.mentionRoles, i)));
            if (spouse == NONE || spouse == persons.of(i)) {
                return;
            }
            int wait = persons.sexOf(persons.of(i)) == FEMALE ? 270 : 0;
            for (int e = 0; e < now.entryCount; e++) {
                if (now.kindOf(e) == DEATH && persons.of(now.heldBy(e, 0)) == spouse) {
                    least.raise(e, w, wait);
                }
            }
        }

        private void gatherOfPairs(Pairs pairs, int value) {
            for (int i = 0; i < pairs.size; i++) {
                least.raise(at(pairs.firsts, i), at(pairs.seconds, i), value);
                least.raise(at(pairs.seconds, i), at(pairs.firsts, i), value);
            }
        }
    }

    /** CLASH or WRONG: the set with the fewest ENTRIES, of these the first one. */
    private static final class Clash {
        private static final int STILL = 0;
        private static final int MOVED = 1;
        private static final int TOO_LATE = 2;

        /** More sets of ten ENTRIES than this there are not. */
        private static final int MAX_SETS = 1024;

        private final boolean isClash;
        boolean isFresh = false;
        /** The ENTRIES of the set, by rising numbers. */
        final int[] chosen = new int[MAX_ENTRIES];
        int size = 0;
        private final int[] inside = new int[MAX_ENTRIES];
        private final int[] firstDays = new int[MAX_ENTRIES];

        Clash(boolean isClash) {
            this.isClash = isClash;
        }

        void seek(Register now, Days days) {
            isFresh = true;
            size = 0;
            boolean isFound = days.isPossible;
            for (int count = 1; count <= now.entryCount && !isFound; count++) {
                isFound = isFoundOf(count, now, days);
                size = isFound ? count : 0;
            }
        }

        /** Whether a CLASH is impossible, and possible without any one of its ENTRIES. */
        boolean isTight(Register now, Days days) {
            choose(size, true);
            if (isPossibleInside(now, days)) {
                return false;
            }
            for (int i = 0; i < size; i++) {
                store(inside, at(chosen, i), 0);
                if (!isPossibleInside(now, days)) {
                    return false;
                }
                store(inside, at(chosen, i), 1);
            }
            return true;
        }

        /** Goes through all sets of so many ENTRIES, in order, until one is what is sought. */
        private boolean isFoundOf(int count, Register now, Days days) {
            for (int i = 0; i < count; i++) {
                store(chosen, i, i);
            }
            boolean isMore = true;
            for (int i = 0; i < MAX_SETS && isMore; i++) {
                choose(count, isClash);
                if (isPossibleInside(now, days) != isClash) {
                    return true;
                }
                isMore = isMovedOn(count, now.entryCount);
            }
            return false;
        }

        /** Looks at the chosen ENTRIES alone, or at all the others. */
        private void choose(int count, boolean isInside) {
            Arrays.fill(inside, isInside ? 0 : 1);
            for (int i = 0; i < count; i++) {
                store(inside, at(chosen, i), isInside ? 1 : 0);
            }
        }

        /** The next set of the same size; false behind the last one. */
        private boolean isMovedOn(int count, int entryCount) {
            int place = count - 1;
            while (place >= 0 && at(chosen, place) >= entryCount - count + place) {
                place--;
            }
            if (place < 0) {
                return false;
            }
            int first = at(chosen, place) + 1;
            for (int i = place; i < count; i++) {
                store(chosen, i, first + i - place);
            }
            return true;
        }

        /** Moves the days on from FROM as DEMANDS ask; they come to rest if the set is possible. */
        private boolean isPossibleInside(Register now, Days days) {
            copyRow(now.froms, firstDays);
            for (int round = 0; round <= now.entryCount; round++) {
                int state = move(now, days);
                if (state != MOVED) {
                    return state == STILL;
                }
            }
            return false;
        }

        private int move(Register now, Days days) {
            Pairs asked = days.asked;
            int state = STILL;
            for (int i = 0; i < asked.size; i++) {
                int e = at(asked.firsts, i);
                int f = at(asked.seconds, i);
                int day = at(firstDays, e) + at(asked.values, i);
                if (at(inside, e) == 0 || at(inside, f) == 0 || day <= at(firstDays, f)) {
                    continue;
                }
                if (day > at(now.tos, f)) {
                    return TOO_LATE;
                }
                store(firstDays, f, day);
                state = MOVED;
            }
            return state;
        }
    }

    /** FATHERS and MOTHERS, and what follows from them. */
    private static final class Kin {
        /** PARTS are counted in this many of a whole: a halving a birth never leaves a rest. */
        private static final int WHOLE = 1 << 28;
        private static final int FIRST_LETTER = 97;

        boolean isFresh = false;
        private int mentionCount = 0;
        private final int[] fathers = new int[MAX_MENTIONS];
        private final int[] mothers = new int[MAX_MENTIONS];
        /** The BIRTH with the smallest number of a PERSON in the ROLE 0, or NONE. */
        private final int[] births = new int[MAX_MENTIONS];
        /** How many PERSONS stand ahead of a PERSON in the order parents first; NONE: not yet known. */
        private final int[] order = new int[MAX_MENTIONS];
        private int orderSize = 0;
        private final int[] isOrdered = new int[MAX_MENTIONS];
        /** By a PERSON and one above: the fewest births between (NONE), and how many rows of births. */
        private final Table ups = new Table(MAX_MENTIONS);
        private final Table rows = new Table(MAX_MENTIONS);
        private final Table parts = new Table(MAX_MENTIONS);
        /** Of the PERSON that giveNumbers() was called for last. */
        final int[] numbers = new int[MAX_MENTIONS];
        private final int[] queue = new int[MAX_MENTIONS];
        private final int[] isOnRow = new int[MAX_MENTIONS];

        void trace(Register now, Persons persons) {
            mentionCount = now.mentionCount;
            findParents(now, persons);
            findOrder(persons);
            ups.fill(NONE);
            rows.fill(0);
            parts.fill(0);
            for (int i = 0; i < orderSize; i++) {
                traceOne(i);
            }
            isFresh = true;
        }

        private void findParents(Register now, Persons persons) {
            Arrays.fill(fathers, NONE);
            Arrays.fill(mothers, NONE);
            Arrays.fill(births, NONE);
            for (int e = 0; e < now.entryCount; e++) {
                if (now.kindOf(e) == BIRTH) {
                    int child = persons.of(now.heldBy(e, 0));
                    storeFirst(births, child, e);
                    storeFirst(fathers, child, persons.of(now.heldBy(e, 1)));
                    storeFirst(mothers, child, persons.of(now.heldBy(e, 2)));
                }
            }
        }

        private static void storeFirst(int[] row, int place, int value) {
            if (at(row, place) == NONE) {
                store(row, place, value);
            }
        }

        private void findOrder(Persons persons) {
            orderSize = 0;
            Arrays.fill(isOrdered, 0);
            for (int round = 0; round < mentionCount && orderSize < mentionCount; round++) {
                for (int p = 0; p < mentionCount; p++) {
                    if (persons.of(p) == p && at(isOrdered, p) == 0 && isPlaced(fatherOf(p))
                            && isPlaced(motherOf(p))) {
                        store(order, orderSize, p);
                        store(isOrdered, p, 1);
                        orderSize++;
                    }
                }
            }
        }

        private boolean isPlaced(int person) {
            return person == NONE || at(isOrdered, person) == 1;
        }

        /** Fills in what is known of a PERSON and of all ahead of it in the order. */
        private void traceOne(int place) {
            int p = at(order, place);
            int father = fatherOf(p);
            int mother = motherOf(p);
            for (int i = 0; i < place; i++) {
                int q = at(order, i);
                int byFather = ups.get(father, q);
                int byMother = ups.get(mother, q);
                boolean isByFather = byFather != NONE && (byMother == NONE || byFather < byMother);
                int nearest = isByFather ? byFather : byMother;
                ups.set(p, q, nearest == NONE ? NONE : nearest + 1);
                rows.set(p, q, rowsOf(father, q) + rowsOf(mother, q));
                int part = (partOf(father, q) + partOf(mother, q)) / 2;
                parts.set(p, q, part);
                parts.set(q, p, part);
            }
            ups.set(p, p, 0);
            rows.set(p, p, 1);
            parts.set(p, p, (WHOLE + partOf(father, mother)) / 2);
        }

        int fatherOf(int person) {
            return at(fathers, person);
        }

        int motherOf(int person) {
            return at(mothers, person);
        }

        int parentOf(int person, boolean isFather) {
            return isFather ? fatherOf(person) : motherOf(person);
        }

        boolean isChild(int person, int parent) {
            return parent != NONE && (fatherOf(person) == parent || motherOf(person) == parent);
        }

        int childCount(int person) {
            int count = 0;
            for (int p = 0; p < mentionCount; p++) {
                count += isChild(p, person) ? 1 : 0;
            }
            return count;
        }

        private int rowsOf(int person, int forebear) {
            return person == NONE || forebear == NONE ? 0 : rows.get(person, forebear);
        }

        int partOf(int one, int two) {
            return one == NONE || two == NONE ? 0 : parts.get(one, two);
        }

        /** How many FOREBEARS a PERSON comes to by more than one row of births. */
        int loopCount(int person) {
            int count = 0;
            for (int p = 0; p < mentionCount; p++) {
                count += rowsOf(person, p) > 1 ? 1 : 0;
            }
            return count;
        }

        int degreeOf(int one, int two, boolean isRoman) {
            int best = NONE;
            for (int z = 0; z < mentionCount; z++) {
                int u = ups.get(one, z);
                int v = ups.get(two, z);
                if (u == NONE || v == NONE) {
                    continue;
                }
                int degree = isRoman ? u + v : Math.max(u, v);
                best = best == NONE ? degree : Math.min(best, degree);
            }
            return best;
        }

        boolean isLine(int one, int two) {
            return one != two && (ups.get(one, two) != NONE || ups.get(two, one) != NONE);
        }

        /** The number behind "K"; 0 without. */
        int bloodBar(int one, int two) {
            int degree = degreeOf(one, two, false);
            return isLine(one, two) || degree < 1 || degree > 4 ? 0 : degree;
        }

        /** The number behind "A"; 0 without. */
        int spouseBar(Register now, Persons persons, int one, int two) {
            int best = NONE;
            for (int e = 0; e < now.entryCount; e++) {
                if (now.kindOf(e) == WEDDING) {
                    int groom = persons.of(now.heldBy(e, 0));
                    int bride = persons.of(now.heldBy(e, 1));
                    best = nearer(best, spouseDegree(groom, bride, one, two));
                    best = nearer(best, spouseDegree(bride, groom, one, two));
                }
            }
            return best == 1 || best == 2 ? best : 0;
        }

        private static int nearer(int best, int degree) {
            return best == NONE || (degree != NONE && degree < best) ? degree : best;
        }

        /** The least other DEGREE between a spouse of one of both, and the other one of both. */
        private int spouseDegree(int wed, int spouse, int one, int two) {
            if (wed == NONE || spouse == NONE) {
                return NONE;
            }
            int best = NONE;
            if (wed == one && spouse != two) {
                best = degreeOf(two, spouse, false);
            }
            if (wed == two && spouse != one) {
                best = nearer(best, degreeOf(one, spouse, false));
            }
            return best;
        }

        /** Whether one is godfather or godmother of the other one or of a CHILD of that. */
        boolean isGodkin(Register now, Persons persons, int one, int two) {
            for (int e = 0; e < now.entryCount; e++) {
                if (now.kindOf(e) == BAPTISM) {
                    int child = persons.of(now.heldBy(e, 0));
                    int godfather = persons.of(now.heldBy(e, 1));
                    int godmother = persons.of(now.heldBy(e, 2));
                    boolean isOfOne = child == one || isChild(child, one);
                    boolean isOfTwo = child == two || isChild(child, two);
                    if ((isOfTwo && (godfather == one || godmother == one))
                            || (isOfOne && (godfather == two || godmother == two))) {
                        return true;
                    }
                }
            }
            return false;
        }

        /** The PERSON with a NUMBER, as seen from a PERSON; NONE without. */
        int numbered(int person, int number) {
            int p = person;
            for (int bit = (LAST_NUMBER + 1) / 2; bit > 0 && p != NONE; bit = bit / 2) {
                if (number >= 2 * bit) {
                    p = parentOf(p, (number & bit) == 0);
                }
            }
            return p;
        }

        /** Gives each PERSON the smallest NUMBER that it has as seen from a PERSON, or NONE. */
        void giveNumbers(int person) {
            Arrays.fill(numbers, NONE);
            store(numbers, person, 1);
            store(queue, 0, person);
            int size = 1;
            for (int i = 0; i < size && i < MAX_MENTIONS; i++) {
                int p = at(queue, i);
                size = queued(size, fatherOf(p), 2 * at(numbers, p));
                size = queued(size, motherOf(p), 2 * at(numbers, p) + 1);
            }
        }

        private int queued(int size, int person, int number) {
            if (person == NONE || at(numbers, person) != NONE || number > LAST_NUMBER) {
                return size;
            }
            store(numbers, person, number);
            store(queue, size, person);
            return size + 1;
        }

        void writeLetters(StringBuilder text, Register now, int from, int to) {
            int left = ups.get(to, from);
            if (left == NONE) {
                text.append('-');
                return;
            }
            int p = from;
            while (left > 0) {
                left--;
                int child = firstChildTowards(now, p, to, left);
                text.append((char) (FIRST_LETTER + childPlace(now, p, child)));
                p = child;
            }
        }

        /** The first CHILD of a PERSON from which it is so many births down to another one. */
        private int firstChildTowards(Register now, int person, int to, int left) {
            int best = NONE;
            for (int c = 0; c < mentionCount; c++) {
                if (isChild(c, person) && ups.get(to, c) == left
                        && (best == NONE || now.isAhead(at(births, c), at(births, best)))) {
                    best = c;
                }
            }
            return best;
        }

        private int childPlace(Register now, int person, int child) {
            int place = 0;
            for (int c = 0; c < mentionCount; c++) {
                if (isChild(c, person) && now.isAhead(at(births, c), at(births, child))) {
                    place++;
                }
            }
            return place;
        }

        void tellTree(StringBuilder text, int person) {
            growTree(text, person, 0);
        }

        private void growTree(StringBuilder text, int person, int depth) {
            if (person == NONE || depth > MAX_DEPTH) {
                text.append('.');
                return;
            }
            text.append(person);
            if (fatherOf(person) == NONE && motherOf(person) == NONE) {
                return;
            }
            text.append('(');
            growTree(text, fatherOf(person), depth + 1);
            text.append(',');
            growTree(text, motherOf(person), depth + 1);
            text.append(')');
        }

        /** Whether numbered() of the NUMBER of each FOREBEAR is that one, for each PERSON. */
        boolean areNumbersSound() {
            for (int i = 0; i < orderSize; i++) {
                int p = at(order, i);
                giveNumbers(p);
                for (int z = 0; z < mentionCount; z++) {
                    int number = at(numbers, z);
                    if (number != NONE && numbered(p, number) != z) {
                        return false;
                    }
                }
            }
            return true;
        }

        /** Whether the PARTS are what rows of births from PERSONS above both come to. */
        boolean arePartsSound() {
            Arrays.fill(isOnRow, 0);
            for (int i = 0; i < orderSize; i++) {
                for (int j = 0; j < i; j++) {
                    int p = at(order, i);
                    int q = at(order, j);
                    if (climbed(p, q, 0) != partOf(p, q)) {
                        return false;
                    }
                }
            }
            return true;
        }

        /** The sum over all rows up from a PERSON, each with all rows from its top down to the other. */
        private int climbed(int top, int other, int births) {
            if (top == NONE || births > MAX_DEPTH) {
                return 0;
            }
            store(isOnRow, top, 1);
            int sum = met(other, top, births);
            sum += climbed(fatherOf(top), other, births + 1);
            sum += climbed(motherOf(top), other, births + 1);
            store(isOnRow, top, 0);
            return sum;
        }

        /** The sum over all rows up from a PERSON to a top that meet the first row only there. */
        private int met(int person, int top, int births) {
            if (person == top) {
                return births < 31 ? partOf(top, top) >> births : 0;
            }
            if (ups.get(person, top) == NONE || at(isOnRow, person) == 1 || births > MAX_DEPTH) {
                return 0;
            }
            return met(fatherOf(person), top, births + 1) + met(motherOf(person), top, births + 1);
        }
    }
}
