import java.util.Arrays;

/**
 * A week of mock trials. DOC.md says what each call answers; this class looks at the arguments and
 * refuses them in the document's order, the classes inside hold the state and do the work.
 *
 * All rows are made in constructors and used again, so that no call makes an object.
 */
public final class MockTrials {
    public static final int NONE = -1;

    private static final int BAD_NUMBER = -1;
    private static final int NO_SUCH = -2;
    private static final int CAN_NOT_BE = -3;
    private static final int NO_ROOM = -5;
    private static final int BAD_TEXT = -6;
    private static final int NOTHING = -1000000;

    private static final int LAST_HOUR = 100000;
    private static final int MOST_SCHOOLS = 14;
    private static final int MOST_JUDGES = 20;
    private static final int MOST_KIN = 60;
    private static final int MOST_ROOMS = 7;
    private static final int MOST_ROUNDS = 8;
    private static final int MOST_TRIALS = MOST_SCHOOLS / 2;
    private static final int SEATS = 2;
    private static final int MOST_BALLOTS = 400;
    private static final int MOST_POINTS = 100;
    private static final int MOST_WITNESSES = 10;
    private static final int MOST_IMPLICATIONS = 40;
    private static final int FACTS = 32;
    private static final int MOST_BYTES = 400;
    private static final int FED_BYTES = 20;
    private static final int MOST_RULES = 20;
    private static final int MOST_NESTED = 8;
    private static final int KINDS = 4;

    private final People people;
    private final Rounds rounds;
    private final Ballots ballots;
    private final Standings standings;
    private final RoundMaker maker;
    private final Testimony testimony;
    private final Question question;
    private final Tape tape;
    private final RuleReader reader;
    private RuleBook book;
    private RuleBook spareBook;
    private int faultPlace;
    private int refusal;

    public MockTrials() {
        people = new People();
        rounds = new Rounds();
        ballots = new Ballots();
        standings = new Standings(people, rounds, ballots);
        maker = new RoundMaker(people, rounds, standings);
        testimony = new Testimony();
        question = new Question();
        tape = new Tape();
        book = new RuleBook();
        spareBook = new RuleBook();
        reader = new RuleReader(tape, spareBook);
        faultPlace = NONE;
        refusal = 0;
    }

    public int school() {
        if (people.schools >= MOST_SCHOOLS) {
            return refuse(NO_ROOM);
        }
        return accept(people.addSchool());
    }

    public int gone(int school, boolean is) {
        if (!people.hasSchool(school)) {
            return refuse(NO_SUCH);
        }
        people.there[school] = !is;
        return accept(0);
    }

    public int judge() {
        if (people.judges >= MOST_JUDGES) {
            return refuse(NO_ROOM);
        }
        return accept(people.addJudge());
    }

    public int kin(int judge, int school) {
        if (!people.hasJudge(judge) || !people.hasSchool(school)) {
            return refuse(NO_SUCH);
        }
        if (people.areKin(judge, school)) {
            return accept(people.kinMany);
        }
        if (people.kinMany >= MOST_KIN) {
            return refuse(NO_ROOM);
        }
        return accept(people.addKin(judge, school));
    }

    public int rooms(int many) {
        if (many < 1 || many > MOST_ROOMS) {
            return refuse(BAD_NUMBER);
        }
        int before = people.roomMany;
        people.roomMany = many;
        return accept(before);
    }

    public int pair(int known) {
        if (!isHour(known)) {
            return refuse(BAD_NUMBER);
        }
        int there = people.countThere();
        if (there < 2) {
            return refuse(CAN_NOT_BE);
        }
        if (rounds.many >= MOST_ROUNDS || there / 2 > people.roomMany) {
            return refuse(NO_ROOM);
        }
        standings.reckon(known);
        return accept(maker.makeRound());
    }

    public int trial(int round, int t, int what) {
        if (t == NONE) {
            return rounds.tellRound(round, what);
        }
        return rounds.tellTrial(round, t, what);
    }

    public int ballot(int round, int t, int judge, int accusing, int defending, int known) {
        if (!arePoints(accusing) || !arePoints(defending) || !isHour(known)) {
            return refuse(BAD_NUMBER);
        }
        int slot = rounds.findTrial(round, t);
        if (slot == NONE || !people.hasJudge(judge)) {
            return refuse(NO_SUCH);
        }
        int seat = rounds.findSeat(slot, judge);
        if (seat == NONE) {
            return refuse(CAN_NOT_BE);
        }
        if (ballots.many >= MOST_BALLOTS) {
            return refuse(NO_ROOM);
        }
        return accept(ballots.add(seat, accusing, defending, known));
    }

    public int counts(int round, int t, int judge, int side, int known) {
        int slot = rounds.findTrial(round, t);
        if (slot == NONE || !people.hasJudge(judge) || !isHour(known)) {
            return NONE;
        }
        int seat = rounds.findSeat(slot, judge);
        if (seat == NONE) {
            return NONE;
        }
        int counting = ballots.findCounting(seat, known);
        if (counting == NONE) {
            return NONE;
        }
        switch (side) {
            case 0: return ballots.accusing[counting];
            case 1: return ballots.defending[counting];
            default: return NONE;
        }
    }

    public int of(int school, int known, int what) {
        if (!people.hasSchool(school) || !isHour(known)) {
            return NOTHING;
        }
        standings.reckon(known);
        switch (what) {
            case 0: return standings.wins[school];
            case 1: return standings.halves[school];
            case 2: return standings.metWins[school];
            case 3: return standings.margins[school];
            case 4: return standings.placeOf(school);
            case 5: return rounds.accused[school];
            case 6: return rounds.byes[school];
            default: return NOTHING;
        }
    }

    public int at(int place, int known) {
        if (!isHour(known) || place < 0 || place >= people.countThere()) {
            return NONE;
        }
        standings.reckon(known);
        return standings.order[place];
    }

    public int span(int judge, int known) {
        if (!people.hasJudge(judge) || !isHour(known)) {
            return NONE;
        }
        standings.reckon(known);
        return standings.spanOf(judge);
    }

    public int met(int a, int b) {
        if (!people.hasSchool(a) || !people.hasSchool(b)) {
            return NONE;
        }
        return rounds.timesMet(a, b);
    }

    public int witness(int stated) {
        if (testimony.witnesses >= MOST_WITNESSES) {
            return refuse(NO_ROOM);
        }
        return accept(testimony.addWitness(stated));
    }

    public int implies(int of, int fact) {
        if (!isFact(fact)) {
            return refuse(BAD_NUMBER);
        }
        if (testimony.implications >= MOST_IMPLICATIONS) {
            return refuse(NO_ROOM);
        }
        return accept(testimony.addImplication(of, fact));
    }

    public int implied(int witness) {
        if (!testimony.hasWitness(witness)) {
            return 0;
        }
        return testimony.followAll(testimony.stated[witness]);
    }

    public int feed(int a, int b, int c, int d, int e) {
        if (tape.many + FED_BYTES > MOST_BYTES) {
            return NONE;
        }
        tape.addBytes(a);
        tape.addBytes(b);
        tape.addBytes(c);
        tape.addBytes(d);
        tape.addBytes(e);
        return tape.many;
    }

    public int end(int n) {
        if (n < 0 || n > tape.many) {
            return NONE;
        }
        tape.many = n;
        return n;
    }

    public int rules() {
        boolean good = reader.readInto(spareBook);
        tape.many = 0;
        if (!good) {
            faultPlace = reader.start;
            return refuse(BAD_TEXT);
        }
        faultPlace = NONE;
        RuleBook old = book;
        book = spareBook;
        spareBook = old;
        return accept(book.many);
    }

    public int fault() {
        return faultPlace;
    }

    public int object(int kind, int witness, int fact, boolean cross) {
        if (kind < 0 || kind >= KINDS || !testimony.hasWitness(witness) || !isFact(fact)) {
            return NONE;
        }
        int stated = testimony.stated[witness];
        question.fact = fact;
        question.cross = cross;
        question.stated = hasBit(stated, fact);
        question.implied = hasBit(testimony.followAll(stated), fact);
        question.asked = testimony.timesAsked(witness, fact) > 0;
        return book.sustains(kind, question) ? 1 : 0;
    }

    public int ask(int witness, int fact) {
        if (!isFact(fact)) {
            return refuse(BAD_NUMBER);
        }
        if (!testimony.hasWitness(witness)) {
            return refuse(NO_SUCH);
        }
        return accept(testimony.putQuestion(witness, fact));
    }

    public int count(int what) {
        switch (what) {
            case 0: return people.schools;
            case 1: return people.countThere();
            case 2: return people.judges;
            case 3: return people.kinMany;
            case 4: return rounds.many;
            case 5: return ballots.many;
            case 6: return testimony.witnesses;
            case 7: return testimony.implications;
            case 8: return book.many;
            case 9: return tape.many;
            case 10: return testimony.questions;
            default: return NONE;
        }
    }

    public int status() {
        return refusal;
    }

    private int refuse(int code) {
        refusal = code;
        return code;
    }

    private int accept(int answer) {
        refusal = 0;
        return answer;
    }

    private static boolean isHour(int hour) {
        return hour >= 0 && hour <= LAST_HOUR;
    }

    private static boolean arePoints(int points) {
        return points >= 0 && points <= MOST_POINTS;
    }

    private static boolean isFact(int fact) {
        return fact >= 0 && fact < FACTS;
    }

    private static boolean hasBit(int bits, int bit) {
        return (bits >>> bit & 1) == 1;
    }

    /** Schools, judges, who is kin to whom, and how many rooms they have. */
    private static final class People {
        int schools;
        final boolean[] there = new boolean[MOST_SCHOOLS];
        int judges;
        int kinMany;
        final boolean[] kinRows = new boolean[MOST_JUDGES * MOST_SCHOOLS];
        int roomMany = MOST_ROOMS;

        boolean hasSchool(int school) {
            return school >= 0 && school < schools;
        }

        boolean hasJudge(int judge) {
            return judge >= 0 && judge < judges;
        }

        int addSchool() {
            int number = schools;
            there[number] = true;
            schools++;
            return number;
        }

        int addJudge() {
            int number = judges;
            judges++;
            return number;
        }

        boolean areKin(int judge, int school) {
            return kinRows[judge * MOST_SCHOOLS + school];
        }

        int addKin(int judge, int school) {
            kinRows[judge * MOST_SCHOOLS + school] = true;
            kinMany++;
            return kinMany;
        }

        int countThere() {
            int many = 0;
            for (int school = 0; school < schools; school++) {
                if (there[school]) {
                    many++;
                }
            }
            return many;
        }
    }

    /**
     * The rounds that were made. A trial's slot is its place in the rows of all trials, a judge's
     * seat the place in the rows of all judges of all trials; a ballot needs to know its seat alone.
     */
    private static final class Rounds {
        int many;
        final int[] trialsOf = new int[MOST_ROUNDS];
        final int[] byeOf = new int[MOST_ROUNDS];
        final int[] accusing = new int[MOST_ROUNDS * MOST_TRIALS];
        final int[] defending = new int[MOST_ROUNDS * MOST_TRIALS];
        final int[] judgeAt = new int[MOST_ROUNDS * MOST_TRIALS * SEATS];
        final int[] accused = new int[MOST_SCHOOLS];
        final int[] byes = new int[MOST_SCHOOLS];
        private final int[] meetings = new int[MOST_SCHOOLS * MOST_SCHOOLS];
        private final boolean[] judgedRows = new boolean[MOST_JUDGES * MOST_SCHOOLS];

        int addRound() {
            int round = many;
            trialsOf[round] = 0;
            byeOf[round] = NONE;
            many++;
            return round;
        }

        void giveBye(int round, int school) {
            byeOf[round] = school;
            byes[school]++;
        }

        int addTrial(int round, int accuser, int defender) {
            int slot = round * MOST_TRIALS + trialsOf[round];
            trialsOf[round]++;
            accusing[slot] = accuser;
            defending[slot] = defender;
            for (int s = 0; s < SEATS; s++) {
                judgeAt[slot * SEATS + s] = NONE;
            }
            accused[accuser]++;
            meetings[accuser * MOST_SCHOOLS + defender]++;
            meetings[defender * MOST_SCHOOLS + accuser]++;
            return slot;
        }

        void seatJudge(int slot, int s, int judge) {
            judgeAt[slot * SEATS + s] = judge;
            judgedRows[judge * MOST_SCHOOLS + accusing[slot]] = true;
            judgedRows[judge * MOST_SCHOOLS + defending[slot]] = true;
        }

        int timesMet(int a, int b) {
            return meetings[a * MOST_SCHOOLS + b];
        }

        boolean hasJudged(int judge, int school) {
            return judgedRows[judge * MOST_SCHOOLS + school];
        }

        boolean isBusy(int round, int judge) {
            for (int t = 0; t < trialsOf[round]; t++) {
                if (findSeat(round * MOST_TRIALS + t, judge) != NONE) {
                    return true;
                }
            }
            return false;
        }

        int findTrial(int round, int t) {
            if (round < 0 || round >= many || t < 0 || t >= trialsOf[round]) {
                return NONE;
            }
            return round * MOST_TRIALS + t;
        }

        int findSeat(int slot, int judge) {
            for (int s = 0; s < SEATS; s++) {
                int seat = slot * SEATS + s;
                if (judgeAt[seat] == judge) {
                    return seat;
                }
            }
            return NONE;
        }

        int tellRound(int round, int what) {
            if (round < 0 || round >= many) {
                return NONE;
            }
            switch (what) {
                case 0: return trialsOf[round];
                case 1: return byeOf[round];
                default: return NONE;
            }
        }

        int tellTrial(int round, int t, int what) {
            int slot = findTrial(round, t);
            if (slot == NONE) {
                return NONE;
            }
            switch (what) {
                case 0: return accusing[slot];
                case 1: return defending[slot];
                case 2: return t;
                case 3: return judgeAt[slot * SEATS];
                case 4: return judgeAt[slot * SEATS + 1];
                default: return NONE;
            }
        }
    }

    /** The ballots in the order in which they were told; none is ever taken away. */
    private static final class Ballots {
        int many;
        final int[] seatOf = new int[MOST_BALLOTS];
        final int[] accusing = new int[MOST_BALLOTS];
        final int[] defending = new int[MOST_BALLOTS];
        final int[] hourOf = new int[MOST_BALLOTS];

        int add(int seat, int accuserPoints, int defenderPoints, int hour) {
            seatOf[many] = seat;
            accusing[many] = accuserPoints;
            defending[many] = defenderPoints;
            hourOf[many] = hour;
            many++;
            return many;
        }

        int findCounting(int seat, int hour) {
            for (int ballot = many - 1; ballot >= 0; ballot--) {
                if (seatOf[ballot] == seat && hourOf[ballot] <= hour) {
                    return ballot;
                }
            }
            return NONE;
        }

        /** Later ballots write over earlier ones, so that the one told last stays. */
        void fillCounting(int[] countingAt, int hour) {
            Arrays.fill(countingAt, NONE);
            for (int ballot = 0; ballot < many; ballot++) {
                if (hourOf[ballot] <= hour) {
                    countingAt[seatOf[ballot]] = ballot;
                }
            }
        }
    }

    /** What is known at one hour; each reckoning writes over the one before it. */
    private static final class Standings {
        final int[] wins = new int[MOST_SCHOOLS];
        final int[] halves = new int[MOST_SCHOOLS];
        final int[] metWins = new int[MOST_SCHOOLS];
        final int[] margins = new int[MOST_SCHOOLS];
        final int[] order = new int[MOST_SCHOOLS];
        int many;
        private final int[] countingAt = new int[MOST_ROUNDS * MOST_TRIALS * SEATS];
        private final int[] least = new int[MOST_JUDGES];
        private final int[] greatest = new int[MOST_JUDGES];
        private final People people;
        private final Rounds rounds;
        private final Ballots ballots;

        Standings(People people, Rounds rounds, Ballots ballots) {
            this.people = people;
            this.rounds = rounds;
            this.ballots = ballots;
        }

        void reckon(int hour) {
            clear();
            ballots.fillCounting(countingAt, hour);
            measureJudges();
            for (int round = 0; round < rounds.many; round++) {
                addRound(round);
            }
            // Wins of all must stand before those of the schools met can be added up.
            for (int round = 0; round < rounds.many; round++) {
                addMetWins(round);
            }
            sort();
        }

        int placeOf(int school) {
            for (int place = 0; place < many; place++) {
                if (order[place] == school) {
                    return place;
                }
            }
            return NONE;
        }

        int spanOf(int judge) {
            return Math.max(1, greatest[judge] - least[judge]);
        }

        private void clear() {
            Arrays.fill(wins, 0);
            Arrays.fill(halves, 0);
            Arrays.fill(metWins, 0);
            Arrays.fill(margins, 0);
            Arrays.fill(least, MOST_POINTS);
            Arrays.fill(greatest, 0);
        }

        private void measureJudges() {
            for (int seat = 0; seat < countingAt.length; seat++) {
                int ballot = countingAt[seat];
                if (ballot != NONE) {
                    measurePoints(rounds.judgeAt[seat], ballots.accusing[ballot]);
                    measurePoints(rounds.judgeAt[seat], ballots.defending[ballot]);
                }
            }
        }

        private void measurePoints(int judge, int points) {
            least[judge] = Math.min(least[judge], points);
            greatest[judge] = Math.max(greatest[judge], points);
        }

        private void addRound(int round) {
            int bye = rounds.byeOf[round];
            if (bye != NONE) {
                wins[bye] += 2;
            }
            for (int t = 0; t < rounds.trialsOf[round]; t++) {
                addTrial(round * MOST_TRIALS + t);
            }
        }

        private void addTrial(int slot) {
            int accuser = rounds.accusing[slot];
            int defender = rounds.defending[slot];
            int accuserHalves = 0;
            int defenderHalves = 0;
            for (int seat = slot * SEATS; seat < slot * SEATS + SEATS; seat++) {
                int ballot = countingAt[seat];
                if (ballot != NONE) {
                    int more = ballots.accusing[ballot] - ballots.defending[ballot];
                    int margin = more * 1000 / spanOf(rounds.judgeAt[seat]);
                    margins[accuser] += margin;
                    margins[defender] -= margin;
                    accuserHalves += shareOf(more);
                    defenderHalves += shareOf(-more);
                }
            }
            halves[accuser] += accuserHalves;
            halves[defender] += defenderHalves;
            if (accuserHalves + defenderHalves > 0) {
                wins[accuser] += shareOf(accuserHalves - defenderHalves);
                wins[defender] += shareOf(defenderHalves - accuserHalves);
            }
        }

        /** Halves of a ballot and wins of a trial are shared in the same way. */
        private static int shareOf(int more) {
            if (more == 0) {
                return 1;
            }
            return more > 0 ? 2 : 0;
        }

        private void addMetWins(int round) {
            for (int t = 0; t < rounds.trialsOf[round]; t++) {
                int slot = round * MOST_TRIALS + t;
                int accuser = rounds.accusing[slot];
                int defender = rounds.defending[slot];
                metWins[accuser] += wins[defender];
                metWins[defender] += wins[accuser];
            }
        }

        private void sort() {
            many = 0;
            for (int school = 0; school < people.schools; school++) {
                if (people.there[school]) {
                    insert(school);
                }
            }
        }

        /** Schools come by number, so that of alike ones the lower number stays ahead. */
        private void insert(int school) {
            int place = many;
            while (place > 0 && isAhead(school, order[place - 1])) {
                order[place] = order[place - 1];
                place--;
            }
            order[place] = school;
            many++;
        }

        private boolean isAhead(int a, int b) {
            if (wins[a] != wins[b]) {
                return wins[a] > wins[b];
            }
            if (halves[a] != halves[b]) {
                return halves[a] > halves[b];
            }
            if (metWins[a] != metWins[b]) {
                return metWins[a] > metWins[b];
            }
            return margins[a] > margins[b];
        }
    }

    /** Makes a round of the standings as they were reckoned last. */
    private static final class RoundMaker {
        private final int[] line = new int[MOST_SCHOOLS];
        private int lineMany;
        private final Pairing pairing = new Pairing();
        private final People people;
        private final Rounds rounds;
        private final Standings standings;

        RoundMaker(People people, Rounds rounds, Standings standings) {
            this.people = people;
            this.rounds = rounds;
            this.standings = standings;
        }

        int makeRound() {
            int round = rounds.addRound();
            int bye = chooseBye();
            if (bye != NONE) {
                rounds.giveBye(round, bye);
            }
            lineUp(bye);
            weighPairs();
            pairing.solve(lineMany);
            for (int p = 0; p < lineMany / 2; p++) {
                int slot = addTrial(round, line[pairing.ahead[p]], line[pairing.behind[p]]);
                seatJudges(round, slot);
            }
            return round;
        }

        private int chooseBye() {
            if (standings.many % 2 == 0) {
                return NONE;
            }
            for (int place = standings.many - 1; place >= 0; place--) {
                if (rounds.byes[standings.order[place]] == 0) {
                    return standings.order[place];
                }
            }
            return standings.order[standings.many - 1];
        }

        private void lineUp(int bye) {
            lineMany = 0;
            for (int place = 0; place < standings.many; place++) {
                if (standings.order[place] != bye) {
                    line[lineMany] = standings.order[place];
                    lineMany++;
                }
            }
        }

        private void weighPairs() {
            for (int i = 0; i < lineMany; i++) {
                for (int j = i + 1; j < lineMany; j++) {
                    int more = standings.wins[line[i]] - standings.wins[line[j]];
                    pairing.setWeight(i, j, rounds.timesMet(line[i], line[j]) > 0, more * more);
                }
            }
        }

        private int addTrial(int round, int ahead, int behind) {
            if (rounds.accused[behind] < rounds.accused[ahead]) {
                return rounds.addTrial(round, behind, ahead);
            }
            return rounds.addTrial(round, ahead, behind);
        }

        private void seatJudges(int round, int slot) {
            int seated = 0;
            for (int judge = 0; judge < people.judges && seated < SEATS; judge++) {
                if (!rounds.isBusy(round, judge)
                        && isStranger(judge, rounds.accusing[slot])
                        && isStranger(judge, rounds.defending[slot])) {
                    rounds.seatJudge(slot, seated, judge);
                    seated++;
                }
            }
        }

        private boolean isStranger(int judge, int school) {
            return !people.areKin(judge, school) && !rounds.hasJudged(judge, school);
        }
    }

    /**
     * Pairs the places of a line with the least weight. Who is still unpaired is a set of bits; as
     * the first of them is always paired next, few of all sets ever come up, each reckoned once.
     */
    private static final class Pairing {
        // Above any sum of squares: 7 pairs, 16 wins at most between two schools.
        private static final int MET_WEIGHT = 100000;
        private static final int UNKNOWN = -1;
        final int[] ahead = new int[MOST_TRIALS];
        final int[] behind = new int[MOST_TRIALS];
        private final int[] weights = new int[MOST_SCHOOLS * MOST_SCHOOLS];
        private final int[] leastOf = new int[1 << MOST_SCHOOLS];

        void setWeight(int i, int j, boolean haveMet, int square) {
            weights[i * MOST_SCHOOLS + j] = haveMet ? MET_WEIGHT + square : square;
        }

        void solve(int lineMany) {
            Arrays.fill(leastOf, UNKNOWN);
            int left = (1 << lineMany) - 1;
            for (int p = 0; p < lineMany / 2; p++) {
                int first = Integer.numberOfTrailingZeros(left);
                int partner = choosePartner(left, first, lineMany);
                ahead[p] = first;
                behind[p] = partner;
                left = without(left, first, partner);
            }
        }

        private int choosePartner(int left, int first, int lineMany) {
            int least = leastWeight(left, lineMany / 2);
            for (int partner = first + 1; partner < lineMany; partner++) {
                if (hasBit(left, partner) && weightWith(left, first, partner, lineMany / 2) == least) {
                    return partner;
                }
            }
            return first;
        }

        private int leastWeight(int left, int depth) {
            if (left == 0 || depth <= 0) {
                return 0;
            }
            if (leastOf[left] != UNKNOWN) {
                return leastOf[left];
            }
            int first = Integer.numberOfTrailingZeros(left);
            int least = Integer.MAX_VALUE;
            for (int partner = first + 1; partner < MOST_SCHOOLS; partner++) {
                if (hasBit(left, partner)) {
                    least = Math.min(least, weightWith(left, first, partner, depth));
                }
            }
            leastOf[left] = least;
            return least;
        }

        private int weightWith(int left, int first, int partner, int depth) {
            int own = weights[first * MOST_SCHOOLS + partner];
            return own + leastWeight(without(left, first, partner), depth - 1);
        }

        private static int without(int left, int first, int partner) {
            return left & ~(1 << first) & ~(1 << partner);
        }
    }

    /** Witnesses with what they stated, what follows of what, and the questions that were put. */
    private static final class Testimony {
        int witnesses;
        final int[] stated = new int[MOST_WITNESSES];
        int implications;
        private final int[] reasons = new int[MOST_IMPLICATIONS];
        private final int[] follows = new int[MOST_IMPLICATIONS];
        int questions;
        private final int[] askedRows = new int[MOST_WITNESSES * FACTS];

        boolean hasWitness(int witness) {
            return witness >= 0 && witness < witnesses;
        }

        int addWitness(int facts) {
            int number = witnesses;
            stated[number] = facts;
            witnesses++;
            return number;
        }

        int addImplication(int facts, int fact) {
            reasons[implications] = facts;
            follows[implications] = 1 << fact;
            implications++;
            return implications;
        }

        /** Each pass but the last adds a fact, so that as many passes as facts are enough. */
        int followAll(int facts) {
            int all = facts;
            for (int pass = 0; pass < FACTS; pass++) {
                int before = all;
                for (int i = 0; i < implications; i++) {
                    if ((reasons[i] & ~all) == 0) {
                        all |= follows[i];
                    }
                }
                if (all == before) {
                    return all;
                }
            }
            return all;
        }

        int timesAsked(int witness, int fact) {
            return askedRows[witness * FACTS + fact];
        }

        int putQuestion(int witness, int fact) {
            int before = timesAsked(witness, fact);
            askedRows[witness * FACTS + fact]++;
            questions++;
            return before;
        }
    }

    /** The bytes that came and were not read yet. */
    private static final class Tape {
        int many;
        private final char[] bytes = new char[MOST_BYTES];

        void addBytes(int four) {
            for (int shift = 24; shift >= 0 && many < MOST_BYTES; shift -= 8) {
                bytes[many] = (char) (four >>> shift & 255);
                many++;
            }
        }

        char byteAt(int place) {
            return place >= 0 && place < many ? bytes[place] : 0;
        }
    }

    /** A question as a condition sees it. */
    private static final class Question {
        int fact;
        boolean cross;
        boolean stated;
        boolean implied;
        boolean asked;
    }

    /**
     * Rules that were read. Conditions are kept as codes, an operator behind what it joins: 0 .. 31
     * ask for that fact.
     */
    private static final class RuleBook {
        static final int CROSS = 32;
        static final int STATED = 33;
        static final int IMPLIED = 34;
        static final int ASKED = 35;
        static final int NOT = 36;
        static final int AND = 37;
        static final int OR = 38;
        // Within each of the brackets one side of an "or" and one of an "and" may wait: 18 and a value.
        private static final int MOST_WAITING = 32;

        int many;
        private final int[] kindOf = new int[MOST_RULES];
        private final int[] startOf = new int[MOST_RULES];
        private final int[] stopOf = new int[MOST_RULES];
        private final int[] codes = new int[MOST_BYTES];
        private int codeMany;
        private final boolean[] waiting = new boolean[MOST_WAITING];
        private int top;

        void clear() {
            many = 0;
            codeMany = 0;
        }

        void addRule(int kind) {
            if (many < MOST_RULES) {
                kindOf[many] = kind;
                startOf[many] = codeMany;
                stopOf[many] = codeMany;
                many++;
            }
        }

        void addCode(int code) {
            if (codeMany < MOST_BYTES && many > 0) {
                codes[codeMany] = code;
                codeMany++;
                stopOf[many - 1] = codeMany;
            }
        }

        boolean sustains(int kind, Question question) {
            for (int rule = 0; rule < many; rule++) {
                if (kindOf[rule] == kind && holds(rule, question)) {
                    return true;
                }
            }
            return false;
        }

        private boolean holds(int rule, Question question) {
            if (startOf[rule] == stopOf[rule]) {
                return true;
            }
            top = 0;
            for (int i = startOf[rule]; i < stopOf[rule]; i++) {
                apply(codes[i], question);
            }
            return pop();
        }

        private void apply(int code, Question question) {
            switch (code) {
                case CROSS: push(question.cross); break;
                case STATED: push(question.stated); break;
                case IMPLIED: push(question.implied); break;
                case ASKED: push(question.asked); break;
                case NOT: push(!pop()); break;
                case AND: push(pop() & pop()); break;
                case OR: push(pop() | pop()); break;
                default: push(question.fact == code); break;
            }
        }

        private void push(boolean value) {
            if (top < MOST_WAITING) {
                waiting[top] = value;
                top++;
            }
        }

        private boolean pop() {
            if (top <= 0) {
                return false;
            }
            top--;
            return waiting[top];
        }
    }

    /**
     * Reads the tape as rules. Every method that answers false leaves the token that can't go on as
     * the current one, so that its start is the fault.
     */
    private static final class RuleReader {
        private static final int LETTER = 0;
        private static final int DIGIT = 1;
        private static final int OTHER = 2;
        int start;
        private int stop;
        private final Tape tape;
        private RuleBook into;

        RuleReader(Tape tape, RuleBook into) {
            this.tape = tape;
            this.into = into;
        }

        boolean readInto(RuleBook target) {
            into = target;
            into.clear();
            stop = 0;
            step();
            if (isOver()) {
                return true;
            }
            for (int rule = 0; rule < MOST_RULES; rule++) {
                if (!readRule()) {
                    return false;
                }
                if (isOver()) {
                    return true;
                }
                if (!take(";")) {
                    return false;
                }
            }
            return false;
        }

        private boolean readRule() {
            if (!take("sustain")) {
                return false;
            }
            int kind = takeKind();
            if (kind == NONE) {
                return false;
            }
            into.addRule(kind);
            return !take("if") || readOr(0);
        }

        private int takeKind() {
            if (take("leading")) {
                return 0;
            }
            if (take("hearsay")) {
                return 1;
            }
            if (take("stretch")) {
                return 2;
            }
            return take("relevance") ? 3 : NONE;
        }

        private boolean readOr(int nested) {
            if (!readAnd(nested)) {
                return false;
            }
            for (int i = 0; i < MOST_BYTES && take("or"); i++) {
                if (!readAnd(nested)) {
                    return false;
                }
                into.addCode(RuleBook.OR);
            }
            return true;
        }

        private boolean readAnd(int nested) {
            if (!readNot(nested)) {
                return false;
            }
            for (int i = 0; i < MOST_BYTES && take("and"); i++) {
                if (!readNot(nested)) {
                    return false;
                }
                into.addCode(RuleBook.AND);
            }
            return true;
        }

        private boolean readNot(int nested) {
            if (isAt("not") || isAt("(")) {
                return nested < MOST_NESTED && readNested(nested + 1);
            }
            if (take("fact")) {
                return readNumber();
            }
            int code = takeWord();
            if (code == NONE) {
                return false;
            }
            into.addCode(code);
            return true;
        }

        private boolean readNested(int nested) {
            if (take("(")) {
                return readOr(nested) && take(")");
            }
            if (!take("not") || !readNot(nested)) {
                return false;
            }
            into.addCode(RuleBook.NOT);
            return true;
        }

        private int takeWord() {
            if (take("cross")) {
                return RuleBook.CROSS;
            }
            if (take("stated")) {
                return RuleBook.STATED;
            }
            if (take("implied")) {
                return RuleBook.IMPLIED;
            }
            return take("asked") ? RuleBook.ASKED : NONE;
        }

        private boolean readNumber() {
            if (isOver() || sortOf(tape.byteAt(start)) != DIGIT) {
                return false;
            }
            int number = 0;
            for (int place = start; place < stop; place++) {
                // A long row of digits must not come round to a small number.
                number = Math.min(FACTS, number * 10 + tape.byteAt(place) - '0');
            }
            if (!isFact(number)) {
                return false;
            }
            into.addCode(number);
            step();
            return true;
        }

        private boolean take(String token) {
            if (!isAt(token)) {
                return false;
            }
            step();
            return true;
        }

        private boolean isAt(String token) {
            if (stop - start != token.length()) {
                return false;
            }
            for (int i = 0; i < token.length(); i++) {
                if (tape.byteAt(start + i) != token.charAt(i)) {
                    return false;
                }
            }
            return true;
        }

        private boolean isOver() {
            return start >= tape.many;
        }

        private void step() {
            start = stop;
            while (start < tape.many && tape.byteAt(start) == ' ') {
                start++;
            }
            stop = start;
            if (isOver()) {
                return;
            }
            int sort = sortOf(tape.byteAt(start));
            stop++;
            while (sort != OTHER && stop < tape.many && sortOf(tape.byteAt(stop)) == sort) {
                stop++;
            }
        }

        private static int sortOf(char c) {
            if (c >= 'a' && c <= 'z') {
                return LETTER;
            }
            return c >= '0' && c <= '9' ? DIGIT : OTHER;
        }
    }
}
