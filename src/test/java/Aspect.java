/** The parts of a box that a refused call must leave as they were, unless the document says otherwise. */
enum Aspect {
    STATE, PAST, SAVED, BUFFER, OUTPUT, ERROR, FAILED, REFUSAL
}
